import java.util.Arrays;
import java.util.HashMap;
import java.util.HashSet;
import java.util.Map;
import java.util.NoSuchElementException;
import java.util.Random;
import java.util.Set;

/** Rules by the thousand against answers found by trying all rows and rings, the plainest way. */
public final class PlainTests {
    private static final int[] WIDTHS = {0, 0, 4, 3, 2};
    private static int wrong = 0;

    public static void main(String[] args) {
        Random random = new Random(20261118);
        for (int i = 0; i < 3000 && wrong < 20; i++) {
            int k = 2 + random.nextInt(3);
            int r = 1 + random.nextInt(WIDTHS[k]);
            int[] told = randomTable(random, k, r);
            steps(random, k, r, told);
            behind(random, k, r, told);
            missed(k, r, told);
            heights(random, k, r, told);
            all(random, k, r, told);
            keeps(random, k, r, told);
            turned(random, k, r, told);
            joined(random, k, r, told);
            trimmed(random, k, r, told);
        }
        for (int k = 2; k <= 4; k++) {
            for (int r = 1; r <= WIDTHS[k]; r++) {
                backs(random, k, r);
            }
        }
        longTrails(random);
        oldAndNew(random);
        allOfWidthFour();
        if (wrong != 0) {
            System.out.println(wrong + " answers are not as due");
            System.exit(1);
        }
    }

    // ---- the plain answers

    private static int word(int k, int[] cells, int from, int r) {
        int word = 0;
        for (int i = 0; i < r; i++) {
            word = word * k + cells[(from + i) % cells.length];
        }
        return word;
    }

    private static int[] rowOf(int k, int r, int[] told, int[] cells) {
        int[] grown = new int[cells.length - r + 1];
        for (int i = 0; i < grown.length; i++) {
            grown[i] = told[word(k, cells, i, r)];
        }
        return grown;
    }

    private static int[] ringOf(int k, int r, int[] told, int[] cells) {
        int[] grown = new int[cells.length];
        for (int i = 0; i < grown.length; i++) {
            grown[i] = told[word(k, cells, i, r)];
        }
        return grown;
    }

    private static int[] digits(int k, int code, int n) {
        int[] cells = new int[n];
        for (int i = n - 1; i >= 0; i--) {
            cells[i] = code % k;
            code /= k;
        }
        return cells;
    }

    private static int power(int k, int n) {
        int product = 1;
        for (int i = 0; i < n; i++) {
            product *= k;
        }
        return product;
    }

    /** Height and length, or null if they are together above the limit. */
    private static int[] heightOf(int k, int r, int[] told, int[] cells, int limit) {
        Map<String, Integer> seen = new HashMap<>();
        int[] at = cells;
        for (int step = 0; step <= limit; step++) {
            Integer before = seen.put(Arrays.toString(at), step);
            if (before != null) {
                return new int[] {before, step - before};
            }
            at = ringOf(k, r, told, at);
        }
        return null;
    }

    // ---- one rule, promise by promise

    private static void steps(Random random, int k, int r, int[] told) {
        MossRings x = withRule(k, r, told);
        int[] cells = randomCells(random, k, r + random.nextInt(101 - r));
        put(x, cells);
        due("row", x.row(0), cells.length - r + 1);
        dueOut("row", x, rowOf(k, r, told, cells));
        cells = randomCells(random, k, 1 + random.nextInt(30));
        int t = random.nextInt(20);
        put(x, cells);
        due("ring", x.ring(0, t), cells.length);
        for (int i = 0; i < t; i++) {
            cells = ringOf(k, r, told, cells);
        }
        dueOut("ring", x, cells);
    }

    private static void behind(Random random, int k, int r, int[] told) {
        int n = 1 + random.nextInt(5);
        int[] cells = randomCells(random, k, n);
        MossRings x = withRule(k, r, told);
        for (int ring = 0; ring < 2; ring++) {
            int length = ring == 1 ? n : n + r - 1;
            int found = 0;
            int[] first = {};
            for (int code = 0; code < power(k, length); code++) {
                int[] one = digits(k, code, length);
                int[] grown = ring == 1 ? ringOf(k, r, told, one) : rowOf(k, r, told, one);
                if (Arrays.equals(grown, cells)) {
                    first = found == 0 ? one : first;
                    found++;
                }
            }
            MossRings y = withRule(k, r, told);
            put(y, cells);
            due("behind", ring == 1 ? y.ringsBehind(0) : y.behind(0), found);
            dueOut("behind", y, first);
            put(x, cells);
            due("behind again", ring == 1 ? x.ringsBehind(0) : x.behind(0), found);
        }
        longBehind(random, k, r, told);
    }

    /** Long rows can't be tried one by one; a row that is led to has the row it came from, or a lesser one, as the first. */
    private static void longBehind(Random random, int k, int r, int[] told) {
        int n = 1 + random.nextInt(20);
        int[] from = randomCells(random, k, n + r - 1);
        MossRings x = withRule(k, r, told);
        int[] row = rowOf(k, r, told, from);
        put(x, row);
        due("long behind some", x.behind(0) > 0 ? 1 : 0, 1);
        int[] first = out(x);
        due("long behind length", first.length, n + r - 1);
        due("long behind leads", Arrays.equals(rowOf(k, r, told, first), row) ? 1 : 0, 1);
        due("long behind first", Arrays.compare(first, from) <= 0 ? 1 : 0, 1);
        from = randomCells(random, k, n);
        int[] ring = ringOf(k, r, told, from);
        put(x, ring);
        due("long ring behind some", x.ringsBehind(0) > 0 ? 1 : 0, 1);
        first = out(x);
        due("long ring behind length", first.length, n);
        due("long ring behind leads", Arrays.equals(ringOf(k, r, told, first), ring) ? 1 : 0, 1);
        due("long ring behind first", Arrays.compare(first, from) <= 0 ? 1 : 0, 1);
    }

    private static void missed(int k, int r, int[] told) {
        int most = k == 2 ? 10 : k == 3 ? 6 : 5;
        int[] first = null;
        for (int n = 1; n <= most && first == null; n++) {
            boolean[] led = new boolean[power(k, n)];
            for (int code = 0; code < power(k, n + r - 1); code++) {
                int[] row = rowOf(k, r, told, digits(k, code, n + r - 1));
                led[word(k, row, 0, n)] = true;
            }
            for (int code = 0; code < led.length && first == null; code++) {
                first = led[code] ? null : digits(k, code, n);
            }
        }
        MossRings x = withRule(k, r, told);
        int cells = x.missed(0);
        due("full or not", x.about(0, 2), cells == 0 ? 1 : 0);
        if (first != null) {
            due("missed", cells, first.length);
            dueOut("missed", x, first);
        } else {
            due("missed longer", cells == 0 || cells > most ? 1 : 0, 1);
            dueMissed(x, cells);
        }
    }

    /** A missed row has none behind it, but without its last or first cell it has. */
    private static void dueMissed(MossRings x, int cells) {
        int[] row = out(x);
        if (cells < 1 || cells > 20) {
            return;
        }
        put(x, row);
        due("missed has none behind", x.behind(0), 0);
        put(x, Arrays.copyOf(row, cells - 1));
        due("without its last cell", x.behind(0) > 0 ? 1 : 0, 1);
        put(x, Arrays.copyOfRange(row, 1, cells));
        due("without its first cell", x.behind(0) > 0 ? 1 : 0, 1);
    }

    private static void heights(Random random, int k, int r, int[] told) {
        int[] cells = randomCells(random, k, 1 + random.nextInt(12));
        MossRings x = withRule(k, r, told);
        int[] want = heightOf(k, r, told, cells, 20000);
        put(x, cells);
        due("height", x.height(0), want == null ? -1 : want[0]);
        due("round", x.round(), want == null ? 0 : want[1]);
    }

    private static void all(Random random, int k, int r, int[] told) {
        int n = 1 + random.nextInt(k == 2 ? 7 : 4);
        int rings = power(k, n);
        Set<Integer> led = new HashSet<>();
        int onRounds = 0;
        double rounds = 0;
        int height = 0;
        int length = 0;
        for (int code = 0; code < rings; code++) {
            int[] cells = digits(k, code, n);
            led.add(word(k, ringOf(k, r, told, cells), 0, n));
            int[] one = heightOf(k, r, told, cells, rings + 1);
            onRounds += one[0] == 0 ? 1 : 0;
            rounds += one[0] == 0 ? 1.0 / one[1] : 0;
            height = Math.max(height, one[0]);
            length = Math.max(length, one[1]);
        }
        int[] want = {rings - led.size(), onRounds, (int) Math.round(rounds), height, length};
        MossRings x = withRule(k, r, told);
        for (int what = 0; what < 5; what++) {
            due("all " + what, x.all(0, n, what), want[what]);
        }
        due("all of one more cell", x.all(0, n + 1, 1) > 0 ? 1 : 0, 1);
        due("all again", x.all(0, n, 1), onRounds);
    }

    /** All ways round without a node twice have at most as many cells as there are nodes. */
    private static void keeps(Random random, int k, int r, int[] told) {
        int[] weights = new int[k];
        for (int i = 0; i < k; i++) {
            weights[i] = random.nextInt(4) == 0 ? random.nextInt(256) - 128 : random.nextInt(3) - 1;
        }
        boolean holds = true;
        for (int n = 1; n <= Math.min(power(k, r - 1), 8) && holds; n++) {
            for (int code = 0; code < power(k, n) && holds; code++) {
                int[] cells = digits(k, code, n);
                int[] grown = ringOf(k, r, told, cells);
                int sum = 0;
                for (int i = 0; i < n; i++) {
                    sum += weights[cells[i]] - weights[grown[i]];
                }
                holds = sum == 0;
            }
        }
        MossRings x = withRule(k, r, told);
        int[] bytes = new int[k];
        for (int i = 0; i < k; i++) {
            bytes[i] = weights[i] & 255;
        }
        put(x, bytes);
        due("keeps " + Arrays.toString(weights) + Arrays.toString(told), x.keeps(0), holds ? 1 : 0);
    }

    private static void turned(Random random, int k, int r, int[] told) {
        MossRings x = withRule(k, r, told);
        int[] cells = randomCells(random, k, r + random.nextInt(20));
        int[] row = rowOf(k, r, told, cells);
        due("mirror", x.mirror(0, 1) ? 1 : 0, 1);
        put(x, reversed(cells));
        x.row(1);
        dueOut("mirror", x, reversed(row));
        int[] names = new int[k];
        for (int i = 1; i < k; i++) {
            int j = random.nextInt(i + 1);
            names[i] = names[j];
            names[j] = i;
        }
        put(x, names);
        due("rename", x.rename(0, 2) ? 1 : 0, 1);
        int[] places = new int[k];
        for (int i = 0; i < k; i++) {
            places[names[i]] = i;
        }
        put(x, cells);
        x.row(2);
        dueOut("rename", x, named(rowOf(k, r, told, named(cells, names)), places));
    }

    private static void joined(Random random, int k, int r, int[] told) {
        int q = 1 + random.nextInt(WIDTHS[k]);
        int[] then = randomTable(random, k, q);
        MossRings x = withRule(k, r, told);
        put(x, then);
        x.rule(1, k, q);
        int width = r + q - 1;
        int u = random.nextInt(3);
        due("join", x.join(0, 1, u), width <= WIDTHS[k] ? width : -1);
        if (width <= WIDTHS[k]) {
            int[] cells = randomCells(random, k, width + random.nextInt(20));
            put(x, cells);
            x.row(u);
            dueOut("join", x, rowOf(k, q, then, rowOf(k, r, told, cells)));
        }
    }

    private static void trimmed(Random random, int k, int r, int[] told) {
        int least = 0;
        int ahead = 0;
        for (int w = 1; w <= r && least == 0; w++) {
            for (int a = r - w; a >= 0 && least == 0; a--) {
                if (tellsOf(k, r, told, a, w)) {
                    least = w;
                    ahead = a;
                }
            }
        }
        MossRings x = withRule(k, r, told);
        int t = random.nextInt(6);
        due("trim " + Arrays.toString(told), x.trim(0, t), ahead);
        due("trim width", x.about(t, 1), least);
        int[] cells = randomCells(random, k, 20);
        put(x, Arrays.copyOfRange(cells, ahead, 20 - (r - least - ahead)));
        x.row(t);
        dueOut("trim", x, rowOf(k, r, told, cells));
    }

    /** Whether the table tells the same of words that are alike at places a .. a + w - 1. */
    private static boolean tellsOf(int k, int r, int[] told, int a, int w) {
        Map<Integer, Integer> seen = new HashMap<>();
        for (int code = 0; code < told.length; code++) {
            int[] cells = digits(k, code, r);
            Integer before = seen.put(word(k, cells, a, w), told[code]);
            if (before != null && before != told[code]) {
                return false;
            }
        }
        return true;
    }

    /** Rules that lose nothing are rare: take those that a chance search finds, and some that surely are. */
    private static void backs(Random random, int k, int r) {
        for (int i = 0; i < 400 && wrong < 20; i++) {
            int[] told = i % 2 == 0 ? randomTable(random, k, r) : swapping(random, k, r);
            MossRings x = withRule(k, r, told);
            int got = x.back(0, 1);
            due("back " + k + " " + r + Arrays.toString(told), got, plainBack(k, r, told));
            int loses = x.about(0, 3);
            if (got > 0) {
                due("loses nothing", loses, 1);
                due("full", x.about(0, 2), 1);
                int[] cells = randomCells(random, k, r + got / 10 - 1 + random.nextInt(10));
                put(x, rowOf(k, r, told, cells));
                int left = x.row(1);
                dueOut("back", x, Arrays.copyOfRange(cells, got % 10, got % 10 + left));
            } else {
                due("nothing came", x.count(0), 1);
            }
            if (loses == 1) {
                due("no ring lost", x.all(0, k == 2 ? 9 : 5, 0), 0);
            } else {
                due("some ring lost", someRingLost(x, k) ? 1 : 0, 1);
            }
        }
    }

    private static boolean someRingLost(MossRings x, int k) {
        int most = k == 2 ? 12 : k == 3 ? 7 : 6;
        for (int n = 1; n <= most; n++) {
            if (x.all(0, n, 0) > 0) {
                return true;
            }
        }
        return false;
    }

    private static int plainBack(int k, int r, int[] told) {
        for (int w = 1; w <= WIDTHS[k]; w++) {
            int length = r + w - 1;
            for (int d = 0; d < length; d++) {
                Map<String, Integer> cell = new HashMap<>();
                boolean same = true;
                for (int code = 0; code < power(k, length) && same; code++) {
                    int[] cells = digits(k, code, length);
                    Integer before = cell.put(Arrays.toString(rowOf(k, r, told, cells)), cells[d]);
                    same = before == null || before == cells[d];
                }
                if (same) {
                    return 10 * w + d;
                }
            }
        }
        return 0;
    }

    /** A cell is changed by a permutation that hangs on its neighbours: often, not always, nothing is lost. */
    private static int[] swapping(Random random, int k, int r) {
        int place = random.nextInt(r);
        int[] names = new int[k];
        for (int i = 1; i < k; i++) {
            int j = random.nextInt(i + 1);
            names[i] = names[j];
            names[j] = i;
        }
        int seldom = random.nextInt(power(k, r - 1) + 1);
        int[] told = new int[power(k, r)];
        for (int code = 0; code < told.length; code++) {
            int[] cells = digits(k, code, r);
            int cell = cells[place];
            cells[place] = 0;
            int others = word(k, cells, 0, r) / power(k, r - 1 - place) / k * power(k, r - 1 - place)
                + word(k, cells, 0, r) % power(k, r - 1 - place);
            told[code] = others == seldom ? names[cell] : cell;
        }
        return told;
    }

    /** Looks for trails that are just as long as may be, and one step longer. */
    private static void longTrails(Random random) {
        int edges = 0;
        for (int i = 0; i < 400 && edges < 2; i++) {
            int k = 2 + random.nextInt(3);
            int r = WIDTHS[k];
            int[] told = randomTable(random, k, r);
            int[] cells = randomCells(random, k, 16 + random.nextInt(5));
            int[] long1 = heightOf(k, r, told, cells, 60000);
            if (long1 == null || long1[0] + long1[1] < 20002 || long1[1] > 20000) {
                int sum = long1 == null ? 0 : long1[0] + long1[1];
                dueTrail(k, r, told, cells, long1 != null && sum <= 20000 ? long1 : null);
                continue;
            }
            int ahead = long1[0] + long1[1] - 20002;
            if (long1[0] < ahead + 2) {
                continue;
            }
            for (int step = 0; step < ahead; step++) {
                cells = ringOf(k, r, told, cells);
            }
            int left = long1[0] - ahead;
            dueTrail(k, r, told, cells, null);
            cells = ringOf(k, r, told, cells);
            dueTrail(k, r, told, cells, null);
            cells = ringOf(k, r, told, cells);
            dueTrail(k, r, told, cells, new int[] {left - 2, long1[1]});
            edges++;
        }
        due("trails at the edge were found", edges, 2);
    }

    private static void dueTrail(int k, int r, int[] told, int[] cells, int[] want) {
        MossRings x = withRule(k, r, told);
        put(x, cells);
        due("long height", x.height(0), want == null ? -1 : want[0]);
        due("long round", x.round(), want == null ? 0 : want[1]);
    }

    /** What an object was asked before changes no answer: an old one and a new one are asked the same. */
    private static void oldAndNew(Random random) {
        for (int i = 0; i < 300 && wrong < 20; i++) {
            MossRings old = new MossRings();
            for (int asked = 0; asked < 4; asked++) {
                int k = 2 + random.nextInt(3);
                int r = 1 + random.nextInt(WIDTHS[k]);
                int[] told = randomTable(random, k, r);
                int[] cells = randomCells(random, k, 1 + random.nextInt(6));
                String young = askAll(withRule(k, r, told), cells, k);
                put(old, told);
                due("rule", old.rule(0, k, r) ? 1 : 0, 1);
                String got = askAll(old, cells, k);
                if (!got.equals(young)) {
                    wrong++;
                    System.out.println("an old object answered " + got + ", a new one " + young);
                }
            }
        }
    }

    /** Some hundred calls at most, so that four times are fewer than an object may be asked. */
    private static String askAll(MossRings x, int[] cells, int k) {
        StringBuilder answers = new StringBuilder("about " + x.about(0, 2) + x.about(0, 3));
        int missed = x.missed(0);
        answers.append(" missed ").append(missed).append(missed > 0 ? Arrays.toString(out(x)) : "");
        put(x, cells);
        long rows = x.behind(0);
        answers.append(" rows ").append(rows).append(rows > 0 ? Arrays.toString(out(x)) : "");
        put(x, cells);
        long rings = x.ringsBehind(0);
        answers.append(" rings ").append(rings).append(rings > 0 ? Arrays.toString(out(x)) : "");
        put(x, cells);
        answers.append(" height ").append(x.height(0)).append(" round ").append(x.round());
        for (int n = 3; n >= 1; n--) {
            for (int what = 0; what < 5; what++) {
                answers.append(what == 0 ? " all " : ",").append(x.all(0, n, what));
            }
        }
        put(x, digits(2, 1, k));
        answers.append(" keeps ").append(x.keeps(0));
        int back = x.back(0, 1);
        answers.append(" back ").append(back).append(back > 0 ? tableOf(x) : "");
        int joined = x.join(0, 0, 1);
        answers.append(" join ").append(joined).append(joined > 0 ? tableOf(x) : "");
        return answers.append(" trim ").append(x.trim(0, 1)).append(tableOf(x)).toString();
    }

    private static String tableOf(MossRings x) {
        x.table(1);
        return Arrays.toString(out(x));
    }

    /** Of the rules with two states and width 4 it is long known that 582 are full and 16 lose nothing. */
    private static void allOfWidthFour() {
        int full = 0;
        int losesNothing = 0;
        int longest = 0;
        for (int number = 0; number < 65536; number++) {
            MossRings x = withRule(2, 4, digits(2, number, 16));
            int cells = x.missed(0);
            full += x.about(0, 2);
            losesNothing += x.about(0, 3);
            longest = Math.max(longest, cells);
            if (cells > 9) {
                dueMissed(x, cells);
            }
        }
        due("full ones", full, 582);
        due("those that lose nothing", losesNothing, 16);
        due("longest first missed row", longest, 18);
    }

    private static int[] balanced(Random random, int k, int r) {
        int[] told = new int[power(k, r)];
        for (int i = 0; i < told.length; i++) {
            int j = random.nextInt(i + 1);
            told[i] = told[j];
            told[j] = i % k;
        }
        return told;
    }

    // ---- tools

    private static int[] randomTable(Random random, int k, int r) {
        int kind = random.nextInt(4);
        if (kind == 0) {
            return balanced(random, k, r);
        }
        int[] told = new int[power(k, r)];
        int place = random.nextInt(r);
        int[] names = randomCells(random, k, k);
        for (int code = 0; code < told.length; code++) {
            int[] cells = digits(k, code, r);
            told[code] = kind == 1 ? names[cells[place]]
                : kind == 2 && random.nextInt(5) > 0 ? cells[place] : random.nextInt(k);
        }
        return told;
    }

    private static int[] randomCells(Random random, int k, int n) {
        int[] cells = new int[n];
        for (int i = 0; i < n; i++) {
            cells[i] = random.nextInt(k);
        }
        return cells;
    }

    private static int[] reversed(int[] cells) {
        int[] turned = new int[cells.length];
        for (int i = 0; i < cells.length; i++) {
            turned[i] = cells[cells.length - 1 - i];
        }
        return turned;
    }

    private static int[] named(int[] cells, int[] names) {
        int[] called = new int[cells.length];
        for (int i = 0; i < cells.length; i++) {
            called[i] = names[cells[i]];
        }
        return called;
    }

    private static MossRings withRule(int k, int r, int[] told) {
        MossRings x = new MossRings();
        put(x, told);
        due("rule", x.rule(0, k, r) ? 1 : 0, 1);
        return x;
    }

    private static void put(MossRings x, int[] bytes) {
        x.end(0);
        int[] whole = Arrays.copyOf(bytes, (bytes.length + 19) / 20 * 20);
        for (int i = 0; i < whole.length; i += 20) {
            x.feed(number(whole, i), number(whole, i + 4), number(whole, i + 8), number(whole, i + 12),
                number(whole, i + 16));
        }
        due("put", x.end(bytes.length) ? 1 : 0, 1);
    }

    private static int number(int[] bytes, int i) {
        return bytes[i] << 24 | bytes[i + 1] << 16 | bytes[i + 2] << 8 | bytes[i + 3];
    }

    private static int[] out(MossRings x) {
        int[] got = new int[Math.max(0, x.count(2))];
        for (int i = 0; i < got.length; i++) {
            try {
                got[i] = x.octet(i);
            } catch (NoSuchElementException e) {
                got[i] = -99;
            }
        }
        return got;
    }

    private static void dueOut(String what, MossRings x, int[] want) {
        int[] got = out(x);
        if (!Arrays.equals(got, want)) {
            wrong++;
            System.out.println(what + ": OUT is " + Arrays.toString(got) + ", due is " + Arrays.toString(want));
        }
    }

    private static void due(String what, long got, long want) {
        if (got != want) {
            wrong++;
            System.out.println(what + " answered " + got + ", due is " + want);
        }
    }
}
