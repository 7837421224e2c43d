import java.util.Arrays;
import java.util.NoSuchElementException;

/**
 * Each sentence of the document that names a boundary, by the number of its promise (T: "Terms"): both sides of
 * it, and, where a call is refused, what it answers and what stays as it was.
 */
public final class BoundaryTests {
    private static final int LEAST = Integer.MIN_VALUE;
    private static final int GREATEST = Integer.MAX_VALUE;
    private static final int NO_BYTE = -99;
    private static final int[] WIDTHS = {0, 0, 4, 3, 2};

    /** What an object holds, as places of what holds() tells; slot s is at SLOT + s. */
    private static final int RULES = 0;
    private static final int TAPE = 1;
    private static final int OUT = 2;
    private static final int ROUND = 3;
    private static final int SLOT = 4;

    private static final int EMPTY_SLOT = 3;
    /** Four states and width 1, each told as itself: ring(READER, 0) shows what the tape holds. */
    private static final int READER = 4;
    private static final int[] NO_SLOTS = {-1, 6, LEAST, GREATEST};
    private static final int[] NO_RULES = {-1, 6, LEAST, GREATEST, EMPTY_SLOT};

    private static int wrong = 0;

    private interface Call {
        long on(MossRings x);
    }

    private interface SlotCall {
        long on(MossRings x, int s);
    }

    public static void main(String[] args) {
        newObject();
        feed();
        end();
        slotsOfRules();
        slotsToComeTo();
        ruleStatesAndWidths();
        ruleBytes();
        aboutWhats();
        aboutFull();
        aboutLosesNothing();
        tables();
        rowCells();
        ringSteps();
        ringCells();
        behindCells();
        behindFirst();
        missedRows();
        backShifts();
        backNone();
        heightCells();
        heightAndLength();
        rounds();
        allRings();
        keepsBytes();
        keepsSigns();
        keepsAnyLength();
        joinWidths();
        mirrored();
        renameBytes();
        trimmed();
        octets();
        counts();
        onlyWhatIsNamed();
        if (wrong != 0) {
            System.out.println(wrong + " answers are not as due");
            System.exit(1);
        }
    }

    // ---- promises 1 to 3: a new object, the tape

    /** P1 "No RULES; an empty tape, OUT", P14 "0 ahead of any", T "SLOTS 0 .. 5 (none at first)". */
    private static void newObject() {
        String[] held = holds(new MossRings());
        due("P1 rules", held[RULES], "0");
        due("P1 tape", held[TAPE], "[]");
        due("P1 OUT", held[OUT], "[]");
        due("P14 ahead of any", held[ROUND], "0");
        for (int s = 0; s < 6; s++) {
            due("T none at first, slot " + s, held[SLOT + s], "none");
        }
        due("P21 empty OUT", octet(new MossRings(), 0), NO_BYTE);
    }

    /** P2 "NONE, and none come, if it would have more than 100", "of each number the highest first". */
    private static void feed() {
        MossRings x = bench();
        due("P2 empty tape", x.feed(0x00010203, 0x01020300, 0x02030001, 0x03000102, 0x03020100), 20);
        dueTape("P2 highest first", x, 0, 1, 2, 3, 1, 2, 3, 0, 2, 3, 0, 1, 3, 0, 1, 2, 3, 2, 1, 0);
        x = bench(3, 2);
        due("P2 behind the tape", x.feed(0x01000000, 0, 0, 0, 2), 22);
        dueTape("P2 behind the tape", x, 3, 2, 1, 0, 0, 0, 0, 0, 0, 0, 0, 0, 0, 0, 0, 0, 0, 0, 0, 0, 0, 2);
        int[] eighty = cycling(80);
        x = bench(eighty);
        due("P2 just 100", x.feed(0x03030303, 0, 0, 0, 0x02020202), 100);
        int[] hundred = Arrays.copyOf(eighty, 100);
        Arrays.fill(hundred, 80, 84, 3);
        Arrays.fill(hundred, 96, 100, 2);
        dueTape("P2 just 100", x, hundred);
        for (int n = 81; n <= 100; n++) {
            unchanged("P2 more than 100", -1, cycling(n), y -> y.feed(1, 1, 1, 1, 1));
        }
    }

    /** P3 "false, if it has not so many, or n is below 0", "The tape has its first n bytes alone". */
    private static void end() {
        int[] three = {3, 1, 2};
        for (int n : new int[] {-1, -3, LEAST, 4, 5, 100, GREATEST}) {
            unchanged("P3 end " + n + " of 3", 0, three, x -> told(x.end(n)));
        }
        for (int n = 0; n <= 3; n++) {
            int first = n;
            MossRings x = changed("P3 end " + n + " of 3", 1, three, y -> told(y.end(first)), TAPE);
            dueTape("P3 first " + n, x, Arrays.copyOf(three, n));
        }
        unchanged("P3 0 of an empty tape", 1, new int[0], x -> told(x.end(0)));
        unchanged("P3 1 of an empty tape", 0, new int[0], x -> told(x.end(1)));
        unchanged("P3 -1 of an empty tape", 0, new int[0], x -> told(x.end(-1)));
        unchanged("P3 100 of 100", 1, cycling(100), x -> told(x.end(100)));
        unchanged("P3 101 of 100", 0, cycling(100), x -> told(x.end(101)));
        MossRings x = bench(three);
        x.end(1);
        due("P3 what was cut off is gone", x.end(2), 0);
        x.feed(0x02020000, 0, 0, 0, 0);
        x.end(4);
        dueTape("P3 what comes is behind the first", x, 3, 2, 2, 0);
        x = bench(3, 1, 2, 255);
        x.end(3);
        dueTape("P3 a byte that was cut off is no cell", x, 3, 1, 2);
    }

    // ---- slots, for every call that takes one

    /** T "RULES lie in SLOTS 0 .. 5"; P5 to P20 "no RULE": NONE or false, and all stays but a tape that was read. */
    private static void slotsOfRules() {
        int[] cells = {0, 1, 1, 0, 1};
        for (int what = 0; what <= 3; what++) {
            int asked = what;
            untold("P5 about " + what, -1, cells, (x, s) -> x.about(s, asked));
        }
        for (int what = 0; what <= 4; what++) {
            int asked = what;
            untold("P15 all " + what, -1, cells, (x, s) -> x.all(s, 3, asked));
        }
        untold("P6 table", -1, cells, (x, s) -> x.table(s));
        untold("P11 missed", -1, cells, (x, s) -> x.missed(s));
        untold("P12 back", -1, cells, (x, s) -> x.back(s, 1));
        untold("P17 join, the first", -1, cells, (x, s) -> x.join(s, 1, 1));
        untold("P17 join, the second", -1, cells, (x, s) -> x.join(1, s, 1));
        untold("P18 mirror", 0, cells, (x, s) -> told(x.mirror(s, 1)));
        untold("P20 trim", -1, cells, (x, s) -> x.trim(s, 1));
        spentUntold("P7 row", -1, cells, (x, s) -> x.row(s));
        spentUntold("P8 ring", -1, cells, (x, s) -> x.ring(s, 1));
        spentUntold("P9 behind", -1, cells, (x, s) -> x.behind(s));
        spentUntold("P10 ringsBehind", -1, cells, (x, s) -> x.ringsBehind(s));
        spentUntold("P13 height", -1, cells, (x, s) -> x.height(s));
        spentUntold("P16 keeps", -1, new int[] {0, 1}, (x, s) -> x.keeps(s));
        spentUntold("P19 rename", 0, new int[] {1, 0}, (x, s) -> told(x.rename(s, 1)));
    }

    private static void untold(String what, long answer, int[] tape, SlotCall call) {
        for (int s : NO_RULES) {
            unchanged(what + " slot " + s, answer, tape, x -> call.on(x, s));
        }
        dueEnds(what, answer, tape, call);
    }

    private static void spentUntold(String what, long answer, int[] tape, SlotCall call) {
        for (int s : NO_RULES) {
            spent(what + " slot " + s, answer, tape, x -> call.on(x, s));
        }
        dueEnds(what, answer, tape, call);
    }

    private static void dueEnds(String what, long answer, int[] tape, SlotCall call) {
        for (int s : new int[] {0, 5}) {
            due(what + " answers of slot " + s, told(call.on(bench(tape), s) != answer), 1);
        }
    }

    /** P4, P12, P17 to P20 "no such SLOT": refused, and all stays; to each of the slots 0 .. 5, full or not, one comes. */
    private static void slotsToComeTo() {
        int[] none = {0, 1, 1};
        comesTo("P12 back", -1, none, false, (x, t) -> x.back(1, t));
        comesTo("P17 join", -1, none, false, (x, u) -> x.join(1, 1, u));
        comesTo("P18 mirror", 0, none, false, (x, t) -> told(x.mirror(1, t)));
        comesTo("P20 trim", -1, none, false, (x, t) -> x.trim(1, t));
        comesTo("P4 rule", 0, new int[] {1, 0}, true, (x, s) -> told(x.rule(s, 2, 1)));
        comesTo("P19 rename", 0, new int[] {1, 0}, true, (x, t) -> told(x.rename(1, t)));
    }

    private static void comesTo(String what, long answer, int[] tape, boolean takesTape, SlotCall call) {
        for (int t : NO_SLOTS) {
            if (takesTape) {
                spent(what + " to slot " + t, answer, tape, x -> call.on(x, t));
            } else {
                unchanged(what + " to slot " + t, answer, tape, x -> call.on(x, t));
            }
        }
        for (int t = 0; t < 6; t++) {
            MossRings x = bench(tape);
            due(what + " comes to slot " + t, told(call.on(x, t) != answer), 1);
            due(what + " is in slot " + t, x.about(t, 0) * 10 + x.about(t, 1), 21);
            due(what + " rules with slot " + t, x.count(0), t == EMPTY_SLOT ? 6 : 5);
        }
    }

    // ---- promise 4: rule

    /**
     * T "k 2 to 4", "a WIDTH r (1 to 4; with k 3 at most 3, with k 4 at most 2)"; P4 "false, and it stays: no such
     * SLOT, k, r".
     */
    private static void ruleStatesAndWidths() {
        for (int k = -1; k <= 6; k++) {
            for (int r = -1; r <= 6; r++) {
                boolean fits = k >= 2 && k <= 4 && r >= 1 && r <= WIDTHS[k];
                int words = (int) Math.min(100, Math.pow(Math.max(k, 1), Math.max(r, 0)));
                int[] tape = new int[words];
                int states = k;
                int width = r;
                if (fits) {
                    MossRings x = changed("P4 k and r", 1, tape, y -> told(y.rule(0, states, width)), TAPE, SLOT);
                    due("P4 k " + k, x.about(0, 0), k);
                    due("P4 r " + r, x.about(0, 1), r);
                } else {
                    spent("P4 k " + k + " r " + r, 0, tape, x -> told(x.rule(0, states, width)));
                }
            }
        }
        for (int k : new int[] {1, 0, -1}) {
            for (int r = 0; r <= 4; r++) {
                int width = r;
                spent("P4 no states, no bytes", 0, new int[0], x -> told(x.rule(0, k, width)));
            }
        }
        for (int far : new int[] {LEAST, GREATEST, 256 + 2, 65536 + 2}) {
            spent("P4 k " + far, 0, new int[] {1, 0}, x -> told(x.rule(0, far, 1)));
            spent("P4 r " + far, 0, new int[] {1, 0, 0, 1}, x -> told(x.rule(0, 2, far)));
        }
    }

    /** P4 "not as many bytes as WORDS, or one that is no STATE", "in the place of what is there". */
    private static void ruleBytes() {
        for (int k = 2; k <= 4; k++) {
            for (int r = 1; r <= WIDTHS[k]; r++) {
                int states = k;
                int width = r;
                int words = power(k, r);
                Call call = x -> told(x.rule(0, states, width));
                for (int n : new int[] {0, 1, words - 1, words + 1, 100}) {
                    spent("P4 bytes " + n + " for " + words, 0, new int[n], call);
                }
                for (int place : new int[] {0, words / 2, words - 1}) {
                    int[] tape = new int[words];
                    tape[place] = k - 1;
                    MossRings x = changed("P4 the greatest state", 1, tape, call, TAPE, SLOT);
                    due("P4 bytes", x.table(0), words);
                    dueOut("P4 the greatest state", x, tape);
                    for (int byteThere : new int[] {k, 127, 128, 255}) {
                        tape[place] = byteThere;
                        spent("P4 no state: " + byteThere + " at " + place, 0, tape, call);
                    }
                }
            }
        }
        MossRings x = bench(0, 1);
        due("P4 to an empty slot", x.rule(EMPTY_SLOT, 2, 1), 1);
        due("P4 one more", x.count(0), 6);
        put(x, 1, 1);
        due("P4 in the place of what is there", x.rule(EMPTY_SLOT, 2, 1), 1);
        due("P4 no more", x.count(0), 6);
    }

    // ---- promise 5 and 6: about, table

    /** P5 "NONE: .. another what". */
    private static void aboutWhats() {
        int[] tape = {1, 0};
        for (int what : new int[] {-1, 4, LEAST, GREATEST}) {
            unchanged("P5 what " + what, -1, tape, x -> x.about(0, what));
        }
        int[] dueOfAll = {2, 3, 0, 0};
        for (int what = 0; what <= 3; what++) {
            int asked = what;
            unchanged("P5 what " + what, dueOfAll[what], tape, x -> x.about(0, asked));
        }
    }

    /** T "It is FULL, if it MISSES none of any length": the ones that miss no row below 18 or 21 cells are not. */
    private static void aboutFull() {
        due("P5 full", withRule(2, 2, 0, 1, 1, 0).about(0, 2), 1);
        due("P5 width 1 full", withRule(4, 1, 3, 2, 0, 1).about(0, 2), 1);
        due("P5 width 1 misses 1 cell", withRule(4, 1, 3, 2, 0, 3).about(0, 2), 0);
        due("P5 misses 1 cell", withRule(2, 4, new int[16]).about(0, 2), 0);
        due("P5 misses 18 cells", missing18().about(0, 2), 0);
        due("P5 misses 21 cells", missing21().about(0, 2), 0);
    }

    /** T "It LOSES NOTHING, if no two unlike rows without ends lead to the same one (without ends both ways)". */
    private static void aboutLosesNothing() {
        for (int r = 1; r <= 4; r++) {
            for (int place = 0; place < r; place++) {
                due("P5 rows with ends lose cells", withRule(2, r, ofCell(2, r, place)).about(0, 3), 1);
            }
        }
        due("P5 full, yet all turned leads to the same", withRule(2, 2, 0, 1, 1, 0).about(0, 3), 0);
        // each row with an end to the right has one row behind it if its first cell is known, yet this loses
        due("P5 full with three states", withRule(3, 2, 0, 1, 2, 1, 2, 0, 2, 0, 1).about(0, 3), 0);
        due("P5 not full", withRule(2, 1, 1, 1).about(0, 3), 0);
        due("P5 turned back by width 4 alone", turnedByWidth4().about(0, 3), 1);
        due("P5 turned back by width 3 alone", turnedByWidth3().about(0, 3), 1);
        int[] oneOff = swapIfNext(3, 3, 0);
        due("P5 cells that swap", withRule(3, 3, oneOff).about(0, 3), 1);
        oneOff[8] = 0;
        due("P5 one that does not swap back", withRule(3, 3, oneOff).about(0, 3), 0);
    }

    /** P6 "how many bytes": for the least table and the greatest one. */
    private static void tables() {
        MossRings x = withRule(2, 1, 1, 0);
        due("P6 least", x.table(0), 2);
        dueOut("P6 least", x, 1, 0);
        int[] most = swapIfNext(3, 3, 0);
        x = withRule(3, 3, most);
        due("P6 greatest", x.table(0), 27);
        dueOut("P6 greatest", x, most);
        due("P6 none behind", octet(x, 27), NO_BYTE);
    }

    // ---- promises 7 and 8: row, ring

    /**
     * T "A ROW of n cells (r at least) leads to the ROW of n - r + 1 cells"; P7 "fewer than r cells, or one that is
     * no STATE".
     */
    private static void rowCells() {
        for (int k = 2; k <= 4; k++) {
            for (int r = 1; r <= WIDTHS[k]; r++) {
                Call call = x -> x.row(0);
                int[] last = ofCell(k, r, r - 1);
                for (int n = 0; n < r; n++) {
                    spentWith(k, r, last, "P7 fewer than r", -1, new int[n], call);
                }
                int[] cells = new int[r];
                cells[r - 1] = k - 1;
                dueGrown("P7 just r", k, r, last, cells, call, k - 1);
                cells = cycling(100, k);
                dueGrown("P7 100 cells", k, r, last, cells, call, Arrays.copyOfRange(cells, r - 1, 100));
                noStates("P7", k, r, last, r, call);
            }
        }
    }

    /** P8 "in t steps (0 to 1000)". */
    private static void ringSteps() {
        // each step takes the cell to the right, so the 1 goes one place to the left
        int[] next = ofCell(2, 2, 1);
        int[] cells = {1, 0, 0, 0, 0, 0, 0};
        for (int t : new int[] {-1, 1001, LEAST, GREATEST}) {
            spentWith(2, 2, next, "P8 steps " + t, -1, cells, x -> x.ring(0, t));
        }
        for (int t : new int[] {0, 1, 2, 6, 7, 999, 1000}) {
            int[] want = new int[7];
            want[Math.floorMod(-t, 7)] = 1;
            dueGrown("P8 steps " + t, 2, 2, next, cells, x -> x.ring(0, t), want);
        }
    }

    /** P8 "NONE likewise (no cell)"; T "cell n being cell 0 again, and so on (round as often as need be)". */
    private static void ringCells() {
        for (int k = 2; k <= 4; k++) {
            for (int r = 1; r <= WIDTHS[k]; r++) {
                int[] last = ofCell(k, r, r - 1);
                spentWith(k, r, last, "P8 no cell", -1, new int[0], x -> x.ring(0, 1));
                spentWith(k, r, last, "P8 no cell, no step", -1, new int[0], x -> x.ring(0, 0));
                for (int n : new int[] {1, 2, 3, 4, 5, 99, 100}) {
                    int[] cells = cycling(n, k);
                    int[] want = new int[n];
                    for (int i = 0; i < n; i++) {
                        want[i] = cells[(i + r - 1) % n];
                    }
                    dueGrown("P8 round, cells " + n, k, r, last, cells, x -> x.ring(0, 1), want);
                }
                noStates("P8 0 steps", k, r, last, 1, x -> x.ring(0, 0));
                noStates("P8 1 step", k, r, last, 3, x -> x.ring(0, 1));
            }
        }
    }

    // ---- promises 9 and 10: behind, ringsBehind

    /**
     * T "BEHIND a ROW of n cells (1 to 20)", "a RING (1 to 20)"; P9, P10 "not 1 to 20 cells, or one that is no STATE",
     * "(stays, if there is none)".
     */
    private static void behindCells() {
        for (int k = 2; k <= 4; k++) {
            for (int r = 1; r <= WIDTHS[k]; r++) {
                int[] zeros = new int[power(k, r)];
                for (int n : new int[] {0, 21, 22, 40, 100}) {
                    spentWith(k, r, zeros, "P9 cells " + n, -1, new int[n], x -> x.behind(0));
                    spentWith(k, r, zeros, "P10 cells " + n, -1, new int[n], x -> x.ringsBehind(0));
                }
                for (int n : new int[] {1, 2, 3, 19, 20}) {
                    dueBehind("P9 all rows", k, r, zeros, new int[n], longPower(k, n + r - 1), new int[n + r - 1]);
                    dueRingsBehind("P10 all rings", k, r, zeros, new int[n], longPower(k, n), new int[n]);
                    int[] cells = new int[n];
                    cells[n - 1] = k - 1;
                    spentWith(k, r, zeros, "P9 none: OUT stays", 0, cells, x -> x.behind(0));
                    spentWith(k, r, zeros, "P10 none: OUT stays", 0, cells, x -> x.ringsBehind(0));
                }
                noStates("P9", k, r, zeros, 1, x -> x.behind(0));
                noStates("P9", k, r, zeros, 20, x -> x.behind(0));
                noStates("P10", k, r, zeros, 1, x -> x.ringsBehind(0));
                noStates("P10", k, r, zeros, 20, x -> x.ringsBehind(0));
            }
        }
    }

    /** T "The first of them: cell by cell the lesser STATE", be it at the first cell or at the last. */
    private static void behindFirst() {
        int[] both = {0, 0, 0, 1};
        dueBehind("P9 one alone", 2, 2, both, new int[] {1}, 1, 1, 1);
        dueBehind("P9 three", 2, 2, both, new int[] {0}, 3, 0, 0);
        dueBehind("P9 ahead 0, behind 0", 2, 2, both, new int[] {0, 1, 0}, 1, 0, 1, 1, 0);
        dueBehind("P9 two ahead, two behind", 2, 2, both, new int[] {0, 0, 1, 0, 0}, 4, 0, 0, 1, 1, 0, 0);
        spentWith(2, 2, both, "P9 none", 0, new int[] {1, 0, 1}, x -> x.behind(0));
        dueRingsBehind("P10 one alone", 2, 2, both, new int[] {1}, 1, 1);
        dueRingsBehind("P10 round the end", 2, 2, both, new int[] {0, 0, 1}, 1, 1, 0, 1);
        dueRingsBehind("P10 four", 2, 2, both, new int[] {0, 0, 0}, 4, 0, 0, 0);
        spentWith(2, 2, both, "P10 none", 0, new int[] {0, 1, 1}, x -> x.ringsBehind(0));
        int[] sums = {0, 1, 1, 0};
        dueBehind("P9 any first cell", 2, 2, sums, new int[] {1, 1}, 2, 0, 1, 0);
        dueRingsBehind("P10 any first cell", 2, 2, sums, new int[] {1, 1}, 2, 0, 1);
        spentWith(2, 2, sums, "P10 comes not round", 0, new int[] {1, 0}, x -> x.ringsBehind(0));
        // width 4 goes round a short ring more than once: 1111 and 0101 tell 1
        int[] wide = new int[16];
        wide[15] = 1;
        wide[5] = 1;
        dueRingsBehind("P10 one cell, width 4", 2, 4, wide, new int[] {1}, 1, 1);
        dueRingsBehind("P10 two cells, width 4", 2, 4, wide, new int[] {1, 0}, 1, 0, 1);
        dueRingsBehind("P10 two alike, width 4", 2, 4, wide, new int[] {1, 1}, 1, 1, 1);
        dueRingsBehind("P10 two zeros, width 4", 2, 4, wide, new int[] {0, 0}, 1, 0, 0);
    }

    // ---- promise 11: missed

    /** P11 "0 (OUT stays): it is FULL"; T "FIRST MISSED: the shortest one that it MISSES, of such the first". */
    private static void missedRows() {
        unchangedWith(2, 2, new int[] {0, 1, 1, 0}, "P11 full", 0, new int[] {1}, x -> x.missed(0));
        unchangedWith(4, 1, new int[] {1, 0, 3, 2}, "P11 width 1 full", 0, new int[] {1}, x -> x.missed(0));
        dueMissed("P11 1 cell, the last state", withRule(3, 1, 0, 1, 1), 2);
        dueMissed("P11 1 cell, the first of two", withRule(4, 1, 3, 3, 0, 0), 1);
        dueMissed("P11 1 cell, the first state", withRule(2, 4, filled(16, 1)), 0);
        // of two cells, both 101 and 111 being longer, none is missed
        dueMissed("P11 the first of three cells", withRule(2, 2, 0, 0, 0, 1), 1, 0, 1);
        dueMissed("P11 18 cells", missing18(), 1, 0, 0, 1, 0, 1, 0, 1, 0, 0, 1, 0, 1, 0, 0, 1, 0, 1);
        MossRings x = missing21();
        dueMissed("P11 21 cells", x, 1, 0, 0, 1, 0, 1, 0, 0, 1, 0, 1, 0, 1, 2, 0, 1, 0, 1, 0, 0, 1);
        put(x, 1, 0, 0, 1, 0, 1, 0, 0, 1, 0, 1, 0, 1, 2, 0, 1, 0, 1, 0, 0);
        due("P11 without its last cell some lead to it", told(x.behind(0) > 0), 1);
        put(x, 0, 0, 1, 0, 1, 0, 0, 1, 0, 1, 0, 1, 2, 0, 1, 0, 1, 0, 0, 1);
        due("P11 without its first cell some lead to it", told(x.behind(0) > 0), 1);
    }

    // ---- promise 12: back

    /** T "with a shift d (0 to r + w - 2)"; P12 "the least WIDTH that there may be for its k". */
    private static void backShifts() {
        for (int k = 2; k <= 4; k++) {
            for (int r = 1; r <= WIDTHS[k]; r++) {
                for (int place = 0; place < r; place++) {
                    dueBack("P12 width 1", withRule(k, r, ofCell(k, r, place)), 10 + place, ofCell(k, 1, 0));
                }
            }
        }
        dueBack("P12 k 3, greatest width, least shift", withRule(3, 3, swapIfNext(3, 3, 0)), 30, swapIfNext(3, 3, 0));
        dueBack("P12 k 3, greatest shift", withRule(3, 3, swapIfNext(3, 3, 2)), 34, swapIfNext(3, 3, 2));
        dueBack("P12 k 4, greatest width, least shift", withRule(4, 2, swapIfNext(4, 2, 0)), 20, swapIfNext(4, 2, 0));
        dueBack("P12 k 4, greatest shift", withRule(4, 2, swapIfNext(4, 2, 1)), 22, swapIfNext(4, 2, 1));
        // the second cell turns between 0 and 10, which no such turning makes or takes away
        int[] turning = new int[16];
        for (int word = 0; word < 16; word++) {
            turning[word] = word >> 2 & 1 ^ ((word & 11) == 2 ? 1 : 0);
        }
        dueBack("P12 k 2, greatest width", withRule(2, 4, turning), 42, turning);
    }

    /** P12 "0: there is none such": none comes, be it that the rule loses or that a greater WIDTH alone turns it back. */
    private static void backNone() {
        int[][] losing = {{2, 1, 0, 0}, {2, 2, 0, 1, 1, 0}, {3, 1, 0, 1, 1}, {4, 1, 0, 1, 2, 2}};
        for (int[] one : losing) {
            int[] table = Arrays.copyOfRange(one, 2, one.length);
            unchangedWith(one[0], one[1], table, "P12 it loses", 0, new int[] {1}, x -> x.back(0, 1));
            unchangedWith(one[0], one[1], table, "P12 to its own slot", 0, new int[] {1}, x -> x.back(0, 0));
            unchangedWith(one[0], one[1], table, "P12 to an empty slot", 0, new int[] {1}, x -> x.back(0, EMPTY_SLOT));
        }
        due("P12 width 4 is too great for three states", turnedByWidth4().back(0, 1), 0);
        due("P12 none of all rings is lost", turnedByWidth4().all(0, 7, 0), 0);
        due("P12 width 3 is too great for four states", turnedByWidth3().back(0, 1), 0);
        due("P12 none of all rings is lost", turnedByWidth3().all(0, 6, 0), 0);
    }

    // ---- promises 13 and 14: height, round

    /** P13 "not 1 to 20 cells, one that is no STATE": all stays, the round too. */
    private static void heightCells() {
        for (int k = 2; k <= 4; k++) {
            for (int r = 1; r <= WIDTHS[k]; r++) {
                int[] last = ofCell(k, r, r - 1);
                for (int n : new int[] {0, 21, 22, 100}) {
                    spentWith(k, r, last, "P13 cells " + n, -1, new int[n], x -> x.height(0));
                }
                noStates("P13", k, r, last, 1, x -> x.height(0));
                noStates("P13", k, r, last, 20, x -> x.height(0));
                for (int n : new int[] {1, 2, 19, 20}) {
                    int[] cells = new int[n];
                    cells[0] = 1;
                    MossRings x = changedWith(k, r, last, "P13 cells " + n, 0, cells, y -> y.height(0), TAPE, ROUND);
                    // each step takes the cell r - 1 places on
                    due("P13 once round " + n + " cells", x.round(), r == 1 ? 1 : n / divisor(n, r - 1));
                }
            }
        }
    }

    /** P13 "or HEIGHT and LENGTH together are above 20000"; T "the least number of steps". */
    private static void heightAndLength() {
        dueHeight("P13 on its round, that of one", 2, 1, new int[] {0, 1}, new int[] {1}, 0, 1);
        dueHeight("P13 one step", 2, 1, new int[] {0, 0}, new int[] {1, 0}, 1, 1);
        dueHeight("P13 on its round, that of two", 2, 1, new int[] {1, 0}, new int[] {1, 0}, 0, 2);
        dueHeight("P13 three steps", 4, 1, new int[] {0, 0, 1, 2}, new int[] {3}, 3, 1);
        dueHeight("P13 two steps to a round of two", 4, 1, new int[] {1, 0, 0, 2}, new int[] {3, 0}, 2, 2);
        int[] table = {2, 1, 0, 3, 1, 2, 0, 0, 3, 1, 1, 0, 3, 3, 2, 2};
        int[] onRound = {2, 0, 2, 2, 0, 2, 3, 0, 1, 1, 1, 0, 2, 2, 3, 0, 0, 3, 2, 3};
        int[] ahead = {3, 2, 3, 3, 2, 3, 2, 0, 2, 1, 0, 1, 3, 3, 2, 0, 2, 3, 0, 0};
        dueHeight("P13 height 0, length 20000", 4, 2, table, onRound, 0, 20000);
        spentWith(4, 2, table, "P13 height 1, length 20000", -1, ahead, x -> x.height(0));
        MossRings x = withRule(4, 2, table);
        put(x, ahead);
        x.ring(0, 1);
        dueOut("P13 it was one step ahead", x, onRound);
        int[] longWay = {1, 1, 3, 2, 2, 0, 3, 1, 0, 3, 2, 1, 0, 3, 2, 0};
        int[] start = {2, 3, 1, 2, 3, 1, 3, 2, 3, 1, 3, 3, 1, 3, 3, 0, 2, 0, 2, 2};
        spentWith(4, 2, longWay, "P13 height 19821, length 180", -1, start, y -> y.height(0));
        dueHeight("P13 height 19820, length 180", 4, 2, longWay, grown(4, 2, longWay, start), 19820, 180);
        int[] wayRound = {2, 1, 2, 0, 2, 1, 1, 1, 0, 2, 0, 1, 0, 2, 1, 2, 0, 0, 2, 1, 0, 1, 2, 0, 2, 0, 1};
        int[] round = {2, 2, 0, 1, 0, 1, 1, 0, 0, 0, 1, 0, 2, 0, 0, 0, 2, 2, 1, 1};
        spentWith(3, 3, wayRound, "P13 height 0, length 20530", -1, round, y -> y.height(0));
    }

    /** P14 "of the latest height() that was not NONE; 0 ahead of any". */
    private static void rounds() {
        MossRings x = withRule(2, 2, ofCell(2, 2, 1));
        due("P14 ahead of any", x.round(), 0);
        due("P13 no cell", x.height(0), -1);
        due("P14 ahead of any that was not NONE", x.round(), 0);
        put(x, 1, 0, 0, 0, 0);
        x.height(0);
        due("P14 the latest", x.round(), 5);
        put(x, 1, 0, 2);
        due("P13 no state", x.height(0), -1);
        due("P14 the latest that was not NONE", x.round(), 5);
        put(x, 1, 0, 0);
        x.height(0);
        due("P14 the latest", x.round(), 3);
        putRule(x, 0, 2, 1, 0, 1);
        due("P14 another rule changes nothing", x.round(), 3);
    }

    // ---- promise 15: all

    /** P15 "(1 or more, at most 4096 RINGS, each of them told from its first cell on)", "NONE: no RULE, n, or another what". */
    private static void allRings() {
        int[] mostCells = {0, 0, 12, 7, 6};
        for (int k = 2; k <= 4; k++) {
            int[] same = ofCell(k, 1, 0);
            int most = mostCells[k];
            for (int n : new int[] {0, -1, LEAST, most + 1, most + 2, 20, 32, 64, 1000, GREATEST}) {
                for (int what = 0; what <= 4; what++) {
                    int asked = what;
                    unchangedWith(k, 1, same, "P15 n " + n, -1, new int[] {1}, x -> x.all(0, n, asked));
                }
            }
            for (int n : new int[] {1, most}) {
                for (int what : new int[] {-1, 5, LEAST, GREATEST}) {
                    unchangedWith(k, 1, same, "P15 what " + what, -1, new int[] {1}, x -> x.all(0, n, what));
                }
                int rings = power(k, n);
                dueAll("P15 each on its round", k, n, same, 0, rings, rings, 0, 1);
                dueAll("P15 all to one", k, n, new int[k], rings - 1, 1, 1, 1, 1);
            }
            dueAll("P15 one cell, once round", k, 1, after(k), 0, k, 1, 0, k);
            dueAll("P15 most cells, once round", k, most, after(k), 0, power(k, most), power(k, most) / k, 0, k);
        }
        dueAll("P15 the greatest height", 4, 6, new int[] {0, 0, 1, 2}, 4096 - 729, 1, 1, 3, 1);
        allRound();
    }

    /** T "round as often as need be": rings of one cell and of two, of which a rule takes the cell r - 1 places on. */
    private static void allRound() {
        for (int k = 2; k <= 4; k++) {
            for (int r = 1; r <= WIDTHS[k]; r++) {
                int[] last = ofCell(k, r, r - 1);
                boolean turns = r % 2 == 0;
                int rings = k * k;
                int rounds = turns ? (rings + k) / 2 : rings;
                dueAllWith("P15 one cell, width " + r, k, r, 1, last, 0, k, k, 0, 1);
                dueAllWith("P15 two cells, width " + r, k, r, 2, last, 0, rings, rounds, 0, turns ? 2 : 1);
            }
        }
    }

    // ---- promise 16: keeps

    /** P16 "NONE: no RULE, or another number of bytes". */
    private static void keepsBytes() {
        for (int k = 2; k <= 4; k++) {
            int[] same = ofCell(k, 1, 0);
            for (int n : new int[] {0, 1, k - 1, k + 1, 20, 100}) {
                spentWith(k, 1, same, "P16 bytes " + n + " for k " + k, -1, new int[n], x -> x.keeps(0));
            }
            int[] anyBytes = Arrays.copyOf(new int[] {255, 128, 127, 0}, k);
            spentWith(k, 1, same, "P16 any bytes are weights", 1, anyBytes, x -> x.keeps(0));
            spentWith(k, 1, after(k), "P16 not kept", 0, anyBytes, x -> x.keeps(0));
        }
    }

    /** T "WEIGHTS: a whole number for each STATE (-128 to 127)", P16 "(with their signs)". */
    private static void keepsSigns() {
        // up to two to a cell, one goes on to the right if there is room: only steps of the same weight are kept
        int[] going = new int[27];
        for (int word = 0; word < 27; word++) {
            int cell = word / 3 % 3;
            going[word] = cell - goesOn(cell, word % 3) + goesOn(word / 9, cell);
        }
        int[][] kept = {{0, 1, 2}, {2, 1, 0}, {-1, 0, 1}, {1, 0, -1}, {-2, -1, 0}, {-128, -127, -126}, {125, 126, 127},
            {-127, 0, 127}, {-128, -1, 126}, {126, -1, -128}, {-128, -128, -128}, {127, 127, 127}};
        // the last four would be steps of the same weight, if a byte had no sign
        int[][] changing = {{0, 1, 3}, {0, 0, 1}, {-128, 0, 127}, {126, 127, 128}, {128, 127, 126}, {0, 127, 254},
            {1, 128, 255}};
        for (int[] weights : kept) {
            spentWith(3, 3, going, "P16 " + Arrays.toString(weights), 1, bytes(weights), x -> x.keeps(0));
        }
        for (int[] weights : changing) {
            spentWith(3, 3, going, "P16 " + Arrays.toString(weights), 0, bytes(weights), x -> x.keeps(0));
        }
    }

    /** T "if each RING of any length leads to one with the same sum of WEIGHTS": rings of one cell, of two, and of six. */
    private static void keepsAnyLength() {
        int[] ones = {0, 1};
        int[] oneCell = {1, 1, 0, 1};
        spentWith(2, 2, oneCell, "P16 a ring of one cell", 0, ones, x -> x.keeps(0));
        int[] two = {0, 1, 1, 1};
        spentWith(2, 2, two, "P16 a ring of two cells", 0, ones, x -> x.keeps(0));
        int[] six = {0, 0, 0, 0, 0, 0, 1, 1, 1, 1, 1, 0, 0, 1, 1, 1};
        spentWith(2, 4, six, "P16 rings of six cells, none shorter", 0, ones, x -> x.keeps(0));
        spentWith(2, 4, six, "P16 all of one weight", 1, new int[] {9, 9}, x -> x.keeps(0));
        for (int place = 0; place < 4; place++) {
            spentWith(2, 4, ofCell(2, 4, place), "P16 cells that move", 1, ones, x -> x.keeps(0));
        }
    }

    // ---- promises 17 to 20: rules made of rules

    /** P17 "unlike k .. or the WIDTH would be too great for k", T "the RULE of WIDTH r + q - 1". */
    private static void joinWidths() {
        for (int k = 2; k <= 4; k++) {
            for (int r = 1; r <= WIDTHS[k]; r++) {
                for (int q = 1; q <= WIDTHS[k]; q++) {
                    MossRings x = benchWith(k, r, ofCell(k, r, r - 1));
                    put(x, ofCell(k, q, q - 1));
                    x.rule(1, k, q);
                    int width = r + q - 1;
                    boolean fits = width <= WIDTHS[k];
                    String[] before = holds(x);
                    due("P17 width " + r + " and " + q, x.join(0, 1, 2), fits ? width : -1);
                    if (fits) {
                        due("P17 the last cell's last cell", x.table(2), power(k, width));
                        dueOut("P17 the last cell's last cell", x, ofCell(k, width, width - 1));
                    } else {
                        due("P17 it stays", holds(x)[SLOT + 2], before[SLOT + 2]);
                    }
                }
            }
        }
        unchanged("P17 unlike k, 2 and 3", -1, new int[] {1}, x -> x.join(0, 2, 1));
        unchanged("P17 unlike k, 3 and 2", -1, new int[] {1}, x -> x.join(2, 0, 1));
        unchanged("P17 unlike k, 2 and 4", -1, new int[] {1}, x -> x.join(1, 4, EMPTY_SLOT));
        unchanged("P17 the width is too great", -1, new int[] {1}, x -> x.join(0, 0, EMPTY_SLOT));
    }

    /** P18: of width 1 the mirror is the rule itself; into its own slot, too. */
    private static void mirrored() {
        for (int k = 2; k <= 4; k++) {
            for (int r = 1; r <= WIDTHS[k]; r++) {
                for (int place = 0; place < r; place++) {
                    MossRings x = withRule(k, r, ofCell(k, r, place));
                    due("P18 to another slot", x.mirror(0, 5), 1);
                    x.table(5);
                    dueOut("P18 the word backward", x, ofCell(k, r, r - 1 - place));
                    due("P18 to its own slot", x.mirror(0, 0), 1);
                    x.table(0);
                    dueOut("P18 the word backward", x, ofCell(k, r, r - 1 - place));
                }
            }
        }
    }

    /** P19 "false: as mirror(), or not each STATE is there once". */
    private static void renameBytes() {
        for (int k = 2; k <= 4; k++) {
            int[] table = after(k);
            Call call = x -> told(x.rename(0, 1));
            int[] names = ofCell(k, 1, 0);
            for (int n : new int[] {0, 1, k - 1}) {
                spentWith(k, 1, table, "P19 a state is not there", 0, Arrays.copyOf(names, n), call);
            }
            for (int more = 0; more < k; more++) {
                int[] twice = Arrays.copyOf(names, k + 1);
                twice[k] = more;
                spentWith(k, 1, table, "P19 a state is there twice", 0, twice, call);
            }
            for (int place = 0; place < k; place++) {
                for (int other : new int[] {(place + 1) % k, k, 128 + place, 255}) {
                    int[] off = names.clone();
                    off[place] = other;
                    spentWith(k, 1, table, "P19 " + other + " in the place of " + place, 0, off, call);
                }
            }
            MossRings x = changedWith(k, 1, table, "P19 each once", 1, names, call, TAPE, SLOT + 1);
            x.table(1);
            dueOut("P19 the same names", x, table);
            int[] turned = new int[k];
            int[] before = new int[k];
            for (int i = 0; i < k; i++) {
                turned[i] = k - 1 - i;
                before[i] = (i + k - 1) % k;
            }
            x = changedWith(k, 1, table, "P19 each once", 1, turned, call, TAPE, SLOT + 1);
            x.table(1);
            dueOut("P19 names turned round", x, before);
        }
    }

    /** T "TRIMMED: the RULE of the least WIDTH (1 at least)", "left out (as many as can be), then those behind". */
    private static void trimmed() {
        for (int k = 2; k <= 4; k++) {
            for (int r = 1; r <= WIDTHS[k]; r++) {
                int[] always = filled(power(k, r), k - 1);
                dueTrimmed("P20 hangs on none", k, r, always, r - 1, filled(k, k - 1));
                for (int place = 0; place < r; place++) {
                    dueTrimmed("P20 hangs on one", k, r, ofCell(k, r, place), place, ofCell(k, 1, 0));
                }
                if (r > 1) {
                    int[] ends = sumOf(k, r, 0, r - 1);
                    dueTrimmed("P20 hangs on both ends", k, r, ends, 0, ends);
                }
                if (r > 2) {
                    int[] narrow = sumOf(k, r - 1, 0, r - 2);
                    dueTrimmed("P20 not on the first", k, r, sumOf(k, r, 1, r - 1), 1, narrow);
                    dueTrimmed("P20 not on the last", k, r, sumOf(k, r, 0, r - 2), 0, narrow);
                }
            }
        }
        dueTrimmed("P20 not on either end", 2, 4, sumOf(2, 4, 1, 2), 1, 0, 1, 1, 0);
        // one word alone hangs on the first cell, one alone on the last
        int[] first = ofCell(2, 4, 3);
        first[15] = 0;
        dueTrimmed("P20 once on the first", 2, 4, first, 0, first);
        int[] last = ofCell(2, 4, 0);
        last[15] = 0;
        dueTrimmed("P20 once on the last", 2, 4, last, 0, last);
    }

    // ---- promises 21 and 22: octet, count

    /** P21 "NoSuchElementException: there is none such"; T "A call that throws changes nothing". */
    private static void octets() {
        int[] tape = {2, 0, 3};
        for (int k : new int[] {-1, 3, 4, 100, LEAST, GREATEST}) {
            unchanged("P21 octet " + k + " of 3", NO_BYTE, tape, x -> octet(x, k));
        }
        int[] there = {3, 1, 2};
        for (int k = 0; k < 3; k++) {
            int asked = k;
            unchanged("P21 octet " + k + " of 3", there[k], tape, x -> octet(x, asked));
        }
        MossRings x = bench(cycling(100));
        x.ring(READER, 0);
        due("P21 the last of 100", octet(x, 99), 99 % 4);
        due("P21 none behind 100", octet(x, 100), NO_BYTE);
        x.table(1);
        due("P21 the last of 2", octet(x, 1), 0);
        due("P21 the third of 2, though OUT was longer", octet(x, 2), NO_BYTE);
        x = new MossRings();
        for (int k : new int[] {-1, 0, 1, LEAST, GREATEST}) {
            due("P21 empty OUT", octet(x, k), NO_BYTE);
        }
        due("T it changes nothing", Arrays.toString(holds(x)), Arrays.toString(holds(new MossRings())));
    }

    /** P22 "NONE for another what". */
    private static void counts() {
        for (int what : new int[] {-1, 3, 4, LEAST, GREATEST}) {
            unchanged("P22 what " + what, -1, new int[] {1, 2}, x -> x.count(what));
        }
        MossRings x = new MossRings();
        for (int s = 0; s < 6; s++) {
            due("P22 rules", x.count(0), s);
            put(x, 0, 1);
            x.rule(s, 2, 1);
        }
        due("P22 rules, all slots full", x.count(0), 6);
        for (int n : new int[] {0, 1, 99, 100}) {
            put(x, cycling(n, 2));
            due("P22 bytes of the tape", x.count(1), n);
        }
        x.ring(0, 0);
        due("P22 bytes of OUT", x.count(2), 100);
        due("P22 the tape is empty then", x.count(1), 0);
    }

    /** What a call that is not refused changes is what its promise names, be it the tape, OUT, a slot or the round. */
    private static void onlyWhatIsNamed() {
        int[] cells = {0, 1, 1, 0, 1};
        changed("P2 feed", 25, cells, x -> x.feed(0, 0, 0, 0, 0), TAPE);
        changed("P6 table", 8, cells, x -> x.table(0), OUT);
        changed("P11 missed", 5, cells, x -> x.missed(0), OUT);
        changed("P12 back", 10, cells, x -> x.back(1, 2), SLOT + 2);
        changed("P12 back to an empty slot", 10, cells, x -> x.back(1, EMPTY_SLOT), RULES, SLOT + EMPTY_SLOT);
        changed("P17 join", 3, cells, x -> x.join(0, 1, 2), SLOT + 2);
        changed("P18 mirror", 1, cells, x -> told(x.mirror(0, 2)), SLOT + 2);
        changed("P20 trim", 3, cells, x -> x.trim(5, 2), SLOT + 2);
        unchanged("P14 round", 5, cells, x -> x.round());
        unchanged("P15 all", 8, cells, x -> x.all(1, 3, 1));
        unchanged("P22 rules", 5, cells, x -> x.count(0));
        unchanged("P22 tape", 5, cells, x -> x.count(1));
        unchanged("P22 OUT", 3, cells, x -> x.count(2));
        spent("P4 rule", 1, new int[] {1, 1}, x -> told(x.rule(2, 2, 1)), SLOT + 2);
        spent("P7 row", 3, cells, x -> x.row(0), OUT);
        spent("P8 ring", 5, cells, x -> x.ring(0, 1), OUT);
        spent("P9 behind", 1, cells, x -> x.behind(1), OUT);
        spent("P10 ringsBehind", 1, cells, x -> x.ringsBehind(1), OUT);
        spent("P13 height", 0, cells, x -> x.height(1), ROUND);
        spent("P16 keeps", 0, new int[] {0, 1}, x -> x.keeps(0));
        spent("P19 rename", 1, new int[] {1, 0}, x -> told(x.rename(0, 2)), SLOT + 2);
    }

    // ---- an object, and what it holds

    /** Five rules, slot EMPTY_SLOT without one, OUT 3 1 2, a round of 5, and the bytes on the tape. */
    private static MossRings bench(int... tape) {
        MossRings x = new MossRings();
        putRule(x, 0, 2, 3, 0, 1, 1, 1, 0, 1, 1, 0);
        putRule(x, 1, 2, 1, 1, 0);
        putRule(x, 2, 3, 2, 0, 1, 2, 1, 2, 0, 2, 0, 1);
        putRule(x, READER, 4, 1, 0, 1, 2, 3);
        putRule(x, 5, 2, 4, ofCell(2, 4, 3));
        put(x, 1, 0, 0, 0, 0);
        due("bench height", x.height(5), 0);
        put(x, 3, 1, 2);
        due("bench OUT", x.ring(READER, 0), 3);
        put(x, tape);
        return x;
    }

    /** The same with another rule in slot 0. */
    private static MossRings benchWith(int k, int r, int[] table, int... tape) {
        MossRings x = bench();
        putRule(x, 0, k, r, table);
        put(x, tape);
        return x;
    }

    private static String[] holds(MossRings x) {
        String[] held = new String[SLOT + 6];
        held[RULES] = Integer.toString(x.count(0));
        held[OUT] = Arrays.toString(out(x));
        held[ROUND] = Integer.toString(x.round());
        for (int s = 0; s < 6; s++) {
            boolean none = x.table(s) == -1;
            held[SLOT + s] = none ? "none" : x.about(s, 0) + " " + x.about(s, 1) + Arrays.toString(out(x));
        }
        held[TAPE] = x.count(1) == 0 ? "[]" : x.ring(READER, 0) == -1 ? "unread" : Arrays.toString(out(x));
        return held;
    }

    private static int[] out(MossRings x) {
        int[] bytes = new int[Math.max(0, x.count(2))];
        for (int i = 0; i < bytes.length; i++) {
            bytes[i] = octet(x, i);
        }
        return bytes;
    }

    private static int octet(MossRings x, int k) {
        try {
            return x.octet(k);
        } catch (NoSuchElementException e) {
            return NO_BYTE;
        }
    }

    private static MossRings withRule(int k, int r, int... table) {
        MossRings x = new MossRings();
        putRule(x, 0, k, r, table);
        return x;
    }

    private static void putRule(MossRings x, int s, int k, int r, int... table) {
        put(x, table);
        due("rule " + k + " " + r, x.rule(s, k, r), 1);
    }

    private static void put(MossRings x, int... bytes) {
        x.end(0);
        int[] whole = Arrays.copyOf(bytes, (bytes.length + 19) / 20 * 20);
        for (int i = 0; i < whole.length; i += 20) {
            x.feed(number(whole, i), number(whole, i + 4), number(whole, i + 8), number(whole, i + 12),
                number(whole, i + 16));
        }
        due("put", x.end(bytes.length), 1);
    }

    private static int number(int[] bytes, int i) {
        return bytes[i] << 24 | bytes[i + 1] << 16 | bytes[i + 2] << 8 | bytes[i + 3];
    }

    // ---- what is due

    /** The answer, and nothing changes. */
    private static void unchanged(String what, long answer, int[] tape, Call call) {
        changed(what, answer, tape, call);
    }

    private static void unchangedWith(int k, int r, int[] table, String what, long answer, int[] tape, Call call) {
        changedWith(k, r, table, what, answer, tape, call);
    }

    /** The answer, and nothing changes but the tape, which is empty then, and the parts. */
    private static void spent(String what, long answer, int[] tape, Call call, int... parts) {
        int[] withTape = Arrays.copyOf(parts, parts.length + 1);
        withTape[parts.length] = TAPE;
        MossRings x = changed(what, answer, tape, call, withTape);
        due(what + ": the tape is empty then", x.count(1), 0);
    }

    private static void spentWith(int k, int r, int[] table, String what, long answer, int[] tape, Call call) {
        MossRings x = changedWith(k, r, table, what, answer, tape, call, TAPE);
        due(what + ": the tape is empty then", x.count(1), 0);
    }

    /** The answer, and nothing changes but the parts; answers an object behind the call. */
    private static MossRings changed(String what, long answer, int[] tape, Call call, int... parts) {
        return compared(what, answer, new MossRings[] {bench(tape), bench(tape), bench(tape)}, call, parts);
    }

    private static MossRings changedWith(int k, int r, int[] table, String what, long answer, int[] tape, Call call,
            int... parts) {
        MossRings[] three = new MossRings[3];
        for (int i = 0; i < 3; i++) {
            three[i] = benchWith(k, r, table, tape);
        }
        return compared(what, answer, three, call, parts);
    }

    /** To look at what an object holds changes it: one of three alike is the former, one is looked at, one is answered. */
    private static MossRings compared(String what, long answer, MossRings[] three, Call call, int... parts) {
        due(what, call.on(three[1]), answer);
        call.on(three[2]);
        String[] before = holds(three[0]);
        String[] behind = holds(three[1]);
        for (int part : parts) {
            before[part] = behind[part];
        }
        due(what + ": what stays", Arrays.toString(behind), Arrays.toString(before));
        return three[2];
    }

    private static void dueTape(String what, MossRings x, int... want) {
        due(what + ": the tape", holds(x)[TAPE], Arrays.toString(want));
    }

    private static void dueOut(String what, MossRings x, int... want) {
        due(what + ": OUT", Arrays.toString(out(x)), Arrays.toString(want));
    }

    private static void dueGrown(String what, int k, int r, int[] table, int[] cells, Call call, int... want) {
        MossRings x = changedWith(k, r, table, what, want.length, cells, call, TAPE, OUT);
        dueOut(what, x, want);
        due(what + ": the tape is empty then", x.count(1), 0);
    }

    private static void dueBehind(String what, int k, int r, int[] table, int[] row, long rows, int... first) {
        MossRings x = changedWith(k, r, table, what, rows, row, y -> y.behind(0), TAPE, OUT);
        dueOut(what, x, first);
        due(what + ": the tape is empty then", x.count(1), 0);
    }

    private static void dueRingsBehind(String what, int k, int r, int[] table, int[] ring, long rings, int... first) {
        MossRings x = changedWith(k, r, table, what, rings, ring, y -> y.ringsBehind(0), TAPE, OUT);
        dueOut(what, x, first);
        due(what + ": the tape is empty then", x.count(1), 0);
    }

    private static void dueMissed(String what, MossRings x, int... want) {
        due(what, x.missed(0), want.length);
        dueOut(what, x, want);
    }

    private static void dueBack(String what, MossRings x, int answer, int[] table) {
        due(what, x.back(0, 5), answer);
        due(what + ": width", x.about(5, 1), answer / 10);
        x.table(5);
        dueOut(what, x, table);
    }

    private static void dueHeight(String what, int k, int r, int[] table, int[] cells, int height, int length) {
        MossRings x = changedWith(k, r, table, what, height, cells, y -> y.height(0), TAPE, ROUND);
        due(what + ": length", x.round(), length);
        due(what + ": the tape is empty then", x.count(1), 0);
    }

    private static void dueAll(String what, int k, int n, int[] table, int... want) {
        dueAllWith(what, k, 1, n, table, want);
    }

    private static void dueAllWith(String what, int k, int r, int n, int[] table, int... want) {
        for (int i = 0; i < want.length; i++) {
            int asked = i;
            String named = what + " n " + n + " what " + i;
            unchangedWith(k, r, table, named, want[i], new int[] {1}, x -> x.all(0, n, asked));
        }
    }

    private static void dueTrimmed(String what, int k, int r, int[] table, int ahead, int... want) {
        MossRings x = withRule(k, r, table);
        due(what, x.trim(0, 5), ahead);
        x.table(5);
        dueOut(what, x, want);
        due(what + ": the width", power(k, x.about(5, 1)), want.length);
        x.table(0);
        dueOut(what + ": the other one stays", x, table);
        due(what + ": to its own slot", x.trim(0, 0), ahead);
        x.table(0);
        dueOut(what + ": to its own slot", x, want);
    }

    /** The greatest state may be at any cell; what is no state is refused at the first cell and at the last. */
    private static void noStates(String what, int k, int r, int[] table, int n, Call call) {
        for (int place : new int[] {0, n - 1}) {
            int[] cells = new int[n];
            cells[place] = k - 1;
            due(what + ": the greatest state", told(call.on(benchWith(k, r, table, cells)) != -1), 1);
            for (int cell : new int[] {k, 127, 128, 255}) {
                cells[place] = cell;
                spentWith(k, r, table, what + ": no state " + cell + " at " + place, -1, cells, call);
            }
        }
    }

    private static void due(String what, boolean got, long want) {
        due(what, told(got), want);
    }

    private static void due(String what, long got, long want) {
        due(what, Long.toString(got), Long.toString(want));
    }

    private static void due(String what, String got, String want) {
        if (!got.equals(want)) {
            wrong++;
            System.out.println(what + " answered " + got + ", due is " + want);
        }
    }

    private static long told(boolean answer) {
        return answer ? 1 : 0;
    }

    // ---- tables and cells

    /** Of each word its cell at the place. */
    private static int[] ofCell(int k, int r, int place) {
        int[] table = new int[power(k, r)];
        for (int word = 0; word < table.length; word++) {
            table[word] = word / power(k, r - 1 - place) % k;
        }
        return table;
    }

    private static int[] sumOf(int k, int r, int one, int other) {
        int[] table = ofCell(k, r, one);
        int[] more = ofCell(k, r, other);
        for (int word = 0; word < table.length; word++) {
            table[word] = (table[word] + more[word]) % k;
        }
        return table;
    }

    /** 0 and 1 change places at a cell of the word if all others are the last state, which never changes. */
    private static int[] swapIfNext(int k, int r, int place) {
        int[] table = ofCell(k, r, place);
        int zero = power(k, r) - 1 - (k - 1) * power(k, r - 1 - place);
        table[zero] = 1;
        table[zero + power(k, r - 1 - place)] = 0;
        return table;
    }

    private static int[] after(int k) {
        int[] table = new int[k];
        for (int state = 0; state < k; state++) {
            table[state] = (state + 1) % k;
        }
        return table;
    }

    private static MossRings missing18() {
        return withRule(2, 4, 0, 0, 0, 1, 0, 1, 0, 1, 0, 1, 1, 0, 1, 0, 1, 0);
    }

    private static MossRings missing21() {
        return withRule(3, 3, 0, 2, 0, 1, 0, 2, 1, 0, 2, 0, 1, 2, 0, 2, 1, 0, 2, 1, 2, 0, 1, 2, 1, 0, 2, 1, 0);
    }

    private static MossRings turnedByWidth4() {
        return withRule(3, 3, 2, 2, 2, 2, 2, 2, 2, 2, 2, 0, 1, 1, 0, 1, 1, 1, 1, 1, 1, 0, 0, 1, 0, 0, 0, 0, 0);
    }

    private static MossRings turnedByWidth3() {
        return withRule(4, 2, 1, 1, 1, 1, 3, 0, 0, 0, 2, 2, 3, 3, 0, 3, 2, 2);
    }

    private static int goesOn(int from, int to) {
        return from > 0 && to < 2 ? 1 : 0;
    }

    private static int[] grown(int k, int r, int[] table, int[] cells) {
        int[] ring = new int[cells.length];
        for (int i = 0; i < cells.length; i++) {
            int word = 0;
            for (int j = 0; j < r; j++) {
                word = word * k + cells[(i + j) % cells.length];
            }
            ring[i] = table[word];
        }
        return ring;
    }

    private static int[] bytes(int[] numbers) {
        int[] bytes = new int[numbers.length];
        for (int i = 0; i < numbers.length; i++) {
            bytes[i] = numbers[i] & 255;
        }
        return bytes;
    }

    private static int[] filled(int n, int state) {
        int[] table = new int[n];
        Arrays.fill(table, state);
        return table;
    }

    private static int[] cycling(int n) {
        return cycling(n, 4);
    }

    private static int[] cycling(int n, int k) {
        int[] cells = new int[n];
        for (int i = 0; i < n; i++) {
            cells[i] = i % k;
        }
        return cells;
    }

    private static int power(int k, int n) {
        return (int) longPower(k, n);
    }

    private static long longPower(int k, int n) {
        long product = 1;
        for (int i = 0; i < n; i++) {
            product *= k;
        }
        return product;
    }

    private static int divisor(int a, int b) {
        return b == 0 ? a : divisor(b, a % b);
    }
}
