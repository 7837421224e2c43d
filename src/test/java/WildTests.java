import java.util.NoSuchElementException;
import java.util.Random;

/** Any calls with any arguments: nothing is thrown but what the document names, and the same calls answer the same. */
public final class WildTests {
    private static final int[] EDGES = {Integer.MIN_VALUE, -129, -128, -1, 127, 128, 255, 1000, 1001, 4096, 20000,
        Integer.MAX_VALUE};

    public static void main(String[] args) {
        int wrong = 0;
        for (int seed = 0; seed < 400; seed++) {
            MossRings one = new MossRings();
            MossRings two = new MossRings();
            Random calls = new Random(seed);
            Random sameCalls = new Random(seed);
            for (int call = 0; call < 512; call++) {
                long first = answer(one, calls);
                long second = answer(two, sameCalls);
                if (first != second) {
                    wrong++;
                    System.out.println("seed " + seed + " call " + call + ": " + first + " and " + second);
                }
            }
        }
        if (wrong != 0) {
            System.exit(1);
        }
    }

    private static long answer(MossRings x, Random random) {
        int kind = random.nextInt(30);
        int a = number(random);
        int b = number(random);
        int c = number(random);
        switch (kind) {
            case 0: return x.end(a) ? 1 : 0;
            case 1: return rule(x, random);
            case 2: return x.rule(a, b, c) ? 1 : 0;
            case 3: return x.about(a, b);
            case 4: return x.table(a);
            case 5: return x.row(a);
            case 6: return x.ring(a, b);
            case 7: return x.behind(a);
            case 8: return x.ringsBehind(a);
            case 9: return x.missed(a);
            case 10: return x.back(a, b);
            case 11: return x.height(a);
            case 12: return x.round();
            case 13: return x.all(a, b, c);
            case 14: return x.keeps(a);
            case 15: return x.join(a, b, c);
            case 16: return x.mirror(a, b) ? 1 : 0;
            case 17: return x.rename(a, b) ? 1 : 0;
            case 18: return x.trim(a, b);
            case 19: return octet(x, a);
            case 20: return x.count(a);
            case 21: return x.feed(random.nextInt(), a, b, c, 0);
            default: return cells(x, random);
        }
    }

    private static long octet(MossRings x, int k) {
        int out = x.count(2);
        try {
            return x.octet(k);
        } catch (NoSuchElementException e) {
            return x.count(2) == out ? -99 : -98;
        }
    }

    private static long rule(MossRings x, Random random) {
        int k = 2 + random.nextInt(3);
        int r = 1 + random.nextInt(new int[] {0, 0, 4, 3, 2}[k]);
        x.end(0);
        x.feed(word(random, k), word(random, k), word(random, k), word(random, k), word(random, k));
        x.feed(word(random, k), word(random, k), word(random, k), word(random, k), word(random, k));
        x.end((int) Math.round(Math.pow(k, r)));
        return x.rule(random.nextInt(6), k, r) ? 1 : 0;
    }

    private static long cells(MossRings x, Random random) {
        int k = 2 + random.nextInt(3);
        x.feed(word(random, k), word(random, k), word(random, k), word(random, k), word(random, k));
        return x.end(random.nextInt(23)) ? 1 : 0;
    }

    private static int word(Random random, int k) {
        int word = 0;
        for (int i = 0; i < 4; i++) {
            word = word << 8 | random.nextInt(k);
        }
        return word;
    }

    private static int number(Random random) {
        int kind = random.nextInt(12);
        if (kind == 0) {
            return EDGES[random.nextInt(EDGES.length)];
        }
        return kind == 1 ? random.nextInt() : random.nextInt(9) - 1;
    }
}
