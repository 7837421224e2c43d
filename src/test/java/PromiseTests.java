import java.util.Arrays;
import java.util.NoSuchElementException;

/** Each promise of the document by hand-made calls. */
public final class PromiseTests {
    private static int wrong = 0;

    public static void main(String[] args) {
        newObject();
        feed();
        end();
        rule();
        about();
        table();
        row();
        ring();
        behind();
        ringsBehind();
        missed();
        back();
        height();
        round();
        all();
        keeps();
        join();
        mirror();
        rename();
        trim();
        octet();
        count();
        tapeIsEmptied();
        tapeStays();
        if (wrong != 0) {
            System.out.println(wrong + " answers are not as due");
            System.exit(1);
        }
    }

    private static void newObject() {
        MossRings x = new MossRings();
        due("P1 rules", x.count(0), 0);
        due("P1 tape", x.count(1), 0);
        due("P1 out", x.count(2), 0);
        due("P1 round", x.round(), 0);
        for (int s = 0; s < 6; s++) {
            due("P1 no rule", x.about(s, 0), -1);
        }
        due("P1 octet", octet(x, 0), -99);
        due("P1 NONE", MossRings.NONE, -1);
    }

    private static void feed() {
        MossRings x = new MossRings();
        due("P2 20", x.feed(0x01000101, 0x01000000, 0, 0, 0x01), 20);
        due("P2 40", x.feed(0, 0, 0, 0, 0), 40);
        due("P2 60", x.feed(0, 0, 0, 0, 0), 60);
        due("P2 80", x.feed(0, 0, 0, 0, 0), 80);
        due("P2 100", x.feed(0, 0, 0, 0, 0x01), 100);
        due("P2 120", x.feed(0, 0, 0, 0, 0), -1);
        due("P2 none came", x.count(1), 100);
        due("P2 end", x.end(81), true);
        due("P2 above 100", x.feed(0, 0, 0, 0, 0), -1);
        due("P2 none came", x.count(1), 81);
        due("P2 end", x.end(80), true);
        due("P2 100 again", x.feed(0, 0, 0, 0, 0x01), 100);
        x = withRule(0, 2, 1, 0, 1);
        x.feed(0x01000101, 0x01000000, 0x00000001, 0, 0x00000001);
        due("P2 highest first", x.ring(0, 0), 20);
        dueOut("P2 highest first", x, 1, 0, 1, 1, 1, 0, 0, 0, 0, 0, 0, 1, 0, 0, 0, 0, 0, 0, 0, 1);
        x = withRule(0, 2, 1, 0, 1);
        x.feed(0xff000000, 0, 0, 0, 0);
        x.end(2);
        due("P2 a byte is no state", x.ring(0, 0), -1);
    }

    private static void end() {
        MossRings x = new MossRings();
        due("P3 0 of 0", x.end(0), true);
        due("P3 1 of 0", x.end(1), false);
        due("P3 below", x.end(-1), false);
        due("P3 least", x.end(Integer.MIN_VALUE), false);
        due("P3 greatest", x.end(Integer.MAX_VALUE), false);
        x.feed(0, 0, 0, 0, 0);
        due("P3 21 of 20", x.end(21), false);
        due("P3 stays", x.count(1), 20);
        due("P3 -1 of 20", x.end(-1), false);
        due("P3 stays", x.count(1), 20);
        due("P3 20 of 20", x.end(20), true);
        due("P3 7 of 20", x.end(7), true);
        due("P3 now 7", x.count(1), 7);
        due("P3 8 of 7", x.end(8), false);
        due("P3 more behind", x.feed(0, 0, 0, 0, 0), 27);
        x = withElementary(0, 110);
        x.feed(0x000101ff, -1, -1, -1, -1);
        x.end(3);
        due("P3 what is behind the end counts no more", x.row(0), 1);
        x.feed(0x000101ff, -1, -1, -1, -1);
        x.end(3);
        due("P3 nor in a ring", x.ring(0, 1), 3);
        x.feed(0x000101ff, -1, -1, -1, -1);
        x.end(3);
        due("P3 nor for what is behind", x.behind(0), 5);
        x.feed(0x0100ffff, -1, -1, -1, -1);
        x.end(2);
        due("P3 nor for names", x.rename(0, 1), true);
    }

    private static void rule() {
        int[] widths = {0, 0, 4, 3, 2};
        for (int k = -1; k <= 6; k++) {
            for (int r = -1; r <= 6; r++) {
                boolean fits = k >= 2 && k <= 4 && r >= 1 && r <= widths[k];
                int words = (int) Math.pow(Math.max(k, 1), Math.max(r, 0));
                MossRings x = new MossRings();
                put(x, new int[Math.min(words, 100)]);
                due("P4 " + k + " " + r, x.rule(5, k, r), fits);
                due("P4 count " + k + " " + r, x.count(0), fits ? 1 : 0);
                due("P4 tape empty", x.count(1), 0);
            }
        }
        MossRings x = withRule(0, 2, 2, 0, 1, 1, 0);
        put(x, 1, 1, 1);
        due("P4 too few", x.rule(0, 2, 2), false);
        put(x, 1, 1, 1, 1, 1);
        due("P4 too many", x.rule(0, 2, 2), false);
        put(x, 1, 1, 1, 2);
        due("P4 no state", x.rule(0, 2, 2), false);
        put(x, 1, 1, 1, 255);
        due("P4 no state 255", x.rule(0, 2, 2), false);
        put(x, 1, 1, 1, 1);
        due("P4 slot 6", x.rule(6, 2, 2), false);
        put(x, 1, 1, 1, 1);
        due("P4 slot -1", x.rule(-1, 2, 2), false);
        put(x, 1, 1, 1, 1);
        due("P4 k greatest", x.rule(0, Integer.MAX_VALUE, 2), false);
        due("P4 it stays", x.table(0), 4);
        dueOut("P4 it stays", x, 0, 1, 1, 0);
        put(x, 2, 1, 0);
        due("P4 in its place", x.rule(0, 3, 1), true);
        due("P4 in its place", x.about(0, 0), 3);
        due("P4 one rule", x.count(0), 1);
        due("P4 out stays", x.count(2), 4);
    }

    private static void about() {
        MossRings x = withElementary(0, 204);
        due("P5 k", x.about(0, 0), 2);
        due("P5 r", x.about(0, 1), 3);
        due("P5 full", x.about(0, 2), 1);
        due("P5 loses nothing", x.about(0, 3), 1);
        due("P5 what 4", x.about(0, 4), -1);
        due("P5 what -1", x.about(0, -1), -1);
        due("P5 no rule", x.about(1, 0), -1);
        due("P5 slot -1", x.about(-1, 0), -1);
        due("P5 slot 6", x.about(6, 3), -1);
        // the elementary rules that are onto and those that turn back are long known
        int[] full = {15, 30, 45, 51, 60, 75, 85, 86, 89, 90, 101, 102, 105, 106, 120, 135, 149, 150, 153, 154,
            165, 166, 169, 170, 180, 195, 204, 210, 225, 240};
        int[] keepsAll = {15, 51, 85, 170, 204, 240};
        for (int number = 0; number < 256; number++) {
            x = withElementary(3, number);
            due("P5 full " + number, x.about(3, 2), Arrays.binarySearch(full, number) >= 0 ? 1 : 0);
            due("P5 loses nothing " + number, x.about(3, 3), Arrays.binarySearch(keepsAll, number) >= 0 ? 1 : 0);
        }
        x = withRule(1, 4, 1, 2, 0, 3, 1);
        due("P5 width 1 full", x.about(1, 2), 1);
        due("P5 width 1 loses nothing", x.about(1, 3), 1);
        x = withRule(1, 4, 1, 2, 0, 3, 3);
        due("P5 width 1 not full", x.about(1, 2), 0);
        due("P5 width 1 loses", x.about(1, 3), 0);
    }

    private static void table() {
        MossRings x = withRule(2, 3, 2, 0, 1, 2, 2, 1, 0, 1, 1, 2);
        due("P6 bytes", x.table(2), 9);
        dueOut("P6", x, 0, 1, 2, 2, 1, 0, 1, 1, 2);
        due("P6 no rule", x.table(1), -1);
        due("P6 slot -1", x.table(-1), -1);
        due("P6 slot 6", x.table(6), -1);
        dueOut("P6 stays", x, 0, 1, 2, 2, 1, 0, 1, 1, 2);
    }

    private static void row() {
        MossRings x = withElementary(0, 110);
        put(x, 0, 0, 1, 1, 0, 1);
        due("P7 cells", x.row(0), 4);
        dueOut("P7", x, 1, 1, 1, 1);
        put(x, 1, 1, 1);
        due("P7 as many as r", x.row(0), 1);
        dueOut("P7 as many as r", x, 0);
        put(x, 1, 1);
        due("P7 fewer than r", x.row(0), -1);
        due("P7 empty", x.row(0), -1);
        put(x, 1, 1, 2);
        due("P7 no state", x.row(0), -1);
        put(x, 1, 1, 1);
        due("P7 no rule", x.row(1), -1);
        dueOut("P7 stays", x, 0);
        put(x, new int[100]);
        due("P7 100 cells", x.row(0), 98);
        due("P7 last", octet(x, 97), 0);
        due("P7 none behind", octet(x, 98), -99);
        x = withRule(0, 3, 2, 0, 1, 2, 1, 2, 0, 2, 0, 2);
        put(x, 2, 0, 1, 1, 2, 2);
        due("P7 first highest", x.row(0), 5);
        dueOut("P7 first highest", x, 2, 1, 2, 0, 2);
    }

    private static void ring() {
        MossRings x = withElementary(0, 170);
        put(x, 1, 0, 0, 0);
        due("P8 0 steps", x.ring(0, 0), 4);
        dueOut("P8 0 steps", x, 1, 0, 0, 0);
        put(x, 1, 0, 0, 0);
        due("P8 1 step", x.ring(0, 1), 4);
        // the cell to the right's right comes to each place, as the word starts at the cell itself
        dueOut("P8 1 step", x, 0, 0, 1, 0);
        put(x, 1, 0, 0, 0);
        due("P8 3 steps", x.ring(0, 3), 4);
        dueOut("P8 3 steps", x, 0, 0, 1, 0);
        put(x, 1, 0, 0);
        due("P8 1000 steps", x.ring(0, 1000), 3);
        dueOut("P8 1000 steps", x, 0, 1, 0);
        put(x, 1, 0, 0);
        due("P8 1001 steps", x.ring(0, 1001), -1);
        put(x, 1, 0, 0);
        due("P8 -1 steps", x.ring(0, -1), -1);
        due("P8 no cell", x.ring(0, 1), -1);
        put(x, 1, 0, 2);
        due("P8 no state", x.ring(0, 0), -1);
        put(x, 1, 0, 0);
        due("P8 no rule", x.ring(5, 0), -1);
        dueOut("P8 stays", x, 0, 1, 0);
        put(x, new int[100]);
        due("P8 100 cells", x.ring(0, 1), 100);
        x = withRule(0, 2, 4, 0, 0, 0, 0, 0, 1, 0, 0, 0, 0, 1, 0, 0, 0, 0, 1);
        put(x, 1);
        due("P8 one cell, round and round", x.ring(0, 1), 1);
        dueOut("P8 one cell", x, 1);
        put(x, 0, 1);
        due("P8 two cells", x.ring(0, 1), 2);
        dueOut("P8 two cells", x, 1, 1);
    }

    private static void behind() {
        MossRings x = withElementary(0, 90);
        put(x, new int[20]);
        due("P9 20 cells", x.behind(0), 4);
        due("P9 first has 22", x.count(2), 22);
        put(x, new int[21]);
        due("P9 21 cells", x.behind(0), -1);
        due("P9 0 cells", x.behind(0), -1);
        put(x, 0, 2);
        due("P9 no state", x.behind(0), -1);
        put(x, 0);
        due("P9 no rule", x.behind(1), -1);
        due("P9 stays", x.count(2), 22);
        put(x, 1, 0, 1, 1);
        due("P9", x.behind(0), 4);
        dueOut("P9 the first", x, 0, 0, 1, 0, 0, 1);
        x = withElementary(0, 110);
        put(x, 0, 1, 0, 1, 0);
        due("P9 none", x.behind(0), 0);
        due("P9 none: stays", x.count(2), 0);
        x = withRule(0, 4, 2, new int[16]);
        put(x, new int[20]);
        due("P9 many", x.behind(0), 1L << 42);
        put(x, 0, 3);
        due("P9 none of many", x.behind(0), 0);
        due("P9 stays", x.count(2), 21);
        x = withRule(0, 3, 1, 2, 1, 2);
        put(x, 2, 1, 2);
        due("P9 width 1", x.behind(0), 4);
        dueOut("P9 width 1", x, 0, 1, 0);
    }

    private static void ringsBehind() {
        MossRings x = withElementary(0, 90);
        put(x, 0, 0);
        due("P10 two cells", x.ringsBehind(0), 4);
        dueOut("P10 two cells", x, 0, 0);
        put(x, 1, 0, 1);
        due("P10", x.ringsBehind(0), 2);
        dueOut("P10 first", x, 0, 0, 1);
        put(x, 1, 0, 0);
        due("P10 none", x.ringsBehind(0), 0);
        dueOut("P10 none: stays", x, 0, 0, 1);
        put(x, new int[21]);
        due("P10 21", x.ringsBehind(0), -1);
        due("P10 0", x.ringsBehind(0), -1);
        put(x, 3);
        due("P10 no state", x.ringsBehind(0), -1);
        put(x, 0);
        due("P10 no rule", x.ringsBehind(2), -1);
        x = withRule(0, 4, 2, new int[16]);
        put(x, new int[20]);
        due("P10 many", x.ringsBehind(0), 1L << 40);
        due("P10 20 cells", x.count(2), 20);
        x = withRule(0, 2, 4, 0, 0, 0, 0, 0, 0, 0, 0, 0, 0, 0, 0, 0, 0, 0, 1);
        put(x, 1);
        due("P10 shorter than the width", x.ringsBehind(0), 1);
        dueOut("P10 shorter than the width", x, 1);
        put(x, 0, 0);
        due("P10 two, width 4", x.ringsBehind(0), 3);
        dueOut("P10 two, width 4", x, 0, 0);
        x = withRule(0, 3, 1, 2, 1, 2);
        put(x, 2, 1, 2);
        due("P10 width 1", x.ringsBehind(0), 4);
        dueOut("P10 width 1", x, 0, 1, 0);
    }

    private static void missed() {
        MossRings x = withElementary(0, 110);
        due("P11 110", x.missed(0), 5);
        dueOut("P11 110", x, 0, 1, 0, 1, 0);
        put(x, 0, 1, 1, 0);
        x.rule(1, 2, 2);
        due("P11 full", x.missed(1), 0);
        due("P11 no rule", x.missed(2), -1);
        due("P11 slot", x.missed(-1), -1);
        dueOut("P11 stays", x, 0, 1, 0, 1, 0);
        x = withElementary(0, 0);
        due("P11 rule 0", x.missed(0), 1);
        dueOut("P11 rule 0", x, 1);
        x = withRule(0, 4, 1, 0, 0, 3, 3);
        due("P11 the first of two", x.missed(0), 1);
        dueOut("P11 the first of two", x, 1);
        x = withElementary(0, 204 - 128);
        due("P11 76", x.missed(0), 3);
        dueOut("P11 76", x, 1, 1, 1);
    }

    private static void back() {
        int[][] known = {{15, 10}, {51, 11}, {85, 12}, {240, 10}, {204, 11}, {170, 12}};
        for (int[] one : known) {
            MossRings x = withElementary(0, one[0]);
            due("P12 " + one[0], x.back(0, 1), one[1]);
            boolean turned = one[0] % 2 == 1;
            due("P12 width 1", x.table(1), 2);
            dueOut("P12 table", x, turned ? 1 : 0, turned ? 0 : 1);
        }
        MossRings x = withElementary(0, 90);
        put(x, 0, 1);
        x.rule(1, 2, 1);
        due("P12 none such", x.back(0, 1), 0);
        due("P12 it stays", x.about(1, 1), 1);
        due("P12 no rule", x.back(2, 0), -1);
        due("P12 slot 6", x.back(0, 6), -1);
        due("P12 slot -1", x.back(0, -1), -1);
        due("P12 slot s -1", x.back(-1, 0), -1);
        due("P12 into itself", x.back(1, 1), 10);
        // cell 1 turns if cells 0, 2, 3 are 0, 1, 0: its own turning back, cell 1 of a window of four
        int[] told = new int[16];
        for (int word = 0; word < 16; word++) {
            int turn = (word & 11) == 2 ? 1 : 0;
            told[word] = word >> 2 & 1 ^ turn;
        }
        x = withRule(0, 2, 4, told);
        due("P12 loses nothing", x.about(0, 3), 1);
        due("P12 width 4", x.back(0, 1), 42);
        due("P12 itself", x.table(1), 16);
        dueOut("P12 itself", x, told);
        due("P12 forth", x.join(1, 1, 2), -1);
    }

    private static void height() {
        MossRings x = withElementary(1, 90);
        put(x, 1, 0, 0);
        due("P13", x.height(1), 1);
        due("P13 length: the ring turns as it goes", x.round(), 3);
        put(x, 1, 0, 0, 0);
        due("P13 four cells die", x.height(1), 2);
        put(x, new int[21]);
        due("P13 21 cells", x.height(1), -1);
        due("P13 0 cells", x.height(1), -1);
        put(x, 2);
        due("P13 no state", x.height(1), -1);
        put(x, 1);
        due("P13 no rule", x.height(0), -1);
        // a cell alone turns round twenty cells in twenty steps
        x = withElementary(1, 170);
        put(x, 0, 0, 0, 0, 0, 0, 0, 0, 0, 0, 0, 0, 0, 0, 0, 0, 0, 0, 1);
        due("P13 nineteen cells", x.height(1), 0);
        due("P13 nineteen cells", x.round(), 19);
        // sums of neighbours over thirteen cells: over states 0, 1 the powers of 1 + x come again behind 819 steps
        x = withRule(1, 2, 2, 0, 1, 1, 0);
        put(x, 1, 0, 0, 0, 0, 0, 0, 0, 0, 0, 0, 0, 0);
        due("P13 thirteen", x.height(1), 1);
        due("P13 its length", x.round(), 819);
        // over nineteen cells they come again behind 9709 steps
        put(x, 1, 0, 0, 0, 0, 0, 0, 0, 0, 0, 0, 0, 0, 0, 0, 0, 0, 0, 0);
        due("P13 nineteen", x.height(1), 1);
        due("P13 its length", x.round(), 9709);
        due("P13 slot", x.height(7), -1);
    }

    private static void round() {
        MossRings x = new MossRings();
        due("P14 ahead of any", x.round(), 0);
        put(x, 1);
        due("P14 NONE", x.height(0), -1);
        due("P14 still", x.round(), 0);
        putElementary(x, 0, 170);
        put(x, 1, 0, 0, 0, 0);
        due("P14 on its round", x.height(0), 0);
        due("P14 length", x.round(), 5);
        due("P14 all leaves it", x.all(0, 3, 4), 3);
        due("P14 length", x.round(), 5);
        due("P14 NONE", x.height(0), -1);
        due("P14 stays", x.round(), 5);
        put(x, 1, 1, 1);
        due("P14 anew", x.height(0), 0);
        due("P14 anew", x.round(), 1);
    }

    private static void all() {
        MossRings x = withElementary(0, 90);
        int[] due = {4, 4, 2, 1, 3};
        for (int what = 0; what < 5; what++) {
            due("P15 " + what, x.all(0, 3, what), due[what]);
        }
        due("P15 what 5", x.all(0, 3, 5), -1);
        due("P15 what -1", x.all(0, 3, -1), -1);
        due("P15 n 0", x.all(0, 0, 0), -1);
        due("P15 n -1", x.all(0, -1, 0), -1);
        due("P15 n greatest", x.all(0, Integer.MAX_VALUE, 0), -1);
        due("P15 n 12", x.all(0, 12, 1), 256);
        due("P15 n 13", x.all(0, 13, 1), -1);
        due("P15 no rule", x.all(1, 3, 1), -1);
        x = withRule(2, 3, 1, 1, 2, 0);
        due("P15 k 3 n 7", x.all(2, 7, 1), 2187);
        due("P15 k 3 n 7 rounds", x.all(2, 7, 2), 729);
        due("P15 k 3 n 8", x.all(2, 8, 1), -1);
        x = withRule(2, 4, 1, 1, 2, 3, 3);
        due("P15 k 4 n 6 none behind", x.all(2, 6, 0), 4096 - 729);
        due("P15 k 4 n 6 height", x.all(2, 6, 3), 3);
        due("P15 k 4 n 6 rounds", x.all(2, 6, 2), 1);
        due("P15 k 4 n 7", x.all(2, 7, 2), -1);
        put(x, 1, 2, 3, 0);
        x.rule(2, 4, 1);
        due("P15 another rule in the slot", x.all(2, 6, 0), 0);
        due("P15 one cell", x.all(2, 1, 4), 4);
    }

    private static void keeps() {
        int[] known = {170, 184, 204, 226, 240};
        for (int number = 0; number < 256; number++) {
            MossRings x = withElementary(0, number);
            put(x, 0, 1);
            due("P16 " + number, x.keeps(0), Arrays.binarySearch(known, number) >= 0 ? 1 : 0);
        }
        MossRings x = withElementary(0, 30);
        put(x, 7, 7);
        due("P16 all alike", x.keeps(0), 1);
        put(x, 7, 8, 9);
        due("P16 three bytes", x.keeps(0), -1);
        put(x, 7);
        due("P16 one byte", x.keeps(0), -1);
        due("P16 no byte", x.keeps(0), -1);
        put(x, 7, 7);
        due("P16 no rule", x.keeps(1), -1);
        // 0 and 2 change places, so their weights alone must be alike
        x = withRule(0, 3, 1, 2, 1, 0);
        put(x, 1, 0xff, 1);
        due("P16 signs", x.keeps(0), 1);
        put(x, 0xff, 0, 1);
        due("P16 signs", x.keeps(0), 0);
        put(x, 0x80, 0x7f, 0x80);
        due("P16 edges of signs", x.keeps(0), 1);
    }

    private static void join() {
        MossRings x = withRule(0, 2, 2, 0, 1, 1, 0);
        due("P17", x.join(0, 0, 1), 3);
        due("P17 90", x.table(1), 8);
        dueOut("P17 90", x, elementary(90));
        put(x, 0, 0, 0, 1);
        x.rule(2, 2, 2);
        due("P17 first xor, then and", x.join(0, 2, 3), 3);
        due("P17", x.table(3), 8);
        dueOut("P17 xor, and", x, 0, 0, 1, 0, 0, 1, 0, 0);
        due("P17 first and, then xor", x.join(2, 0, 3), 3);
        due("P17", x.table(3), 8);
        dueOut("P17 and, xor", x, 0, 0, 0, 1, 0, 0, 1, 0);
        due("P17 into the first", x.join(2, 0, 2), 3);
        due("P17", x.table(2), 8);
        dueOut("P17 into the first", x, 0, 0, 0, 1, 0, 0, 1, 0);
        due("P17 width 4", x.join(1, 0, 4), 4);
        due("P17 width 5", x.join(1, 1, 4), -1);
        due("P17 stays", x.about(4, 1), 4);
        put(x, 1, 2, 0);
        x.rule(5, 3, 1);
        due("P17 unlike k", x.join(0, 5, 4), -1);
        due("P17 slot u 6", x.join(0, 0, 6), -1);
        due("P17 slot u -1", x.join(0, 0, -1), -1);
        due("P17 slot s", x.join(6, 0, 4), -1);
        due("P17 slot t", x.join(0, -1, 4), -1);
        x = withRule(0, 4, 2, new int[16]);
        due("P17 k 4 width 3", x.join(0, 0, 1), -1);
        due("P17 no rule", x.join(0, 1, 2), -1);
        due("P17 no rule", x.join(1, 0, 2), -1);
        due("P17 nothing came", x.count(0), 1);
        x = withRule(0, 3, 2, 0, 1, 2, 1, 2, 0, 2, 0, 1);
        due("P17 k 3 width 3", x.join(0, 0, 1), 3);
        due("P17 k 3 width 4", x.join(0, 1, 1), -1);
    }

    private static void mirror() {
        MossRings x = withElementary(0, 110);
        due("P18", x.mirror(0, 1), true);
        x.table(1);
        dueOut("P18 124", x, elementary(124));
        due("P18 into itself", x.mirror(0, 0), true);
        x.table(0);
        dueOut("P18 into itself", x, elementary(124));
        due("P18 no rule", x.mirror(2, 1), false);
        due("P18 slot t", x.mirror(0, 6), false);
        due("P18 slot t", x.mirror(0, -1), false);
        due("P18 slot s", x.mirror(6, 0), false);
        x = withRule(0, 3, 2, 0, 1, 2, 2, 1, 0, 0, 0, 2);
        x.mirror(0, 5);
        x.table(5);
        dueOut("P18 k 3", x, 0, 2, 0, 1, 1, 0, 2, 0, 2);
    }

    private static void rename() {
        MossRings x = withElementary(0, 110);
        put(x, 1, 0);
        due("P19", x.rename(0, 1), true);
        x.table(1);
        dueOut("P19 137", x, elementary(137));
        put(x, 0, 1);
        due("P19 the same names", x.rename(0, 0), true);
        x.table(0);
        dueOut("P19 110", x, elementary(110));
        int[][] none = {{0, 0}, {1, 1}, {0, 2}, {0}, {}, {0, 1, 2}, {1, 0, 0}, {255, 0}};
        for (int[] names : none) {
            put(x, names);
            due("P19 " + Arrays.toString(names), x.rename(0, 1), false);
        }
        put(x, 0, 1);
        due("P19 no rule", x.rename(3, 1), false);
        put(x, 0, 1);
        due("P19 slot t", x.rename(0, 6), false);
        x.table(1);
        dueOut("P19 it stays", x, elementary(137));
        renameMoreStates();
    }

    /** States 0, 1, 2 of the new rule are states 1, 2, 0 of the old one, and so on: two states can't tell which way. */
    private static void renameMoreStates() {
        dueNamed(3, 1, new int[] {1, 2, 0}, new int[] {0, 0, 0}, 2, 2, 2);
        dueNamed(3, 1, new int[] {1, 2, 0}, new int[] {0, 0, 1}, 2, 0, 2);
        dueNamed(3, 1, new int[] {2, 0, 1}, new int[] {0, 0, 1}, 2, 1, 1);
        dueNamed(3, 2, new int[] {1, 2, 0}, new int[] {0, 1, 2, 2, 1, 0, 0, 0, 2}, 0, 2, 1, 2, 1, 2, 0, 1, 2);
        dueNamed(4, 1, new int[] {1, 2, 3, 0}, new int[] {0, 0, 1, 3}, 3, 0, 2, 3);
        dueNamed(4, 2, new int[] {1, 3, 0, 2},
                new int[] {0, 1, 2, 3, 1, 2, 3, 0, 2, 3, 0, 1, 3, 3, 3, 0},
                3, 2, 0, 1, 1, 2, 1, 1, 0, 1, 2, 3, 1, 0, 3, 2);
    }

    private static void dueNamed(int k, int r, int[] names, int[] told, int... named) {
        String what = "P19 " + Arrays.toString(names) + Arrays.toString(told);
        MossRings x = withRule(0, k, r, told);
        put(x, names);
        due(what, x.rename(0, 1), true);
        x.table(1);
        dueOut(what, x, named);
        x.table(0);
        dueOut(what + " the other one stays", x, told);
        put(x, names);
        due(what, x.rename(0, 0), true);
        x.table(0);
        dueOut(what + " in its own slot", x, named);
    }

    private static void trim() {
        int[][] known = {{204, 1}, {51, 1}, {170, 2}, {240, 0}, {0, 2}, {255, 2}, {110, 0}, {90, 0}};
        int[] widths = {1, 1, 1, 1, 1, 1, 3, 3};
        for (int i = 0; i < known.length; i++) {
            MossRings x = withElementary(0, known[i][0]);
            due("P20 " + known[i][0], x.trim(0, 1), known[i][1]);
            due("P20 width " + known[i][0], x.about(1, 1), widths[i]);
            due("P20 the other stays", x.about(0, 1), 3);
        }
        MossRings x = withElementary(0, 60);
        due("P20 60", x.trim(0, 0), 0);
        due("P20 60", x.table(0), 4);
        dueOut("P20 60", x, 0, 1, 1, 0);
        x = withElementary(0, 102);
        due("P20 102", x.trim(0, 3), 1);
        due("P20 102", x.table(3), 4);
        dueOut("P20 102", x, 0, 1, 1, 0);
        x = withRule(0, 2, 4, 0, 0, 0, 0, 0, 0, 0, 0, 0, 0, 0, 0, 0, 0, 0, 0);
        due("P20 tells always the same", x.trim(0, 0), 3);
        due("P20 tells always the same", x.about(0, 1), 1);
        due("P20 no rule", x.trim(1, 0), -1);
        due("P20 slot t", x.trim(0, 6), -1);
        due("P20 slot t", x.trim(0, -1), -1);
    }

    private static void octet() {
        MossRings x = new MossRings();
        due("P21 empty", octet(x, 0), -99);
        putElementary(x, 0, 110);
        x.table(0);
        for (int i = 0; i < 8; i++) {
            due("P21 " + i, octet(x, i), 110 >> i & 1);
        }
        due("P21 8", octet(x, 8), -99);
        due("P21 -1", octet(x, -1), -99);
        due("P21 greatest", octet(x, Integer.MAX_VALUE), -99);
        due("P21 least", octet(x, Integer.MIN_VALUE), -99);
        put(x, 1, 1, 1);
        x.row(0);
        due("P21 shorter", octet(x, 1), -99);
    }

    private static void count() {
        MossRings x = withElementary(0, 110);
        putElementary(x, 5, 110);
        due("P22 rules", x.count(0), 2);
        putElementary(x, 5, 90);
        due("P22 rules", x.count(0), 2);
        put(x, 1, 0, 1);
        due("P22 tape", x.count(1), 3);
        due("P22 out", x.count(2), 0);
        x.table(0);
        due("P22 out", x.count(2), 8);
        due("P22 tape stays", x.count(1), 3);
        due("P22 3", x.count(3), -1);
        due("P22 -1", x.count(-1), -1);
    }

    /** Every call that reads the tape empties it, be its answer NONE, false or another. */
    private static void tapeIsEmptied() {
        for (int call = 0; call < 8; call++) {
            for (int slot = -1; slot < 7; slot++) {
                MossRings x = withElementary(0, 110);
                put(x, 1, 0);
                if (call == 0) {
                    x.rule(slot, 2, 1);
                } else if (call == 1) {
                    x.row(slot);
                } else if (call == 2) {
                    x.ring(slot, 1);
                } else if (call == 3) {
                    x.behind(slot);
                } else if (call == 4) {
                    x.ringsBehind(slot);
                } else if (call == 5) {
                    x.height(slot);
                } else if (call == 6) {
                    x.keeps(slot);
                } else {
                    x.rename(slot, 1);
                }
                due("tape empty behind call " + call + " slot " + slot, x.count(1), 0);
            }
        }
    }

    private static void tapeStays() {
        MossRings x = withElementary(0, 110);
        put(x, 1, 0);
        x.about(0, 2);
        x.table(0);
        x.missed(0);
        x.back(0, 1);
        x.round();
        x.all(0, 3, 1);
        x.join(0, 0, 1);
        x.mirror(0, 1);
        x.trim(0, 2);
        x.end(9);
        octet(x, 0);
        octet(x, 99);
        due("tape stays", x.count(1), 2);
    }

    private static int[] elementary(int number) {
        int[] told = new int[8];
        for (int word = 0; word < 8; word++) {
            told[word] = number >> word & 1;
        }
        return told;
    }

    private static MossRings withElementary(int s, int number) {
        return withRule(s, 2, 3, elementary(number));
    }

    private static void putElementary(MossRings x, int s, int number) {
        put(x, elementary(number));
        due("elementary", x.rule(s, 2, 3), true);
    }

    private static MossRings withRule(int s, int k, int r, int... told) {
        MossRings x = new MossRings();
        put(x, told);
        due("rule", x.rule(s, k, r), true);
        return x;
    }

    private static void put(MossRings x, int... bytes) {
        x.end(0);
        int[] whole = Arrays.copyOf(bytes, (bytes.length + 19) / 20 * 20);
        for (int i = 0; i < whole.length; i += 20) {
            x.feed(number(whole, i), number(whole, i + 4), number(whole, i + 8), number(whole, i + 12),
                number(whole, i + 16));
        }
        due("put", x.end(bytes.length), true);
    }

    private static int number(int[] bytes, int i) {
        return bytes[i] << 24 | bytes[i + 1] << 16 | bytes[i + 2] << 8 | bytes[i + 3];
    }

    /** The byte, or -99 if there is none such. */
    private static int octet(MossRings x, int k) {
        try {
            return x.octet(k);
        } catch (NoSuchElementException e) {
            return -99;
        }
    }

    private static void dueOut(String what, MossRings x, int... want) {
        int[] got = new int[Math.max(0, x.count(2))];
        for (int i = 0; i < got.length; i++) {
            got[i] = octet(x, i);
        }
        if (!Arrays.equals(got, want)) {
            wrong++;
            System.out.println(what + ": OUT is " + Arrays.toString(got) + ", due is " + Arrays.toString(want));
        }
    }

    private static void due(String what, boolean got, boolean want) {
        due(what, got ? 1 : 0, want ? 1 : 0);
    }

    private static void due(String what, long got, long want) {
        if (got != want) {
            wrong++;
            System.out.println(what + " answered " + got + ", due is " + want);
        }
    }
}
