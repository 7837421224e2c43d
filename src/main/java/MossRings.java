import java.util.Arrays;
import java.util.NoSuchElementException;

/** A bench for rings and rows of cells that grow by a rule of neighbours. */
public final class MossRings {
    public static final int NONE = -1;

    private static final int SLOTS = 6;
    private static final int MOST_BYTES = 100;
    private static final int BYTES_A_FEED = 20;
    private static final int MOST_STEPS = 1000;
    private static final int MOST_STATES = 4;
    private static final int MOST_WORDS = 27;
    private static final int MOST_NODES = 9;
    private static final int MOST_CELLS = 20;
    private static final int MOST_RINGS = 4096;
    private static final int MOST_TRAIL = 20000;
    /** A shortest missed row goes over unlike sets of nodes, so it has fewer cells than there are sets. */
    private static final int SETS = 1 << MOST_NODES;
    private static final int[] MOST_WIDTH = {0, 0, 4, 3, 2};

    private final Rule[] slots;
    private final int[] tape;
    private int tapeLength;
    private final int[] out;
    private int outLength;
    private int roundLength;
    private int[] here;
    private int[] there;
    private final int[] told;
    private final Walks walks;
    private final Sets sets;
    private final Pairs pairs;
    private Trail trail;
    private Survey survey;

    public MossRings() {
        slots = new Rule[SLOTS];
        tape = new int[MOST_BYTES];
        out = new int[SETS];
        here = new int[MOST_BYTES];
        there = new int[MOST_BYTES];
        told = new int[MOST_WORDS];
        walks = new Walks();
        sets = new Sets();
        pairs = new Pairs();
    }

    public int feed(int a, int b, int c, int d, int e) {
        if (tapeLength > MOST_BYTES - BYTES_A_FEED) {
            return NONE;
        }
        putBytes(a);
        putBytes(b);
        putBytes(c);
        putBytes(d);
        putBytes(e);
        return tapeLength;
    }

    public boolean end(int n) {
        if (n < 0 || n > tapeLength) {
            return false;
        }
        tapeLength = n;
        return true;
    }

    public boolean rule(int s, int k, int r) {
        int n = takeTape();
        if (!isSlot(s) || r < 1 || r > mostWidth(k)) {
            return false;
        }
        if (n != power(k, r) || !areStates(k, n)) {
            return false;
        }
        slots[s] = new Rule(k, r, tape);
        return true;
    }

    public int about(int s, int what) {
        Rule rule = ruleIn(s);
        if (rule == null) {
            return NONE;
        }
        switch (what) {
            case 0:
                return rule.states;
            case 1:
                return rule.width;
            case 2:
                return sets.missesSome(rule) ? 0 : 1;
            case 3:
                return pairs.losesNothing(rule) ? 1 : 0;
            default:
                return NONE;
        }
    }

    public int table(int s) {
        Rule rule = ruleIn(s);
        if (rule == null) {
            return NONE;
        }
        for (int word = 0; word < rule.words && word < out.length; word++) {
            out[word] = rule.tells(word);
        }
        outLength = rule.words;
        return outLength;
    }

    public int row(int s) {
        int n = takeTape();
        Rule rule = ruleIn(s);
        if (rule == null || n < rule.width || !areStates(rule.states, n)) {
            return NONE;
        }
        outLength = n - rule.width + 1;
        rule.grow(tape, n, outLength, out);
        return outLength;
    }

    public int ring(int s, int t) {
        int n = takeTape();
        Rule rule = ruleIn(s);
        if (rule == null || t < 0 || t > MOST_STEPS || n < 1 || !areStates(rule.states, n)) {
            return NONE;
        }
        System.arraycopy(tape, 0, here, 0, n);
        for (int step = 0; step < t; step++) {
            rule.grow(here, n, n, there);
            int[] grown = there;
            there = here;
            here = grown;
        }
        System.arraycopy(here, 0, out, 0, n);
        outLength = n;
        return outLength;
    }

    public long behind(int s) {
        int n = takeTape();
        Rule rule = ruleIn(s);
        if (rule == null || !areFewStates(rule.states, n)) {
            return NONE;
        }
        long rows = walks.rowsBehind(rule, tape, n);
        if (rows > 0) {
            outLength = walks.writeFirst(tape, n, out);
        }
        return rows;
    }

    public long ringsBehind(int s) {
        int n = takeTape();
        Rule rule = ruleIn(s);
        if (rule == null || !areFewStates(rule.states, n)) {
            return NONE;
        }
        long rings = walks.closedBehind(rule, tape, n);
        if (rings > 0) {
            walks.writeFirst(tape, n, out);
            outLength = n;
        }
        return rings;
    }

    public int missed(int s) {
        Rule rule = ruleIn(s);
        if (rule == null) {
            return NONE;
        }
        if (!sets.missesSome(rule)) {
            return 0;
        }
        outLength = sets.writeMissed(out);
        return outLength;
    }

    public int back(int s, int t) {
        Rule rule = ruleIn(s);
        if (rule == null || !isSlot(t)) {
            return NONE;
        }
        for (int w = 1; w <= mostWidth(rule.states); w++) {
            for (int d = 0; d <= rule.width + w - 2; d++) {
                if (turnsBack(rule, w, d)) {
                    slots[t] = new Rule(rule.states, w, told);
                    return 10 * w + d;
                }
            }
        }
        return 0;
    }

    public int height(int s) {
        int n = takeTape();
        Rule rule = ruleIn(s);
        if (rule == null || !areFewStates(rule.states, n)) {
            return NONE;
        }
        if (trail == null) {
            trail = new Trail();
        }
        int height = trail.climb(rule, tape, n);
        if (height != NONE) {
            roundLength = trail.roundLength;
        }
        return height;
    }

    public int round() {
        return roundLength;
    }

    public int all(int s, int n, int what) {
        Rule rule = ruleIn(s);
        if (rule == null || what < 0 || what > 4) {
            return NONE;
        }
        int rings = ringsOf(rule.states, n);
        if (rings == NONE) {
            return NONE;
        }
        if (survey == null) {
            survey = new Survey();
        }
        survey.look(rule, n, rings);
        return survey.tell(what);
    }

    public int keeps(int s) {
        int n = takeTape();
        Rule rule = ruleIn(s);
        if (rule == null || n != rule.states) {
            return NONE;
        }
        for (int i = 0; i < n; i++) {
            here[i] = (byte) tape[i];
        }
        return rule.holds(here) ? 1 : 0;
    }

    public int join(int s, int t, int u) {
        Rule first = ruleIn(s);
        Rule second = ruleIn(t);
        if (first == null || second == null || !isSlot(u) || first.states != second.states) {
            return NONE;
        }
        int width = first.width + second.width - 1;
        if (width > mostWidth(first.states)) {
            return NONE;
        }
        int words = power(first.states, width);
        for (int word = 0; word < words && word < told.length; word++) {
            first.spread(word, width, here);
            told[word] = second.tells((int) first.grow(here, width, second.width, there));
        }
        slots[u] = new Rule(first.states, width, told);
        return width;
    }

    public boolean mirror(int s, int t) {
        Rule rule = ruleIn(s);
        if (rule == null || !isSlot(t)) {
            return false;
        }
        for (int word = 0; word < rule.words && word < told.length; word++) {
            told[word] = rule.tells(rule.backward(word));
        }
        slots[t] = new Rule(rule.states, rule.width, told);
        return true;
    }

    public boolean rename(int s, int t) {
        int n = takeTape();
        Rule rule = ruleIn(s);
        if (rule == null || !isSlot(t) || n != rule.states || !isEachOnce(n)) {
            return false;
        }
        // a name of t stands for the state of s that lies at that place of the tape
        for (int word = 0; word < rule.words && word < told.length; word++) {
            told[word] = placeOnTape(rule.tells(rule.translated(word, tape)), n);
        }
        slots[t] = new Rule(rule.states, rule.width, told);
        return true;
    }

    public int trim(int s, int t) {
        Rule rule = ruleIn(s);
        if (rule == null || !isSlot(t)) {
            return NONE;
        }
        int ahead = 0;
        for (int left = rule.width; left > 1 && rule.idlesAhead(); left--) {
            rule = rule.withoutAhead();
            ahead++;
        }
        for (int left = rule.width; left > 1 && rule.idlesBehind(); left--) {
            rule = rule.withoutBehind();
        }
        slots[t] = rule;
        return ahead;
    }

    public int octet(int k) throws NoSuchElementException {
        if (k < 0 || k >= outLength || k >= out.length) {
            throw new NoSuchElementException("OUT has no such byte");
        }
        return out[k];
    }

    public int count(int what) {
        switch (what) {
            case 0:
                return fullSlots();
            case 1:
                return tapeLength;
            case 2:
                return outLength;
            default:
                return NONE;
        }
    }

    private void putBytes(int number) {
        for (int shift = 24; shift >= 0 && tapeLength < MOST_BYTES; shift -= 8) {
            tape[tapeLength] = number >>> shift & 255;
            tapeLength++;
        }
    }

    /** Every call that reads the tape empties it, whatever it answers; the bytes themselves lie there till the next feed. */
    private int takeTape() {
        int n = tapeLength;
        tapeLength = 0;
        return n;
    }

    private boolean areStates(int states, int n) {
        for (int i = 0; i < n && i < MOST_BYTES; i++) {
            if (tape[i] >= states) {
                return false;
            }
        }
        return true;
    }

    private boolean areFewStates(int states, int n) {
        return n >= 1 && n <= MOST_CELLS && areStates(states, n);
    }

    private boolean isEachOnce(int n) {
        int seen = 0;
        for (int i = 0; i < n && i < MOST_STATES; i++) {
            if (tape[i] < n) {
                seen |= 1 << tape[i];
            }
        }
        return seen == (1 << n) - 1;
    }

    private int placeOnTape(int state, int n) {
        int place = 0;
        for (int i = 0; i < n && i < tape.length; i++) {
            if (tape[i] == state) {
                place = i;
            }
        }
        return place;
    }

    private int fullSlots() {
        int full = 0;
        for (int s = 0; s < SLOTS; s++) {
            if (slots[s] != null) {
                full++;
            }
        }
        return full;
    }

    private Rule ruleIn(int s) {
        return isSlot(s) ? slots[s] : null;
    }

    /** Whether a rule of width w can tell cell d of each row from what the rule makes of it; if so, told is its table. */
    private boolean turnsBack(Rule rule, int w, int d) {
        int cells = rule.width + w - 1;
        int rows = power(rule.states, cells);
        if (d < 0 || d >= cells || cells > here.length) {
            return false;
        }
        Arrays.fill(told, NONE);
        for (int code = 0; code < rows; code++) {
            rule.spread(code, cells, here);
            int word = (int) rule.grow(here, cells, w, there);
            if (word < 0 || word >= told.length) {
                return false;
            }
            if (told[word] == NONE) {
                told[word] = here[d];
            }
            if (told[word] != here[d]) {
                return false;
            }
        }
        return true;
    }

    private static boolean isSlot(int s) {
        return s >= 0 && s < SLOTS;
    }

    private static int mostWidth(int states) {
        return states >= 0 && states < MOST_WIDTH.length ? MOST_WIDTH[states] : 0;
    }

    private static int power(int base, int exponent) {
        int product = 1;
        for (int i = 0; i < exponent; i++) {
            product *= base;
        }
        return product;
    }

    private static int ringsOf(int states, int n) {
        if (n < 1) {
            return NONE;
        }
        int rings = 1;
        for (int i = 0; i < n && rings <= MOST_RINGS; i++) {
            rings *= states;
        }
        return rings <= MOST_RINGS ? rings : NONE;
    }

    /**
     * A rule, never changed, so that slots may share it. Its nodes are the words of one cell fewer:
     * a word leads from the node of its first cells to that of its last ones.
     */
    private static final class Rule {
        private final int states;
        private final int width;
        private final int words;
        private final int nodes;
        private final int[] told;

        /** States and nodes are divisors all over the class, so none is ever 0. */
        Rule(int states, int width, int[] told) {
            this.states = Math.max(2, states);
            this.width = width;
            this.nodes = Math.max(1, power(this.states, width - 1));
            this.words = nodes * this.states;
            this.told = Arrays.copyOf(told, words);
        }

        int tells(int word) {
            return word >= 0 && word < told.length ? told[word] : 0;
        }

        /**
         * The first count cells that come of n cells, behind the last of which comes the first again;
         * they are answered too as a number to the base of the states.
         */
        long grow(int[] from, int n, int count, int[] to) {
            if (n < 1 || n > from.length || count > to.length) {
                return 0;
            }
            int word = 0;
            int at = 0;
            for (int i = 1; i < width; i++) {
                word = word * states + from[at];
                at = at + 1 < n ? at + 1 : 0;
            }
            long code = 0;
            for (int i = 0; i < count; i++) {
                word = word % nodes * states + from[at];
                at = at + 1 < n ? at + 1 : 0;
                int cell = tells(word);
                to[i] = cell;
                code = code * states + cell;
            }
            return code;
        }

        void spread(int code, int n, int[] cells) {
            int rest = code;
            for (int i = Math.min(n, cells.length) - 1; i >= 0; i--) {
                cells[i] = rest % states;
                rest /= states;
            }
        }

        int backward(int word) {
            int rest = word;
            int turned = 0;
            for (int i = 0; i < width; i++) {
                turned = turned * states + rest % states;
                rest /= states;
            }
            return turned;
        }

        int translated(int word, int[] names) {
            int rest = word;
            int place = 1;
            int named = 0;
            for (int i = 0; i < width; i++) {
                int cell = rest % states;
                named += cell >= 0 && cell < names.length ? names[cell] * place : 0;
                place *= states;
                rest /= states;
            }
            return named;
        }

        boolean idlesAhead() {
            if (width < 2) {
                return false;
            }
            for (int word = nodes; word < words; word++) {
                if (tells(word) != tells(word % nodes)) {
                    return false;
                }
            }
            return true;
        }

        boolean idlesBehind() {
            if (width < 2) {
                return false;
            }
            for (int word = 0; word < words; word++) {
                if (tells(word) != tells(word - word % states)) {
                    return false;
                }
            }
            return true;
        }

        Rule withoutAhead() {
            return new Rule(states, width - 1, told);
        }

        Rule withoutBehind() {
            int[] left = new int[nodes];
            for (int node = 0; node < nodes; node++) {
                left[node] = tells(node * states);
            }
            return new Rule(states, width - 1, left);
        }

        /**
         * Rings are the closed walks over the nodes, so the sums stay if and only if what the words add
         * is the difference of a level of their nodes; the level is taken along the walk from node 0.
         */
        boolean holds(int[] weights) {
            for (int word = 0; word < words; word++) {
                int from = level(word / states, weights);
                int to = level(word % nodes, weights);
                if (from + gain(word, weights) != to) {
                    return false;
                }
            }
            return true;
        }

        private int level(int node, int[] weights) {
            int sum = 0;
            int at = 0;
            int place = nodes;
            for (int i = 1; i < width; i++) {
                place = Math.max(1, place / states);
                int word = at * states + node / place % states;
                sum += gain(word, weights);
                at = word % nodes;
            }
            return sum;
        }

        private int gain(int word, int[] weights) {
            int grown = tells(word);
            int first = word / nodes;
            if (grown < 0 || grown >= weights.length || first < 0 || first >= weights.length) {
                return 0;
            }
            return weights[grown] - weights[first];
        }
    }

    /** Counts the walks over a rule's nodes whose words tell given cells. */
    private static final class Walks {
        private static final int ANYWHERE = -1;

        private final long[] ways;
        private Rule rule;
        private int start;

        Walks() {
            ways = new long[(MOST_CELLS + 1) * MOST_NODES];
        }

        long rowsBehind(Rule asked, int[] cells, int n) {
            rule = asked;
            weigh(cells, n, ANYWHERE);
            long rows = 0;
            start = NONE;
            for (int node = 0; node < rule.nodes; node++) {
                long from = waysFrom(0, node);
                rows += from;
                start = start == NONE && from > 0 ? node : start;
            }
            return rows;
        }

        /** A ring of any length, be it shorter than the rule's width, is a walk that ends where it starts. */
        long closedBehind(Rule asked, int[] cells, int n) {
            rule = asked;
            long rings = 0;
            start = NONE;
            for (int node = 0; node < rule.nodes; node++) {
                weigh(cells, n, node);
                long from = waysFrom(0, node);
                rings += from;
                start = start == NONE && from > 0 ? node : start;
            }
            if (start != NONE) {
                weigh(cells, n, start);
            }
            return rings;
        }

        int writeFirst(int[] cells, int n, int[] out) {
            int ahead = rule.width - 1;
            if (start == NONE || n > cells.length || ahead + n > out.length) {
                return 0;
            }
            rule.spread(start, ahead, out);
            int node = start;
            for (int i = 0; i < n; i++) {
                int cell = firstCell(i, node, cells[i]);
                out[ahead + i] = cell;
                node = (node * rule.states + cell) % rule.nodes;
            }
            return ahead + n;
        }

        private int firstCell(int i, int node, int wanted) {
            for (int cell = 0; cell < rule.states; cell++) {
                int word = node * rule.states + cell;
                if (rule.tells(word) == wanted && waysFrom(i + 1, word % rule.nodes) > 0) {
                    return cell;
                }
            }
            return 0;
        }

        /** Goes from the last cell to the first, so that a walk can be chosen from its start without a dead end. */
        private void weigh(int[] cells, int n, int goal) {
            for (int node = 0; node < rule.nodes; node++) {
                putWays(n, node, goal == ANYWHERE || goal == node ? 1 : 0);
            }
            for (int i = Math.min(n, cells.length) - 1; i >= 0; i--) {
                for (int node = 0; node < rule.nodes; node++) {
                    putWays(i, node, waysOver(i, node, cells[i]));
                }
            }
        }

        private long waysOver(int i, int node, int wanted) {
            long sum = 0;
            for (int cell = 0; cell < rule.states; cell++) {
                int word = node * rule.states + cell;
                if (rule.tells(word) == wanted) {
                    sum += waysFrom(i + 1, word % rule.nodes);
                }
            }
            return sum;
        }

        private long waysFrom(int i, int node) {
            int place = i * MOST_NODES + node;
            return place >= 0 && place < ways.length ? ways[place] : 0;
        }

        private void putWays(int i, int node, long number) {
            int place = i * MOST_NODES + node;
            if (place >= 0 && place < ways.length) {
                ways[place] = number;
            }
        }
    }

    /** Searches the sets of nodes at which a row behind may end: a missed row leads to the empty set. */
    private static final class Sets {
        private final int[] queue;
        private final int[] cameFrom;
        private final int[] cameBy;
        private final int[] reached;
        private int whole;

        Sets() {
            queue = new int[SETS];
            cameFrom = new int[SETS];
            cameBy = new int[SETS];
            reached = new int[MOST_WORDS];
        }

        /** Sets are met in the order of their shortest, then first rows, so the empty one is met by the first missed row. */
        boolean missesSome(Rule rule) {
            learn(rule);
            whole = (1 << rule.nodes) - 1 & SETS - 1;
            Arrays.fill(cameFrom, NONE);
            queue[0] = whole;
            cameFrom[whole] = whole;
            int tail = 1;
            for (int head = 0; head < tail && head < SETS; head++) {
                for (int cell = 0; cell < rule.states; cell++) {
                    int next = follow(rule, queue[head], cell);
                    if (next >= 0 && next < SETS && tail < SETS && cameFrom[next] == NONE) {
                        cameFrom[next] = queue[head];
                        cameBy[next] = cell;
                        queue[tail] = next;
                        tail++;
                    }
                }
                if (cameFrom[0] != NONE) {
                    return true;
                }
            }
            return false;
        }

        int writeMissed(int[] row) {
            int cells = 0;
            for (int set = 0; set != whole && cells < SETS; set = before(set)) {
                cells++;
            }
            int set = 0;
            for (int i = Math.min(cells, row.length) - 1; i >= 0; i--) {
                row[i] = cameBy[set];
                set = before(set);
            }
            return cells;
        }

        private int before(int set) {
            return cameFrom[set] >= 0 && cameFrom[set] < SETS ? cameFrom[set] : whole;
        }

        private void learn(Rule rule) {
            Arrays.fill(reached, 0);
            for (int word = 0; word < rule.words; word++) {
                int place = word / rule.states * rule.states + rule.tells(word);
                if (place >= 0 && place < reached.length) {
                    reached[place] |= 1 << word % rule.nodes;
                }
            }
        }

        private int follow(Rule rule, int set, int cell) {
            int next = 0;
            for (int node = 0; node < rule.nodes; node++) {
                int place = node * rule.states + cell;
                if ((set >> node & 1) == 1 && place < reached.length) {
                    next |= reached[place];
                }
            }
            return next;
        }
    }

    /** Pairs of words that stand at the same place of two endless rows leading to the same one. */
    private static final class Pairs {
        private final boolean[] alive;

        Pairs() {
            alive = new boolean[MOST_WORDS * MOST_WORDS];
        }

        boolean losesNothing(Rule rule) {
            begin(rule);
            boolean changed = true;
            for (int pass = 0; pass <= alive.length && changed; pass++) {
                changed = prune(rule);
            }
            for (int one = 0; one < rule.words; one++) {
                for (int two = 0; two < one; two++) {
                    if (lives(one, two)) {
                        return false;
                    }
                }
            }
            return true;
        }

        private void begin(Rule rule) {
            for (int one = 0; one < rule.words; one++) {
                for (int two = 0; two < rule.words; two++) {
                    setLife(one, two, rule.tells(one) == rule.tells(two));
                }
            }
        }

        /** A pair from which no pair goes on, either way, stands in no rows without ends. */
        private boolean prune(Rule rule) {
            boolean changed = false;
            for (int one = 0; one < rule.words; one++) {
                for (int two = 0; two < rule.words; two++) {
                    if (lives(one, two) && !(goesOn(rule, one, two) && comesFrom(rule, one, two))) {
                        setLife(one, two, false);
                        changed = true;
                    }
                }
            }
            return changed;
        }

        private boolean goesOn(Rule rule, int one, int two) {
            int first = one % rule.nodes * rule.states;
            int second = two % rule.nodes * rule.states;
            for (int a = 0; a < rule.states; a++) {
                for (int b = 0; b < rule.states; b++) {
                    if (lives(first + a, second + b)) {
                        return true;
                    }
                }
            }
            return false;
        }

        private boolean comesFrom(Rule rule, int one, int two) {
            int first = one / rule.states;
            int second = two / rule.states;
            for (int a = 0; a < rule.states; a++) {
                for (int b = 0; b < rule.states; b++) {
                    if (lives(first + a * rule.nodes, second + b * rule.nodes)) {
                        return true;
                    }
                }
            }
            return false;
        }

        private boolean lives(int one, int two) {
            int place = one * MOST_WORDS + two;
            return place >= 0 && place < alive.length && alive[place];
        }

        private void setLife(int one, int two, boolean life) {
            int place = one * MOST_WORDS + two;
            if (place >= 0 && place < alive.length) {
                alive[place] = life;
            }
        }
    }

    /** The rings to which one ring comes, each as a number. */
    private static final class Trail {
        /** Most rings are soon on their round, so the trail is looked at while it is short. */
        private static final int[] LOOKS = {32, 256, 2048, MOST_TRAIL};

        private final long[] codes;
        private int[] here;
        private int[] there;
        private int roundLength;

        Trail() {
            codes = new long[MOST_TRAIL + 1];
            here = new int[MOST_CELLS];
            there = new int[MOST_CELLS];
        }

        int climb(Rule rule, int[] cells, int n) {
            if (n < 1 || n > cells.length || n > here.length) {
                return NONE;
            }
            begin(rule, cells, n);
            int last = 0;
            for (int look : LOOKS) {
                for (int i = last + 1; i <= look && i < codes.length; i++) {
                    codes[i] = rule.grow(here, n, n, there);
                    int[] grown = there;
                    there = here;
                    here = grown;
                }
                last = look;
                int length = lengthAt(last);
                if (length > 0) {
                    roundLength = length;
                    return heightBefore(last, length);
                }
            }
            return NONE;
        }

        private void begin(Rule rule, int[] cells, int n) {
            long code = 0;
            for (int i = 0; i < n; i++) {
                here[i] = cells[i];
                code = code * rule.states + cells[i];
            }
            codes[0] = code;
        }

        /** A ring that stands on the trail twice is on its round, and the nearest one like it is once round behind. */
        private int lengthAt(int last) {
            if (last >= codes.length) {
                return 0;
            }
            for (int i = last - 1; i >= 0; i--) {
                if (codes[i] == codes[last]) {
                    return last - i;
                }
            }
            return 0;
        }

        private int heightBefore(int last, int length) {
            for (int i = 0; i + length <= last; i++) {
                if (codes[i] == codes[i + length]) {
                    return i;
                }
            }
            return NONE;
        }
    }

    /** All rings of a length, each as a number, and what they lead to. */
    private static final class Survey {
        private final int[] next;
        private final int[] behind;
        private final int[] queue;
        private final int[] heights;
        private final int[] cells;
        private final int[] grown;
        private Rule rule;
        private int n;
        private int leaves;
        private int onRounds;
        private int rounds;
        private int greatestHeight;
        private int greatestLength;

        Survey() {
            next = new int[MOST_RINGS];
            behind = new int[MOST_RINGS];
            queue = new int[MOST_RINGS];
            heights = new int[MOST_RINGS];
            cells = new int[MOST_CELLS];
            grown = new int[MOST_CELLS];
        }

        int tell(int what) {
            switch (what) {
                case 0:
                    return leaves;
                case 1:
                    return onRounds;
                case 2:
                    return rounds;
                case 3:
                    return greatestHeight;
                case 4:
                    return greatestLength;
                default:
                    return NONE;
            }
        }

        /** What was looked at last is kept: the same rings are often asked for one number after another. */
        void look(Rule asked, int length, int rings) {
            if (asked == rule && length == n || rings > MOST_RINGS) {
                return;
            }
            rule = asked;
            n = length;
            lead(rings);
            int peeled = peel(rings);
            onRounds = rings - peeled;
            goRound(rings);
            climb(peeled);
        }

        private void lead(int rings) {
            Arrays.fill(behind, 0);
            for (int ring = 0; ring < rings; ring++) {
                rule.spread(ring, n, cells);
                int to = (int) rule.grow(cells, n, n, grown);
                next[ring] = to >= 0 && to < rings ? to : 0;
                behind[next[ring]]++;
            }
        }

        /** Takes away ring by ring that has none behind it left: the rings on rounds stay. */
        private int peel(int rings) {
            int tail = 0;
            for (int ring = 0; ring < rings; ring++) {
                if (behind[ring] == 0) {
                    queue[tail] = ring;
                    tail++;
                }
            }
            leaves = tail;
            for (int head = 0; head < tail && head < rings; head++) {
                int to = next[queue[head]];
                behind[to]--;
                if (behind[to] == 0 && tail < rings) {
                    queue[tail] = to;
                    tail++;
                }
            }
            return tail;
        }

        private void goRound(int rings) {
            rounds = 0;
            greatestLength = 0;
            for (int ring = 0; ring < rings; ring++) {
                int length = 0;
                int at = ring;
                for (int step = 0; step < rings && behind[at] > 0; step++) {
                    behind[at] = 0;
                    heights[at] = 0;
                    at = next[at];
                    length++;
                }
                if (length > 0) {
                    rounds++;
                    greatestLength = Math.max(greatestLength, length);
                }
            }
        }

        /** What a ring leads to was taken away behind it, so backward each height is known when it is asked for. */
        private void climb(int peeled) {
            greatestHeight = 0;
            for (int i = peeled - 1; i >= 0; i--) {
                int ring = queue[i];
                heights[ring] = heights[next[ring]] + 1;
                greatestHeight = Math.max(greatestHeight, heights[ring]);
            }
        }
    }
}
