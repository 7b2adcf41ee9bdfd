import java.util.Arrays;

/**
 * Graphs that grow: an edge with an open letter is replaced by a small graph between its two ends.
 * The promises that this class keeps stand in DOC.md; README.md tells how to use it.
 */
public final class GrownGraphs {
    public static final int NONE = -1, UNKNOWN = -1001, OUTSIDE = -1002, STATE = -1003, FULL = -1004;

    /** Letters are numbers: 0 to 2 the open ones, then "a", then "b". */
    private static final int OPENS = 3;
    private static final int DONE_A = 3;
    private static final int DONE_B = 4;
    /** A rule has three slots for edges; one that is not used bears this letter, so that all rules are worked alike. */
    private static final int MISSING = 5;
    private static final int LETTERS = 6;
    private static final int SLOTS = 3;

    /** A class is two bits for the ways there and back, and above them two for the colours. */
    private static final int KINDS = 16;
    private static final int KIND_OF_A = 9;
    private static final int KIND_OF_B = 15;
    private static final int KIND_OF_MISSING = 12;

    private static final int MOST_CODES = 16;
    private static final int MOST_RULES = 9;
    private static final int MOST_EDGES = 12;
    private static final int MOST_NODES = 9;
    private static final int TOLD_EDGES = 5;
    private static final int TOLD_NODES = 5;
    private static final int RULE_NODES = 4;
    private static final int COUNTS = 8;

    /** Stands for "no steps lead there"; three of them and one more still fit an int. */
    private static final int FAR = 1 << 29;

    private final Page page = new Page();
    private final RuleBook book = new RuleBook();
    private final Figure figure = new Figure(MOST_EDGES);
    private final Origins origins = new Origins();
    private final Lights lights = new Lights();
    private boolean originsStand = false;
    private boolean lightsStand = false;
    private int stepsSinceBegin = 0;
    private int stepsEver = 0;
    private int graphsEver = 0;

    public GrownGraphs() {
    }

    public int letter(int code) {
        if (code < 32 || code > 126) {
            return OUTSIDE;
        }
        if (page.size >= MOST_CODES) {
            return FULL;
        }
        page.write(code);
        return page.size;
    }

    public int blank() {
        int had = page.size;
        page.clear();
        return had;
    }

    public int fault(boolean graph) {
        return page.firstFault(graph);
    }

    public int rule() {
        if (!page.isRule()) {
            return STATE;
        }
        if (book.size >= MOST_RULES) {
            return FULL;
        }
        book.add(page);
        page.clear();
        originsStand = false;
        lightsStand = false;
        return book.size - 1;
    }

    public int drop(int rule) {
        if (!book.has(rule)) {
            return UNKNOWN;
        }
        book.remove(rule);
        originsStand = false;
        lightsStand = false;
        return book.size;
    }

    public int graph() {
        if (!page.isGraph()) {
            return STATE;
        }
        page.copyGraph(figure);
        page.clear();
        noteNewGraph();
        return figure.size;
    }

    public int of(int rule, int what) {
        if (!book.has(rule)) {
            return UNKNOWN;
        }
        Rule asked = book.rules[rule];
        if (what == 0) {
            return asked.open;
        }
        if (what == 1) {
            return asked.body.size;
        }
        if (what == 2) {
            return asked.body.nodes;
        }
        if (what < 10 || what >= 10 + SLOTS) {
            return OUTSIDE;
        }
        return asked.body.has(what - 10) ? asked.body.told(what - 10) : NONE;
    }

    public int begin(int open) {
        if (!isOpen(open)) {
            return UNKNOWN;
        }
        figure.clear(2);
        figure.append(open, 0, 1);
        noteNewGraph();
        return figure.size;
    }

    public int step(int place, int rule) {
        if (!figure.has(place) || !book.has(rule)) {
            return UNKNOWN;
        }
        Rule taken = book.rules[rule];
        if (figure.letters[place] != taken.open) {
            return STATE;
        }
        if (figure.size + taken.body.size - 1 > MOST_EDGES || figure.nodes + taken.body.nodes - 2 > MOST_NODES) {
            return FULL;
        }
        figure.replace(place, taken.body);
        originsStand = false;
        stepsSinceBegin++;
        stepsEver++;
        return figure.size;
    }

    public int edge(int place) {
        return figure.has(place) ? figure.told(place) : UNKNOWN;
    }

    public int kind() {
        return figure.isDone() ? figure.ownKind() : STATE;
    }

    public int fewest(int open) {
        if (!isOpen(open)) {
            return UNKNOWN;
        }
        if (!figure.isDone() || figure.size > TOLD_EDGES || figure.nodes > TOLD_NODES) {
            return STATE;
        }
        if (!originsStand) {
            origins.find(figure, book);
            originsStand = true;
        }
        int steps = origins.ofWhole(figure, open);
        return steps < FAR ? steps : NONE;
    }

    public int kinds(int open) {
        if (!isOpen(open)) {
            return UNKNOWN;
        }
        bringLights();
        int bits = 0;
        for (int kind = 0; kind < KINDS; kind++) {
            if (lights.reaches(open, kind)) {
                bits |= 1 << kind;
            }
        }
        return bits;
    }

    public int light(int open, int kind, int what) {
        if (!isOpen(open)) {
            return UNKNOWN;
        }
        if (kind < 0 || kind >= KINDS || what < 0 || what > 1) {
            return OUTSIDE;
        }
        bringLights();
        return what == 0 ? lights.stepsTo(open, kind) : lights.firstTo(open, kind);
    }

    public int count(int what) {
        switch (what) {
            case 0: return page.size;
            case 1: return book.size;
            case 2: return figure.size;
            case 3: return figure.nodes;
            case 4: return figure.openEdges();
            case 5: return stepsSinceBegin;
            case 6: return stepsEver;
            case 7: return graphsEver;
            default: return OUTSIDE;
        }
    }

    public long digest() {
        long h = 1709;
        for (int rule = 0; rule < book.size; rule++) {
            for (int what = 0; what <= 2; what++) {
                h = mix(h, of(rule, what));
            }
            for (int what = 10; what < 10 + SLOTS; what++) {
                h = mix(h, of(rule, what));
            }
        }
        for (int place = 0; place < figure.size; place++) {
            h = mix(h, edge(place));
        }
        h = mix(h, kind());
        for (int open = 0; open < OPENS; open++) {
            h = mix(mix(h, fewest(open)), kinds(open));
            for (int kind = 0; kind < KINDS; kind++) {
                h = mix(mix(h, light(open, kind, 0)), light(open, kind, 1));
            }
        }
        for (int i = 0; i < page.size; i++) {
            h = mix(h, page.codes[i]);
        }
        for (int what = 0; what < COUNTS; what++) {
            h = mix(h, count(what));
        }
        return h;
    }

    private static long mix(long h, int number) {
        return 31 * h + number;
    }

    private static boolean isOpen(int letter) {
        return letter >= 0 && letter < OPENS;
    }

    private void noteNewGraph() {
        originsStand = false;
        stepsSinceBegin = 0;
        graphsEver++;
    }

    private void bringLights() {
        if (!lightsStand) {
            lights.find(book);
            lightsStand = true;
        }
    }

    /** THE PAGE, and what its letters are when they are read as a rule or as a graph. */
    private static final class Page {
        /** A rule has its open letter and "=" ahead of its edges, a graph has nothing. */
        private static final int RULE_HEAD = 2;
        private static final int CODES_PER_EDGE = 3;

        final int[] codes = new int[MOST_CODES];
        int size = 0;

        void clear() {
            size = 0;
        }

        void write(int code) {
            if (size < codes.length) {
                codes[size] = code;
                size++;
            }
        }

        int firstFault(boolean asGraph) {
            int head = asGraph ? 0 : RULE_HEAD;
            int most = head + CODES_PER_EDGE * (asGraph ? TOLD_EDGES : SLOTS);
            for (int i = 0; i < size; i++) {
                boolean right = i < head ? fitsHead(i) : fitsEdge(i, (i - head) % CODES_PER_EDGE, asGraph);
                if (i >= most || !right) {
                    return i;
                }
            }
            return size;
        }

        private boolean fitsHead(int i) {
            return i == 0 ? isOpen(letterOf(codes[i])) : codes[i] == '=';
        }

        private boolean fitsEdge(int i, int part, boolean asGraph) {
            if (part == 0) {
                int letter = letterOf(codes[i]);
                return asGraph ? letter >= OPENS : letter >= 0;
            }
            int mostDigit = asGraph ? '4' : '3';
            boolean digit = codes[i] >= '0' && codes[i] <= mostDigit;
            return digit && (part == 1 || codes[i] != codes[i - 1]);
        }

        private static int letterOf(int code) {
            if (code >= 'A' && code <= 'C') {
                return code - 'A';
            }
            return code == 'a' ? DONE_A : code == 'b' ? DONE_B : NONE;
        }

        boolean isRule() {
            return isWhole(RULE_HEAD) && firstFault(false) == size && names(0) && names(1) && namesNoGap();
        }

        boolean isGraph() {
            return isWhole(0) && firstFault(true) == size && namesNoGap();
        }

        private boolean isWhole(int head) {
            return size > head && (size - head) % CODES_PER_EDGE == 0;
        }

        /** No other letter of a rule or graph is a digit, so looking for the digit is enough. */
        private boolean names(int node) {
            for (int i = 0; i < size; i++) {
                if (codes[i] == '0' + node) {
                    return true;
                }
            }
            return false;
        }

        private boolean namesNoGap() {
            for (int node = 3; node < TOLD_NODES; node++) {
                if (names(node) && !names(node - 1)) {
                    return false;
                }
            }
            return true;
        }

        int openLetter() {
            return Math.max(0, letterOf(codes[0]));
        }

        void copyRule(Figure body) {
            copyEdges(body, RULE_HEAD);
        }

        void copyGraph(Figure figure) {
            copyEdges(figure, 0);
        }

        private void copyEdges(Figure figure, int head) {
            int nodes = 2;
            for (int node = 2; node < TOLD_NODES; node++) {
                nodes += names(node) ? 1 : 0;
            }
            figure.clear(nodes);
            for (int i = head; i + 2 < size; i += CODES_PER_EDGE) {
                figure.append(letterOf(codes[i]), codes[i + 1] - '0', codes[i + 2] - '0');
            }
        }
    }

    /** Edges between nodes; nodes 0 and 1 are the ends. Without edges it stands for no graph. */
    private static final class Figure {
        final int[] letters;
        final int[] from;
        final int[] to;
        int size = 0;
        int nodes = 0;

        Figure(int mostEdges) {
            letters = new int[mostEdges];
            from = new int[mostEdges];
            to = new int[mostEdges];
        }

        void clear(int nodesNow) {
            size = 0;
            nodes = nodesNow;
        }

        boolean has(int place) {
            return place >= 0 && place < size;
        }

        void append(int letter, int source, int target) {
            if (size < letters.length) {
                put(size, letter, source, target);
                size++;
            }
        }

        private void put(int place, int letter, int source, int target) {
            letters[place] = letter;
            from[place] = source;
            to[place] = target;
        }

        int told(int place) {
            return 100 * letters[place] + 10 * from[place] + to[place];
        }

        int openEdges() {
            int open = 0;
            for (int i = 0; i < size; i++) {
                open += isOpen(letters[i]) ? 1 : 0;
            }
            return open;
        }

        boolean isDone() {
            return size > 0 && openEdges() == 0;
        }

        void replace(int place, Figure body) {
            int more = body.size - 1;
            if (!has(place) || size + more > letters.length) {
                return;
            }
            int source = from[place];
            int target = to[place];
            for (int i = size - 1; i > place; i--) {
                put(i + more, letters[i], from[i], to[i]);
            }
            for (int i = 0; i < body.size; i++) {
                put(place + i, body.letters[i], nodeFor(body.from[i], source, target), nodeFor(body.to[i], source, target));
            }
            size += more;
            nodes += body.nodes - 2;
        }

        private int nodeFor(int bodyNode, int source, int target) {
            if (bodyNode == 0) {
                return source;
            }
            return bodyNode == 1 ? target : nodes + bodyNode - 2;
        }

        /** Whether an edge between these two nodes may have grown to just this set of edges. */
        boolean isPart(int set, int source, int target) {
            int pair = 1 << source | 1 << target;
            int inside = nodesOf(set);
            // A new node has no edges but those of its step; and 0 and 1 are never new.
            int notNew = nodesOf(~set) | 3;
            return source != target && (inside & pair) == pair && (inside & notNew & ~pair) == 0;
        }

        private int nodesOf(int set) {
            int found = 0;
            for (int i = 0; i < size; i++) {
                if ((set >> i & 1) != 0) {
                    found |= 1 << from[i] | 1 << to[i];
                }
            }
            return found;
        }

        /** Whether the set is this one edge. */
        boolean isEdge(int set, int letter, int source, int target) {
            for (int i = 0; i < size; i++) {
                if (set == 1 << i) {
                    return letters[i] == letter && from[i] == source && to[i] == target;
                }
            }
            return false;
        }

        int ownKind() {
            int ways = 0;
            int hues = 0;
            for (int i = 0; i < size; i++) {
                int kind = letters[i] == DONE_A ? KIND_OF_A : KIND_OF_B;
                ways |= (kind & 3) << 2 * i;
                hues |= (kind >> 2) << 2 * i;
            }
            return waysOf(ways) | huesOf(hues) << 2;
        }

        /** bits has two for each edge, whether one comes there and back along it; so has the answer for the ends. */
        int waysOf(int bits) {
            return (comes(0, 1, bits) ? 1 : 0) | (comes(1, 0, bits) ? 2 : 0);
        }

        private boolean comes(int start, int goal, int bits) {
            int seen = 1 << start;
            for (int round = 1; round < nodes; round++) {
                for (int i = 0; i < size; i++) {
                    int way = bits >> 2 * i;
                    if ((way & 1) != 0 && (seen >> from[i] & 1) != 0) {
                        seen |= 1 << to[i];
                    }
                    if ((way & 2) != 0 && (seen >> to[i] & 1) != 0) {
                        seen |= 1 << from[i];
                    }
                }
            }
            return (seen >> goal & 1) != 0;
        }

        /** bits has two for each edge, whether its nodes may have the same colour, unlike ones; so has the answer for the ends. */
        int huesOf(int bits) {
            int found = 0;
            // Turning all colours round changes nothing, so node 0 keeps colour 0.
            for (int colours = 0; colours < 1 << nodes; colours += 2) {
                if (allows(colours, bits)) {
                    found |= (colours & 2) == 0 ? 1 : 2;
                }
            }
            return found;
        }

        private boolean allows(int colours, int bits) {
            for (int i = 0; i < size; i++) {
                int unlike = (colours >> from[i] ^ colours >> to[i]) & 1;
                if ((bits >> 2 * i + unlike & 1) == 0) {
                    return false;
                }
            }
            return true;
        }
    }

    /** A rule, and which class its body has for each choice of classes for its edges. */
    private static final class Rule {
        private static final int CHOICES = 64;

        int open = 0;
        final Figure body = new Figure(SLOTS);
        /** The letters of its edges, MISSING behind them. */
        final int[] slots = new int[SLOTS];
        // Ways and colours do not touch one another, so two small tables do for one of 4096.
        private final int[] ways = new int[CHOICES];
        private final int[] hues = new int[CHOICES];

        void read(Page page) {
            open = page.openLetter();
            page.copyRule(body);
            for (int i = 0; i < SLOTS; i++) {
                slots[i] = body.has(i) ? body.letters[i] : MISSING;
            }
            for (int bits = 0; bits < CHOICES; bits++) {
                ways[bits] = body.waysOf(bits);
                hues[bits] = body.huesOf(bits);
            }
        }

        int kindFrom(int kind0, int kind1, int kind2) {
            int way = kind0 & 3 | (kind1 & 3) << 2 | (kind2 & 3) << 4;
            int hue = kind0 >> 2 & 3 | (kind1 >> 2 & 3) << 2 | (kind2 >> 2 & 3) << 4;
            return ways[way] | hues[hue] << 2;
        }
    }

    /** The rules by their numbers; rows of a dropped rule are kept for the next one. */
    private static final class RuleBook {
        final Rule[] rules = new Rule[MOST_RULES];
        int size = 0;

        RuleBook() {
            for (int i = 0; i < rules.length; i++) {
                rules[i] = new Rule();
            }
        }

        boolean has(int number) {
            return number >= 0 && number < size;
        }

        void add(Page page) {
            if (size < rules.length) {
                rules[size].read(page);
                size++;
            }
        }

        void remove(int number) {
            if (!has(number)) {
                return;
            }
            Rule gone = rules[number];
            for (int i = number; i + 1 < size; i++) {
                rules[i] = rules[i + 1];
            }
            size--;
            rules[size] = gone;
        }
    }

    /**
     * From which letters a done graph could have grown, and in how few steps: for each set of its edges and each
     * two nodes, how few steps lead from one edge with an open letter between these nodes to just these edges.
     */
    private static final class Origins {
        private static final int SETS = 1 << TOLD_EDGES;
        private static final int PAIRS = TOLD_NODES * TOLD_NODES;
        /** Three letters in two directions: a longer chain of rules with one edge comes back to where it was. */
        private static final int ROUNDS = 2 * OPENS;

        private final int[] steps = new int[OPENS * SETS * PAIRS];
        /** Which node of the graph each node of the rule at hand stands for. */
        private final int[] stand = new int[RULE_NODES];

        int ofWhole(Figure whole, int open) {
            return steps[at(open, (1 << whole.size) - 1, 0, 1)];
        }

        private static int at(int open, int set, int source, int target) {
            return ((open * SETS + set) * TOLD_NODES + source) * TOLD_NODES + target;
        }

        void find(Figure whole, RuleBook book) {
            Arrays.fill(steps, FAR);
            if (whole.size > TOLD_EDGES || whole.nodes > TOLD_NODES) {
                return;
            }
            // A part of a set is a smaller number than the set, so it is known before it is asked for.
            for (int set = 1; set < 1 << whole.size; set++) {
                boolean better = improve(whole, set, book, false);
                for (int round = 1; better && round < ROUNDS; round++) {
                    better = improve(whole, set, book, true);
                }
            }
        }

        /** Only a rule with one edge asks for the same set again: more rounds are for these alone. */
        private boolean improve(Figure whole, int set, RuleBook book, boolean singlesOnly) {
            int most = singlesOnly ? 1 : Integer.bitCount(set);
            boolean better = false;
            for (int source = 0; source < whole.nodes; source++) {
                for (int target = 0; target < whole.nodes; target++) {
                    if (!whole.isPart(set, source, target)) {
                        continue;
                    }
                    stand[0] = source;
                    stand[1] = target;
                    for (int i = 0; i < book.size; i++) {
                        Rule rule = book.rules[i];
                        if (rule.body.size <= most) {
                            better |= lower(at(rule.open, set, source, target), 1 + byRule(whole, set, rule));
                        }
                    }
                }
            }
            return better;
        }

        private boolean lower(int where, int found) {
            if (found >= steps[where]) {
                return false;
            }
            steps[where] = found;
            return true;
        }

        /** The ends of the rule have their nodes; its inner ones get theirs in every way. */
        private int byRule(Figure whole, int set, Rule rule) {
            int least = FAR;
            int nodes = rule.body.nodes;
            int thirds = nodes > 2 ? whole.nodes : 1;
            int fourths = nodes > 3 ? whole.nodes : 1;
            for (int third = 0; third < thirds; third++) {
                stand[2] = third;
                for (int fourth = 0; fourth < fourths; fourth++) {
                    stand[3] = fourth;
                    if (standsApart(nodes)) {
                        least = Math.min(least, bySplit(whole, set, rule));
                    }
                }
            }
            return least;
        }

        private boolean standsApart(int nodes) {
            boolean third = nodes < 3 || stand[2] != stand[0] && stand[2] != stand[1];
            boolean fourth = nodes < 4 || stand[3] != stand[0] && stand[3] != stand[1] && stand[3] != stand[2];
            return third && fourth;
        }

        /** The set is dealt out to the rule's three slots in every way. */
        private int bySplit(Figure whole, int set, Rule rule) {
            int least = FAR;
            for (int one = 1; one <= set; one++) {
                int first = (one & ~set) == 0 ? bySlot(whole, one, rule, 0) : FAR;
                if (first >= least) {
                    continue;
                }
                int rest = set & ~one;
                for (int two = 0; two <= rest; two++) {
                    if ((two & ~rest) == 0) {
                        int others = bySlot(whole, two, rule, 1) + bySlot(whole, rest & ~two, rule, 2);
                        least = Math.min(least, first + others);
                    }
                }
            }
            return least;
        }

        private int bySlot(Figure whole, int part, Rule rule, int slot) {
            int letter = rule.slots[slot];
            if (letter == MISSING || part == 0) {
                return letter == MISSING && part == 0 ? 0 : FAR;
            }
            int source = stand[rule.body.from[slot]];
            int target = stand[rule.body.to[slot]];
            if (isOpen(letter)) {
                return steps[at(letter, part, source, target)];
            }
            return whole.isEdge(part, letter, source, target) ? 0 : FAR;
        }
    }

    /** How few steps lead from a letter to some done graph of a class, and which rule can come first. */
    private static final class Lights {
        private static final int STATES = LETTERS * KINDS;
        /** Few rules can ask for very many steps; three of these and one more still fit a long. */
        private static final long NEVER = 1L << 61;

        /** A state is 16 times a letter, and a class. */
        private final long[] steps = new long[STATES];
        private final int[] firsts = new int[STATES];
        private final boolean[] settled = new boolean[STATES];
        /** The settled classes of each letter, as they came. */
        private final int[] settledKinds = new int[STATES];
        private final int[] settledCount = new int[LETTERS];

        boolean reaches(int letter, int kind) {
            return steps[letter * KINDS + kind] < NEVER;
        }

        int stepsTo(int letter, int kind) {
            return reaches(letter, kind) ? (int) Math.min(steps[letter * KINDS + kind], Integer.MAX_VALUE) : NONE;
        }

        int firstTo(int letter, int kind) {
            return firsts[letter * KINDS + kind];
        }

        /** States settle from the least steps up: what is built of settled ones always takes more steps than they. */
        void find(RuleBook book) {
            forget();
            offer(DONE_A, KIND_OF_A, 0, NONE);
            offer(DONE_B, KIND_OF_B, 0, NONE);
            offer(MISSING, KIND_OF_MISSING, 0, NONE);
            for (int i = 0; i < STATES; i++) {
                int state = nearest();
                if (state == NONE) {
                    return;
                }
                settle(state / KINDS, state % KINDS);
                for (int number = 0; number < book.size; number++) {
                    spread(book.rules[number], number, state / KINDS, state % KINDS);
                }
            }
        }

        private void forget() {
            Arrays.fill(steps, NEVER);
            Arrays.fill(firsts, NONE);
            Arrays.fill(settledCount, 0);
            for (int i = 0; i < STATES; i++) {
                settled[i] = false;
            }
        }

        private void offer(int letter, int kind, long found, int first) {
            int state = letter * KINDS + kind;
            if (found < steps[state]) {
                steps[state] = found;
                firsts[state] = first;
            } else if (found == steps[state] && first < firsts[state]) {
                firsts[state] = first;
            }
        }

        private int nearest() {
            int best = NONE;
            long least = NEVER;
            for (int i = 0; i < STATES; i++) {
                if (!settled[i] && steps[i] < least) {
                    best = i;
                    least = steps[i];
                }
            }
            return best;
        }

        private void settle(int letter, int kind) {
            settled[letter * KINDS + kind] = true;
            settledKinds[letter * KINDS + settledCount[letter]] = kind;
            settledCount[letter]++;
        }

        private void spread(Rule rule, int number, int letter, int kind) {
            for (int slot = 0; slot < SLOTS; slot++) {
                if (rule.slots[slot] == letter) {
                    combine(rule, number, slot, kind);
                }
            }
        }

        /** One slot has the class that has just settled, the others each class that has. */
        private void combine(Rule rule, int number, int slot, int kind) {
            for (int i = 0; i < choices(rule, 0, slot); i++) {
                int kind0 = slot == 0 ? kind : settledKind(rule, 0, i);
                for (int j = 0; j < choices(rule, 1, slot); j++) {
                    int kind1 = slot == 1 ? kind : settledKind(rule, 1, j);
                    long two = 1 + stepsIn(rule, 0, kind0) + stepsIn(rule, 1, kind1);
                    for (int k = 0; k < choices(rule, 2, slot); k++) {
                        int kind2 = slot == 2 ? kind : settledKind(rule, 2, k);
                        offer(rule.open, rule.kindFrom(kind0, kind1, kind2), two + stepsIn(rule, 2, kind2), number);
                    }
                }
            }
        }

        private int choices(Rule rule, int slot, int given) {
            return slot == given ? 1 : settledCount[rule.slots[slot]];
        }

        private int settledKind(Rule rule, int slot, int i) {
            return settledKinds[rule.slots[slot] * KINDS + i];
        }

        private long stepsIn(Rule rule, int slot, int kind) {
            return steps[rule.slots[slot] * KINDS + kind];
        }
    }
}
