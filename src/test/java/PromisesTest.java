/** Each promise of the document: ordinary inputs, the edges that it names, and wrong inputs. */
public final class PromisesTest {
    private static final int NONE = -1, UNKNOWN = -1001, OUTSIDE = -1002, STATE = -1003, FULL = -1004;
    private static final int[] WILD = {-1, -2, Integer.MIN_VALUE, Integer.MAX_VALUE, 1000};
    private static final Checks c = new Checks();

    public static void main(String[] args) {
        newObject();
        letter();
        blank();
        faultOfRules();
        faultOfGraphs();
        rule();
        rulesAreNine();
        drop();
        graph();
        of();
        begin();
        step();
        stepsAreFull();
        edge();
        kind();
        kindOfGrown();
        fewest();
        fewestRefuses();
        kinds();
        light();
        lightOfFirsts();
        count();
        digest();
        refusalsChangeNothing();
        c.end("PromisesTest");
    }

    private static void newObject() {
        GrownGraphs x = new GrownGraphs();
        for (int what = 0; what < 8; what++) {
            c.due("new count(" + what + ")", x.count(what), 0);
        }
        c.due("new of(0, 0)", x.of(0, 0), UNKNOWN);
        c.due("new edge(0)", x.edge(0), UNKNOWN);
        c.due("new kind()", x.kind(), STATE);
        c.due("new drop(0)", x.drop(0), UNKNOWN);
        c.due("new fewest(0)", x.fewest(0), STATE);
        c.due("new fewest(3)", x.fewest(3), UNKNOWN);
        c.due("new step(0, 0)", x.step(0, 0), UNKNOWN);
        c.due("new light(2, 15, 0)", x.light(2, 15, 0), NONE);
        c.due("new light(2, 15, 1)", x.light(2, 15, 1), NONE);
        c.due("new kinds(2)", x.kinds(2), 0);
        GrownGraphs other = Checks.withRules("A=a01");
        c.due("objects are apart", x.count(1) + 10 * other.count(1), 10);
    }

    private static void letter() {
        GrownGraphs x = new GrownGraphs();
        for (int code : new int[] {31, 127, -1, 0, Integer.MIN_VALUE, Integer.MAX_VALUE, 256 + 65, 65536 + 65}) {
            c.due("letter(" + code + ")", x.letter(code), OUTSIDE);
        }
        c.due("letter(32)", x.letter(32), 1);
        c.due("letter(126)", x.letter(126), 2);
        for (int i = 3; i <= 16; i++) {
            c.due("letter " + i, x.letter(65), i);
        }
        c.due("letter 17", x.letter(65), FULL);
        c.due("letter 17, outside", x.letter(31), OUTSIDE);
        c.due("count(0)", x.count(0), 16);
    }

    private static void blank() {
        GrownGraphs x = new GrownGraphs();
        c.due("blank() of none", x.blank(), 0);
        x.letter(65);
        x.letter(61);
        c.due("blank() of two", x.blank(), 2);
        c.due("blank() again", x.blank(), 0);
        c.due("letter behind blank", x.letter(70), 1);
    }

    private static void fault(String text, boolean graph, int want) {
        GrownGraphs x = new GrownGraphs();
        Checks.write(x, text);
        c.due("fault(" + graph + ") of " + text, x.fault(graph), want);
        c.due("the page behind fault", x.count(0), text.length());
    }

    private static void faultOfRules() {
        fault("", false, 0);
        fault("A", false, 1);
        fault("C=", false, 2);
        fault("D=", false, 0);
        fault("a=", false, 0);
        fault("@=", false, 0);
        fault("AA", false, 1);
        fault("A=c", false, 2);
        fault("A=D", false, 2);
        fault("A==", false, 2);
        fault("B=C4", false, 3);
        fault("B=C/", false, 3);
        fault("B=C3", false, 4);
        fault("B=C33", false, 4);
        fault("B=C34", false, 4);
        fault("B=C32", false, 5);
        fault("B=C32,", false, 5);
        fault("B=C32a10b231", false, 11);
        fault("B=C32a10b23", false, 11);
        fault("B=C32a10b22", false, 10);
        fault("B=C32a10b23AAAAA", false, 11);
        fault("A=a02", false, 5);
        fault(" A=a01", false, 0);
    }

    private static void faultOfGraphs() {
        fault("", true, 0);
        fault("a", true, 1);
        fault("b4", true, 2);
        fault("b5", true, 1);
        fault("b44", true, 2);
        fault("b43", true, 3);
        fault("A01", true, 0);
        fault("A=a01", true, 0);
        fault("a01A", true, 3);
        fault("a01=", true, 3);
        fault("a01b10a02b34a43", true, 15);
        fault("a01b10a02b34a43a", true, 15);
        fault("a01b10a02b34a44a", true, 14);
        fault("c01", true, 0);
        fault("a34", true, 3);
    }

    private static void rule(String text, int want) {
        GrownGraphs x = new GrownGraphs();
        c.due("rule() of " + text, Checks.rule(x, text), want);
        c.due("rules behind " + text, x.count(1), want == 0 ? 1 : 0);
        c.due("the page behind rule() of " + text, x.count(0), want == 0 ? 0 : text.length());
    }

    private static void rule() {
        for (String text : new String[] {"A=a01", "B=b10", "C=C10", "A=a02B21", "A=a20B12C01", "A=a02a23b31", "A=a01a10a01",
                "C=A02B13A23", "A=a30a21A01"}) {
            rule(text, 0);
        }
        for (String text : new String[] {"", "A", "A=", "A=a", "A=a0", "A=a01a", "A=a01a1", "A=a02", "A=a12", "A=a23", "A=a02a20",
                "A=a03b31", "A=a01a03", "A=a01b13", "A=a01a01a01a01", "A=a01a01a01a", "A=a00", "A=a04a41", "a01", "D=a01", "A=c01",
                "A=a01 ", "A=a23a32a20", "A=a12a23a31"}) {
            rule(text, STATE);
        }
    }

    private static void rulesAreNine() {
        GrownGraphs x = new GrownGraphs();
        for (int i = 0; i < 9; i++) {
            c.due("rule " + i, Checks.rule(x, i % 2 == 0 ? "A=a01" : "B=b10"), i);
        }
        c.due("rule 9", Checks.rule(x, "C=a01"), FULL);
        c.due("page behind FULL", x.count(0), 5);
        c.due("rule 9 that is none", Checks.rule(x, "C=a0"), STATE);
        c.due("of(9, 0)", x.of(9, 0), UNKNOWN);
        c.due("drop(4)", x.drop(4), 8);
        c.due("rule 8 again", Checks.rule(x, "C=a01"), 8);
        c.due("of(8, 0)", x.of(8, 0), 2);
        c.due("of(4, 0)", x.of(4, 0), 1);
        c.due("of(7, 0)", x.of(7, 0), 0);
    }

    private static void drop() {
        GrownGraphs x = Checks.withRules("A=a01", "B=b02C21", "C=a10");
        for (int rule : WILD) {
            c.due("drop(" + rule + ")", x.drop(rule), UNKNOWN);
        }
        c.due("drop(3)", x.drop(3), UNKNOWN);
        c.due("kinds(1)", x.kinds(1), 1 << 14);
        c.due("drop(0)", x.drop(0), 2);
        c.due("of(0, 0)", x.of(0, 0), 1);
        c.due("of(0, 2)", x.of(0, 2), 3);
        c.due("of(1, 10)", x.of(1, 10), 310);
        c.due("light(1, 14, 1) by its new number", x.light(1, 14, 1), 0);
        c.due("kinds(0)", x.kinds(0), 0);
        c.due("drop(1)", x.drop(1), 1);
        c.due("kinds(1) without rule for C", x.kinds(1), 0);
        c.due("drop(0)", x.drop(0), 0);
        c.due("drop(0) of none", x.drop(0), UNKNOWN);
        c.due("rule()", Checks.rule(x, "A=b01"), 0);
        c.due("of(0, 10)", x.of(0, 10), 401);
        c.due("of(0, 11)", x.of(0, 11), NONE);
    }

    private static void graph(String text, int want, int nodes) {
        GrownGraphs x = new GrownGraphs();
        c.due("graph() of " + text, Checks.graph(x, text), want);
        boolean so = want > 0;
        c.due("edges behind graph() of " + text, x.count(2), so ? want : 0);
        c.due("nodes behind graph() of " + text, x.count(3), nodes);
        c.due("the page behind graph() of " + text, x.count(0), so ? 0 : text.length());
        c.due("graphs ever", x.count(7), so ? 1 : 0);
    }

    private static void graph() {
        graph("a01", 1, 2);
        graph("b10", 1, 2);
        graph("a02", 1, 3);
        graph("a23", 1, 4);
        graph("a23b34", 2, 5);
        graph("a42b30", 2, 5);
        graph("a01a01a01a01a01", 5, 2);
        graph("a02a23a34a41b10", 5, 5);
        for (String text : new String[] {"", "a", "a0", "a01b", "a03", "a04", "a34", "a24", "a24b01", "a03a04", "A01", "a00", "a05",
                "a01a01a01a01a01a", "A=a01", "a01A01"}) {
            graph(text, STATE, 0);
        }
        GrownGraphs x = new GrownGraphs();
        x.begin(0);
        c.due("a graph in place of another", Checks.graph(x, "a23b34"), 2);
        c.due("its nodes", x.count(3), 5);
        c.due("another graph", Checks.graph(x, "b10"), 1);
        c.due("its nodes", x.count(3), 2);
        c.due("edge(0)", x.edge(0), 410);
        c.due("edge(1)", x.edge(1), UNKNOWN);
        c.due("a graph that is none", Checks.graph(x, "a03"), STATE);
        c.due("edge(0) stays", x.edge(0), 410);
    }

    private static void of() {
        GrownGraphs x = Checks.withRules("C=A02b31B23", "A=b10");
        int[] wants = {2, 3, 4, 2, 431, 123};
        int[] whats = {0, 1, 2, 10, 11, 12};
        for (int i = 0; i < whats.length; i++) {
            c.due("of(0, " + whats[i] + ")", x.of(0, whats[i]), wants[i]);
        }
        c.due("of(1, 0)", x.of(1, 0), 0);
        c.due("of(1, 1)", x.of(1, 1), 1);
        c.due("of(1, 2)", x.of(1, 2), 2);
        c.due("of(1, 10)", x.of(1, 10), 410);
        c.due("of(1, 11)", x.of(1, 11), NONE);
        c.due("of(1, 12)", x.of(1, 12), NONE);
        for (int what : new int[] {3, 9, 13, -1, Integer.MIN_VALUE, Integer.MAX_VALUE}) {
            c.due("of(1, " + what + ")", x.of(1, what), OUTSIDE);
            c.due("of(2, " + what + ")", x.of(2, what), UNKNOWN);
        }
        for (int rule : WILD) {
            c.due("of(" + rule + ", 0)", x.of(rule, 0), UNKNOWN);
        }
    }

    private static void begin() {
        GrownGraphs x = new GrownGraphs();
        for (int open = 0; open < 3; open++) {
            c.due("begin(" + open + ")", x.begin(open), 1);
            c.due("edge(0)", x.edge(0), 100 * open + 1);
            c.due("count(2)", x.count(2), 1);
            c.due("count(3)", x.count(3), 2);
            c.due("count(4)", x.count(4), 1);
        }
        c.due("begin(3)", x.begin(3), UNKNOWN);
        for (int open : WILD) {
            c.due("begin(" + open + ")", x.begin(open), UNKNOWN);
        }
        c.due("edge(0) stays", x.edge(0), 201);
        c.due("count(7)", x.count(7), 3);
        Checks.graph(x, "a02a23");
        c.due("begin(1) in place of a graph", x.begin(1), 1);
        c.due("count(3)", x.count(3), 2);
    }

    private static void step() {
        GrownGraphs x = Checks.withRules("A=B20a03C31", "B=A10", "C=a01b10", "B=a02a12C23");
        c.due("step(0, 0) without a graph", x.step(0, 0), UNKNOWN);
        x.begin(0);
        c.due("step(0, 0)", x.step(0, 0), 3);
        dueEdges(x, 120, 303, 231);
        c.due("step(2, 2) at the end", x.step(2, 2), 4);
        dueEdges(x, 120, 303, 331, 413);
        c.due("step(0, 3) ahead", x.step(0, 3), 6);
        dueEdges(x, 324, 304, 245, 303, 331, 413);
        c.due("step(2, 2) in the middle", x.step(2, 2), 7);
        dueEdges(x, 324, 304, 345, 454, 303, 331, 413);
        c.due("nodes", x.count(3), 6);
        x.begin(1);
        c.due("step(0, 1)", x.step(0, 1), 1);
        dueEdges(x, 10);
        x.drop(0);
        c.due("step(0, 0) by the rule that moved", x.step(0, 0), STATE);
    }

    private static void stepsAreFull() {
        GrownGraphs x = Checks.withRules("A=A01A01A01", "A=A02A21", "A=a01", "B=A01A10", "A=A02A23A31");
        x.begin(0);
        for (int edges = 3; edges <= 11; edges += 2) {
            c.due("step to " + edges, x.step(0, 0), edges);
        }
        c.due("step to 13", x.step(0, 0), FULL);
        c.due("step to 12", x.step(10, 1), 12);
        c.due("nodes", x.count(3), 3);
        c.due("step to 13 again", x.step(0, 1), FULL);
        c.due("step that adds none", x.step(11, 2), 12);
        c.due("edge(11)", x.edge(11), 321);
        c.due("a done edge comes ahead of FULL", x.step(11, 0), STATE);
        c.due("count(6)", x.count(6), 7);
        x.begin(0);
        for (int nodes = 3; nodes <= 9; nodes++) {
            c.due("step to " + nodes + " nodes", x.step(0, 1), nodes - 1);
        }
        c.due("step to 10 nodes", x.step(0, 1), FULL);
        c.due("step without new nodes", x.step(0, 0), 10);
        c.due("nodes", x.count(3), 9);
        c.due("edge(0)", x.edge(0), 8);
        c.due("edge(3)", x.edge(3), 87);
        x.begin(0);
        for (int nodes = 4; nodes <= 8; nodes += 2) {
            x.step(0, 4);
        }
        c.due("nodes", x.count(3), 8);
        c.due("step from 8 to 10 nodes", x.step(0, 4), FULL);
        c.due("step from 8 to 9 nodes", x.step(0, 1), 8);
    }

    private static void edge() {
        GrownGraphs x = Checks.withRules("B=C20a31b23", "C=B12a20");
        c.due("edge(0) of none", x.edge(0), UNKNOWN);
        x.begin(1);
        c.due("step(0, 0)", x.step(0, 0), 3);
        dueEdges(x, 220, 331, 423);
        c.due("step(0, 1)", x.step(0, 1), 4);
        dueEdges(x, 104, 342, 331, 423);
        c.due("step(0, 0)", x.step(0, 0), 6);
        dueEdges(x, 250, 364, 456, 342, 331, 423);
        for (int place : WILD) {
            c.due("edge(" + place + ")", x.edge(place), UNKNOWN);
            c.due("step(" + place + ", 0)", x.step(place, 0), UNKNOWN);
            c.due("step(0, " + place + ")", x.step(0, place), UNKNOWN);
        }
        c.due("step(6, 0)", x.step(6, 0), UNKNOWN);
        c.due("step(0, 2)", x.step(0, 2), UNKNOWN);
        c.due("step(1, 2)", x.step(1, 2), UNKNOWN);
        c.due("step(0, 0) of C by a rule for B", x.step(0, 0), STATE);
        c.due("step(1, 0) of a", x.step(1, 0), STATE);
        c.due("count(5)", x.count(5), 3);
    }

    private static void dueEdges(GrownGraphs x, int... wants) {
        c.due("how many edges", x.count(2), wants.length);
        for (int i = 0; i < wants.length; i++) {
            c.due("edge(" + i + ")", x.edge(i), wants[i]);
        }
        c.due("the edge behind the last", x.edge(wants.length), UNKNOWN);
    }

    private static void kind(String text, int want) {
        GrownGraphs x = new GrownGraphs();
        Checks.graph(x, text);
        c.due("kind() of " + text, x.kind(), want);
    }

    private static void kind() {
        kind("a01", 1 + 8);
        kind("a10", 2 + 8);
        kind("b01", 15);
        kind("b10", 15);
        kind("a01a10", 3 + 8);
        kind("a02", 12);
        kind("a23", 12);
        kind("a23a34a42", 0);
        kind("a01a12a20", 3);
        kind("a02a21", 1 + 4);
        kind("a20a12", 2 + 4);
        kind("a02a12", 4);
        kind("a02b21", 1 + 12);
        kind("b20b12", 15);
        kind("a02a23a31", 1 + 8);
        kind("a02a21a01", 1);
        kind("a02a21b01", 3 + 4);
        kind("a02a23a34a41", 1 + 4);
        kind("a14b43a32a20", 2 + 12);
        kind("a02a13b32", 1 + 12 - 1);
        kind("a02a31b32", 1 + 12);
        kind("a02a23a30b31", 3);
        GrownGraphs x = Checks.withRules("A=B01");
        x.begin(0);
        c.due("kind() of an open one", x.kind(), STATE);
    }

    private static void kindOfGrown() {
        GrownGraphs x = Checks.withRules("A=A02a21", "A=a01", "A=A01a10");
        x.begin(0);
        for (int nodes = 3; nodes <= 9; nodes++) {
            x.step(0, 0);
        }
        c.due("kind() while an edge is open", x.kind(), STATE);
        x.step(0, 2);
        c.due("edges", x.step(0, 1), 9);
        c.due("nodes", x.count(3), 9);
        c.due("kind() of a way of eight", x.kind(), 1 + 4);
    }

    private static void fewest(GrownGraphs x, String text, int... wants) {
        c.holds(text + " is a graph", Checks.graph(x, text) > 0);
        for (int open = 0; open < 3; open++) {
            c.due("fewest(" + open + ") of " + text, x.fewest(open), wants[open]);
        }
    }

    private static void fewest() {
        GrownGraphs x = Checks.withRules("A=a01", "A=B10", "B=A02C21", "C=A01A01", "C=b01");
        fewest(x, "a01", 1, NONE, NONE);
        fewest(x, "b01", NONE, NONE, 1);
        fewest(x, "b10", NONE, NONE, NONE);
        fewest(x, "a01a01", NONE, NONE, 3);
        fewest(x, "a02b21", NONE, 3, NONE);
        fewest(x, "b21a02", NONE, 3, NONE);
        fewest(x, "a12b20", 4, NONE, NONE);
        fewest(x, "a02a21a21", NONE, 5, NONE);
        fewest(x, "a03b32b21", NONE, NONE, NONE);
        fewest(x, "a32b20b13", NONE, NONE, NONE);
        fewest(x, "a23b30b21", NONE, 6, NONE);
        fewest(x, "a32b20b31", NONE, 6, NONE);
        fewest(x, "a02", NONE, NONE, NONE);
        fewest(x, "a23", NONE, NONE, NONE);
        fewest(x, "a01a23", NONE, NONE, NONE);
        c.due("rule()", Checks.rule(x, "C=a02a21"), 5);
        fewest(x, "a02a21", NONE, NONE, 1);
        c.due("drop(5)", x.drop(5), 5);
        c.due("fewest(2) without the rule", x.fewest(2), NONE);
        c.due("rule() again", Checks.rule(x, "C=a02a21"), 5);
        c.due("fewest(2) with the rule again", x.fewest(2), 1);
        GrownGraphs chains = Checks.withRules("A=B10", "B=C10", "C=A10", "C=a01", "A=A01");
        fewest(chains, "a01", 3, 5, 1);
        fewest(chains, "a10", 6, 2, 4);
        GrownGraphs best = Checks.withRules("A=B01", "B=C01", "C=a01b01", "A=a01b01", "A=a01B01", "B=b01");
        fewest(best, "b01a01", 1, 2, 1);
        best.drop(3);
        fewest(best, "b01a01", 2, 2, 1);
    }

    private static void fewestRefuses() {
        GrownGraphs x = Checks.withRules("A=A02A21", "A=a01", "A=A01A01A01");
        x.begin(0);
        c.due("fewest(0) of an open one", x.fewest(0), STATE);
        c.due("fewest(-1) of an open one", x.fewest(-1), UNKNOWN);
        for (int open : WILD) {
            c.due("fewest(" + open + ")", x.fewest(open), UNKNOWN);
        }
        growWay(x, 4);
        c.due("fewest(0) of four edges, five nodes", x.fewest(0), 7);
        growWay(x, 5);
        c.due("nodes", x.count(3), 6);
        c.due("fewest(0) of five edges, six nodes", x.fewest(0), STATE);
        x.begin(0);
        x.step(0, 2);
        x.step(0, 2);
        for (int i = 0; i < 5; i++) {
            c.due("fewest(0) of open ones", x.fewest(0), STATE);
            x.step(i, 1);
        }
        c.due("fewest(0) of five edges, two nodes", x.fewest(0), 7);
        x.begin(0);
        x.step(0, 2);
        x.step(0, 2);
        x.step(0, 0);
        for (int i = 0; i < 6; i++) {
            x.step(i, 1);
        }
        c.due("fewest(0) of six edges, three nodes", x.fewest(0), STATE);
        c.due("fewest(3) of six edges", x.fewest(3), UNKNOWN);
    }

    private static void growWay(GrownGraphs x, int edges) {
        x.begin(0);
        for (int i = 1; i < edges; i++) {
            x.step(0, 0);
        }
        for (int i = 0; i < edges; i++) {
            x.step(i, 1);
        }
    }

    private static void kinds() {
        GrownGraphs x = Checks.withRules("A=a01", "B=b01", "B=A02A21", "C=C02B21");
        c.due("kinds(0)", x.kinds(0), 1 << 9);
        c.due("kinds(1)", x.kinds(1), 1 << 15 | 1 << 5);
        c.due("kinds(2)", x.kinds(2), 0);
        Checks.rule(x, "C=A10");
        c.due("kinds(2)", x.kinds(2), 1 << 10 | 1 << 8 | 1 << 14 | 1 << 12);
        for (int open : WILD) {
            c.due("kinds(" + open + ")", x.kinds(open), UNKNOWN);
        }
        c.due("kinds(3)", x.kinds(3), UNKNOWN);
    }

    private static void light() {
        GrownGraphs x = Checks.withRules("A=a01", "B=b01", "B=A02A21", "C=C02B21", "C=A10");
        c.due("light(1, 5, 0)", x.light(1, 5, 0), 3);
        c.due("light(1, 5, 1)", x.light(1, 5, 1), 2);
        c.due("light(1, 15, 0)", x.light(1, 15, 0), 1);
        c.due("light(1, 15, 1)", x.light(1, 15, 1), 1);
        c.due("light(1, 9, 0)", x.light(1, 9, 0), NONE);
        c.due("light(1, 9, 1)", x.light(1, 9, 1), NONE);
        c.due("light(2, 10, 0)", x.light(2, 10, 0), 2);
        c.due("light(2, 14, 0)", x.light(2, 14, 0), 4);
        c.due("light(2, 14, 1)", x.light(2, 14, 1), 3);
        c.due("light(2, 8, 0)", x.light(2, 8, 0), 6);
        for (int wild : WILD) {
            c.due("light(" + wild + ", 0, 0)", x.light(wild, 0, 0), UNKNOWN);
            c.due("light(0, " + wild + ", 0)", x.light(0, wild, 0), OUTSIDE);
            c.due("light(0, 0, " + wild + ")", x.light(0, 0, wild), OUTSIDE);
            c.due("light(3, " + wild + ", 5)", x.light(3, wild, 5), UNKNOWN);
        }
        c.due("light(0, 16, 1)", x.light(0, 16, 1), OUTSIDE);
        c.due("light(0, 15, 2)", x.light(0, 15, 2), OUTSIDE);
    }

    /** Of rules that are as good the least number comes first, whether it stands ahead or behind those it needs. */
    private static void lightOfFirsts() {
        GrownGraphs x = Checks.withRules("A=A10", "A=B01", "A=C01", "B=a01", "C=a01", "A=a01b01b10");
        c.due("light(0, 9, 0)", x.light(0, 9, 0), 2);
        c.due("light(0, 9, 1)", x.light(0, 9, 1), 1);
        c.due("light(0, 10, 0)", x.light(0, 10, 0), 3);
        c.due("light(0, 10, 1)", x.light(0, 10, 1), 0);
        c.due("light(0, 11, 0)", x.light(0, 11, 0), 1);
        c.due("light(0, 11, 1)", x.light(0, 11, 1), 5);
        x.drop(1);
        c.due("light(0, 9, 1)", x.light(0, 9, 1), 1);
        c.due("light(0, 9, 0)", x.light(0, 9, 0), 2);
        Checks.rule(x, "A=a01");
        c.due("light(0, 9, 0)", x.light(0, 9, 0), 1);
        c.due("light(0, 9, 1)", x.light(0, 9, 1), 5);
        c.due("light(0, 10, 0)", x.light(0, 10, 0), 2);
    }

    private static void count() {
        GrownGraphs x = Checks.withRules("A=B02C21", "B=a01");
        c.due("count(6)", x.count(6), 0);
        x.begin(0);
        x.step(0, 0);
        x.step(0, 1);
        int[] wants = {0, 2, 2, 3, 1, 2, 2, 1};
        dueCounts(x, wants);
        x.begin(0);
        x.step(0, 1);
        x.step(0, 0);
        Checks.write(x, "a23b10");
        dueCounts(x, 6, 2, 2, 3, 2, 1, 3, 2);
        x.graph();
        dueCounts(x, 0, 2, 2, 4, 0, 0, 3, 3);
        c.due("count(8)", x.count(8), OUTSIDE);
        for (int what : WILD) {
            c.due("count(" + what + ")", x.count(what), OUTSIDE);
        }
    }

    private static void dueCounts(GrownGraphs x, int... wants) {
        for (int what = 0; what < 8; what++) {
            c.due("count(" + what + ")", x.count(what), wants[what]);
        }
    }

    private static void digest() {
        GrownGraphs x = new GrownGraphs();
        c.due("digest() of a new one", x.digest(), Checks.digestOf(x, ""));
        Checks.rule(x, "A=A02b21");
        Checks.rule(x, "A=a10");
        Checks.rule(x, "C=A01A13a03");
        x.begin(0);
        x.step(0, 0);
        Checks.write(x, "A=~ z");
        c.due("digest() of an open graph", x.digest(), Checks.digestOf(x, "A=~ z"));
        x.step(0, 1);
        c.due("digest() of a done graph", x.digest(), Checks.digestOf(x, "A=~ z"));
        c.due("digest() again", x.digest(), x.digest());
    }

    private static void refusalsChangeNothing() {
        GrownGraphs x = Checks.withRules("A=A02b21", "A=a10");
        x.begin(0);
        x.step(0, 0);
        Checks.write(x, "A=b0");
        long before = x.digest();
        x.letter(5);
        x.rule();
        x.graph();
        x.drop(2);
        x.drop(-1);
        x.of(4, 4);
        x.begin(3);
        x.step(5, 0);
        x.step(1, 0);
        x.step(0, 2);
        x.kind();
        x.fewest(1);
        x.light(9, 9, 9);
        x.count(99);
        c.due("digest() behind refusals", x.digest(), before);
    }
}
