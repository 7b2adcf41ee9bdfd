import java.util.Arrays;
import java.util.function.Supplier;

/** Each sentence of the document that names a bound of rules, steps, edges and counts (promises 1, 6, 8 to 12, 16). */
public final class GraphBoundsTest {
    /** By these a graph gets any number of edges and nodes: the digits tell how many edges and new nodes come. */
    private static final String[] SIZES = {"A=A01", "A=A01A01", "A=A01A01A01", "A=A02A21", "A=A02A21A01", "A=A02A23A31", "A=a01"};
    private static final int[] MORE_EDGES = {0, 1, 2, 1, 2, 2, 0};
    private static final int[] MORE_NODES = {0, 0, 0, 1, 1, 2, 0};
    private static final Checks c = new Checks();

    public static void main(String[] args) {
        newObject();
        dropOfEach();
        dropRefuses();
        dropLeavesTheGraph();
        ofEachNumber();
        ofRefuses();
        beginOfEach();
        beginRefuses();
        beginInPlaceOfAnother();
        stepRefusesNumbers();
        stepRefusesLetters();
        stepAtEachPlace();
        stepMakesNewNodesInOrder();
        stepsUpToTwelveEdgesAndNineNodes();
        stepTellsTheFirstRefusal();
        stepBehindARefusedOne();
        edgeRefuses();
        kindRefuses();
        kindOfTheGreatest();
        kindOfEndsWithoutEdges();
        countsOfEachKind();
        countsBehindBeginAndGraph();
        countsBehindRefusals();
        countRefuses();
        c.end("GraphBoundsTest");
    }

    private static Supplier<GrownGraphs> begun(int open, String... rules) {
        return () -> {
            GrownGraphs x = Checks.withRules(rules);
            x.begin(open);
            return x;
        };
    }

    private static void dueEdges(GrownGraphs x, int... wants) {
        c.due("count(2)", x.count(2), wants.length);
        for (int i = 0; i < 13; i++) {
            c.due("edge(" + i + ")", x.edge(i), i < wants.length ? wants[i] : Checks.UNKNOWN);
        }
    }

    private static void dueCounts(String when, GrownGraphs x, int... wants) {
        for (int what = 0; what < 8; what++) {
            c.due("count(" + what + ") " + when, x.count(what), wants[what]);
        }
    }

    // ---- a new object

    /** "No RULES, no GRAPH." */
    private static void newObject() {
        GrownGraphs x = new GrownGraphs();
        dueCounts("of a new object", x, 0, 0, 0, 0, 0, 0, 0, 0);
        dueEdges(x);
        for (int open = 0; open < 3; open++) {
            int asked = open;
            c.due("kinds(" + open + ") of a new object", x.kinds(open), 0);
            c.refuses("fewest(" + open + ") of a new object", GrownGraphs::new, y -> y.fewest(asked), Checks.STATE);
            for (int kind = 0; kind < 16; kind++) {
                c.due("light() of a new object", x.light(open, kind, 0), Checks.NONE);
                c.due("FIRST of a new object", x.light(open, kind, 1), Checks.NONE);
            }
        }
        c.refuses("kind() of a new object", GrownGraphs::new, GrownGraphs::kind, Checks.STATE);
        c.refuses("rule() of a new object", GrownGraphs::new, GrownGraphs::rule, Checks.STATE);
        c.refuses("drop(0) of a new object", GrownGraphs::new, y -> y.drop(0), Checks.UNKNOWN);
        c.refuses("of(0, 0) of a new object", GrownGraphs::new, y -> y.of(0, 0), Checks.UNKNOWN);
        c.refuses("edge(0) of a new object", GrownGraphs::new, y -> y.edge(0), Checks.UNKNOWN);
        c.refuses("step(0, 0) of a new object", GrownGraphs::new, y -> y.step(0, 0), Checks.UNKNOWN);
        GrownGraphs busy = begun(0, SIZES).get();
        busy.step(0, 5);
        c.due("a new object beside a busy one", Checks.allOf(new GrownGraphs()), Checks.allOf(x));
    }

    // ---- drop

    private static String[] without(String[] rules, int gone) {
        String[] left = new String[rules.length - 1];
        for (int i = 0; i < left.length; i++) {
            left[i] = rules[i < gone ? i : i + 1];
        }
        return left;
    }

    /** "those behind it have a number less by 1", for each of one to nine rules: as if it had never come. */
    private static void dropOfEach() {
        String[] rules = {"A=a01", "B=b10", "C=A02B21", "A=C01", "B=A02b23a31", "C=b02C21", "A=b10a01B01", "B=C10", "C=a12A20"};
        for (int many = 1; many <= 9; many++) {
            String[] first = Arrays.copyOf(rules, many);
            for (int gone = 0; gone < many; gone++) {
                GrownGraphs x = Checks.withRules(first);
                x.digest();
                c.due("drop(" + gone + ") of " + many, x.drop(gone), many - 1);
                c.due("all that is told behind it", Checks.allOf(x), Checks.allOf(Checks.withRules(without(first, gone))));
            }
        }
        GrownGraphs x = Checks.withRules(rules);
        for (int left = 8; left >= 0; left--) {
            c.due("drop(0)", x.drop(0), left);
        }
        c.due("all that is told without rules", Checks.allOf(x), Checks.allOf(new GrownGraphs()));
    }

    private static void dropRefuses() {
        String[] rules = {"A=a01", "B=b10", "C=A02B21"};
        for (int many = 0; many <= 3; many++) {
            Supplier<GrownGraphs> made = begun(0, Arrays.copyOf(rules, many));
            for (int rule = many; rule <= 10; rule++) {
                int asked = rule;
                c.refuses("drop(" + rule + ") of " + many, made, x -> x.drop(asked), Checks.UNKNOWN);
            }
            for (int rule : Checks.FAR_OFF) {
                c.refuses("drop(" + rule + ") of " + many, made, x -> x.drop(rule), Checks.UNKNOWN);
            }
        }
        GrownGraphs x = Checks.withRules(rules);
        c.due("drop(2)", x.drop(2), 2);
        c.due("drop(2) again", x.drop(2), Checks.UNKNOWN);
        c.due("of(2, 0)", x.of(2, 0), Checks.UNKNOWN);
        x.begin(2);
        c.due("step(0, 2) by the rule that is gone", x.step(0, 2), Checks.UNKNOWN);
    }

    /** What has grown by a rule stays, and so does the page. */
    private static void dropLeavesTheGraph() {
        GrownGraphs x = begun(0, "A=B02b21", "B=a01").get();
        x.step(0, 0);
        Checks.write(x, "A=");
        x.drop(0);
        dueEdges(x, 102, 421);
        dueCounts("behind drop()", x, 2, 1, 2, 3, 1, 1, 1, 1);
        c.due("step(0, 0) by the rule with its new number", x.step(0, 0), 2);
        dueEdges(x, 302, 421);
        c.due("fewest(0) without the rule", x.fewest(0), Checks.NONE);
    }

    // ---- of

    /** "10 to 12 the EDGE at that place ... (NONE: it has not so many)". */
    private static void ofEachNumber() {
        String[] rules = {"A=b10", "B=C02A21", "C=B03a32b21"};
        int[][] wants = {{0, 1, 2, 410, -1, -1}, {1, 2, 3, 202, 21, -1}, {2, 3, 4, 103, 332, 421}};
        int[] whats = {0, 1, 2, 10, 11, 12};
        GrownGraphs x = Checks.withRules(rules);
        for (int rule = 0; rule < 3; rule++) {
            for (int i = 0; i < whats.length; i++) {
                c.due("of(" + rule + ", " + whats[i] + ")", x.of(rule, whats[i]), wants[rule][i]);
            }
        }
        x.drop(2);
        Checks.rule(x, "A=a01");
        c.due("of(2, 11) of a rule in place of a longer one", x.of(2, 11), Checks.NONE);
        c.due("of(2, 12) of a rule in place of a longer one", x.of(2, 12), Checks.NONE);
        c.due("of(2, 2) of a rule in place of a greater one", x.of(2, 2), 2);
    }

    private static void ofRefuses() {
        Supplier<GrownGraphs> made = begun(1, "A=b10", "C=B03a32b21");
        for (int what = -3; what <= 120; what++) {
            int asked = what;
            boolean is = what >= 0 && what <= 2 || what >= 10 && what <= 12;
            if (!is) {
                c.refuses("of(1, " + what + ")", made, x -> x.of(1, asked), Checks.OUTSIDE);
                c.refuses("of(0, " + what + ")", made, x -> x.of(0, asked), Checks.OUTSIDE);
            }
            c.refuses("of(2, " + what + ")", made, x -> x.of(2, asked), Checks.UNKNOWN);
            c.refuses("of(-1, " + what + ")", made, x -> x.of(-1, asked), Checks.UNKNOWN);
        }
        for (int far : Checks.FAR_OFF) {
            c.refuses("of(" + far + ", 0)", made, x -> x.of(far, 0), Checks.UNKNOWN);
            c.refuses("of(" + far + ", 3)", made, x -> x.of(far, 3), Checks.UNKNOWN);
            c.refuses("of(0, " + far + ")", made, x -> x.of(0, far), Checks.OUTSIDE);
        }
    }

    // ---- begin

    private static void beginOfEach() {
        for (int open = 0; open < 3; open++) {
            GrownGraphs x = new GrownGraphs();
            c.due("begin(" + open + ")", x.begin(open), 1);
            dueEdges(x, 100 * open + 1);
            dueCounts("behind begin()", x, 0, 0, 1, 2, 1, 0, 0, 1);
        }
    }

    /** "UNKNOWN: open (0 to 2)". */
    private static void beginRefuses() {
        Supplier<GrownGraphs> grown = () -> {
            GrownGraphs x = begun(1, "B=a02B21").get();
            x.step(0, 0);
            return x;
        };
        for (int open : new int[] {-3, -2, -1, 3, 4, 5, 65, 66, 67, 97}) {
            c.refuses("begin(" + open + ")", grown, x -> x.begin(open), Checks.UNKNOWN);
            c.refuses("begin(" + open + ") of a new object", GrownGraphs::new, x -> x.begin(open), Checks.UNKNOWN);
        }
        for (int open : Checks.FAR_OFF) {
            c.refuses("begin(" + open + ")", grown, x -> x.begin(open), Checks.UNKNOWN);
        }
    }

    private static void beginInPlaceOfAnother() {
        GrownGraphs x = begun(0, SIZES).get();
        grow(x, 12, 9);
        Checks.write(x, "a01");
        c.due("begin(2) in place of the greatest", x.begin(2), 1);
        dueEdges(x, 201);
        c.due("count(3)", x.count(3), 2);
        c.due("count(0): the page stays", x.count(0), 3);
        c.due("graph()", x.graph(), 1);
        c.due("begin(0) in place of one that was told", x.begin(0), 1);
        dueEdges(x, 1);
        c.refuses("kind() of one that was begun in place of a done one", () -> {
            GrownGraphs y = new GrownGraphs();
            Checks.graph(y, "a01");
            y.begin(0);
            return y;
        }, GrownGraphs::kind, Checks.STATE);
    }

    // ---- step

    /** "UNKNOWN: place, rule". */
    private static void stepRefusesNumbers() {
        Supplier<GrownGraphs> made = () -> {
            GrownGraphs x = begun(0, "A=A02A21", "A=a01").get();
            x.step(0, 0);
            return x;
        };
        for (int wrong : new int[] {-2, -1, 2, 3, 9, 12, 13}) {
            c.refuses("step(" + wrong + ", 0)", made, x -> x.step(wrong, 0), Checks.UNKNOWN);
            c.refuses("step(0, " + wrong + ")", made, x -> x.step(0, wrong), Checks.UNKNOWN);
            c.refuses("step(" + wrong + ", " + wrong + ")", made, x -> x.step(wrong, wrong), Checks.UNKNOWN);
        }
        for (int far : Checks.FAR_OFF) {
            c.refuses("step(" + far + ", 0)", made, x -> x.step(far, 0), Checks.UNKNOWN);
            c.refuses("step(0, " + far + ")", made, x -> x.step(0, far), Checks.UNKNOWN);
        }
        c.due("step(1, 1), the last place and the last rule", made.get().step(1, 1), 2);
        c.due("step(0, 0), the first ones", made.get().step(0, 0), 3);
        c.refuses("step(0, 0) without a rule", begun(0), x -> x.step(0, 0), Checks.UNKNOWN);
        c.refuses("step(0, 0) without a graph", () -> Checks.withRules("A=a01"), x -> x.step(0, 0), Checks.UNKNOWN);
    }

    /** "STATE: the EDGE there is not OPEN, or has another LETTER than the RULE". */
    private static void stepRefusesLetters() {
        String[] rules = {"A=a01b01", "B=a01b01", "C=a01b01"};
        for (int open = 0; open < 3; open++) {
            for (int rule = 0; rule < 3; rule++) {
                int asked = rule;
                if (open == rule) {
                    c.due("step by the rule of its letter", begun(open, rules).get().step(0, rule), 2);
                } else {
                    c.refuses("step(0, " + rule + ") of " + open, begun(open, rules), x -> x.step(0, asked), Checks.STATE);
                }
                for (int place = 0; place < 2; place++) {
                    int there = place;
                    Supplier<GrownGraphs> told = () -> {
                        GrownGraphs x = Checks.withRules(rules);
                        Checks.graph(x, "a01b10");
                        return x;
                    };
                    c.refuses("step(" + place + ", " + rule + ") of a told graph", told, x -> x.step(there, asked), Checks.STATE);
                }
            }
        }
    }

    /** "the EDGES of the RULE come there in their order (what is behind moves on)", at the first, a middle and the last place. */
    private static void stepAtEachPlace() {
        String[] rules = {"A=B02A23C31", "B=b10", "A=a12b02", "C=a01a10b01"};
        GrownGraphs x = begun(0, rules).get();
        c.due("step(0, 0)", x.step(0, 0), 3);
        dueEdges(x, 102, 23, 231);
        c.due("step(0, 1) at the first place", x.step(0, 1), 3);
        dueEdges(x, 420, 23, 231);
        c.due("step(1, 2) at a middle place", x.step(1, 2), 4);
        dueEdges(x, 420, 334, 424, 231);
        c.due("step(3, 3) at the last place", x.step(3, 3), 6);
        dueEdges(x, 420, 334, 424, 331, 313, 431);
        dueCounts("behind the steps", x, 0, 4, 6, 5, 0, 4, 4, 1);
    }

    /** "its INNER ones new NODES with the next numbers, in order": by their digits, not as they come in its edges. */
    private static void stepMakesNewNodesInOrder() {
        GrownGraphs x = begun(0, "A=A03a32b21").get();
        c.due("step(0, 0)", x.step(0, 0), 3);
        dueEdges(x, 3, 332, 421);
        c.due("step(0, 0) again", x.step(0, 0), 5);
        dueEdges(x, 5, 354, 443, 332, 421);
        c.due("count(3)", x.count(3), 6);
        GrownGraphs turned = begun(1, "B=B10", "B=B12a02").get();
        turned.step(0, 0);
        dueEdges(turned, 110);
        turned.step(0, 1);
        dueEdges(turned, 102, 312);
        turned.step(0, 1);
        dueEdges(turned, 123, 303, 312);
    }

    /** Grows the graph, which is one edge, to so many edges and nodes; the last edge stays open. */
    private static void grow(GrownGraphs x, int edges, int nodes) {
        for (int tries = 0; tries < 12 && x.count(3) < nodes; tries++) {
            x.step(0, 3);
        }
        for (int tries = 0; tries < 12 && x.count(2) < edges; tries++) {
            x.step(0, 1);
        }
        c.due("edges of a grown graph", x.count(2), edges);
        c.due("nodes of a grown graph", x.count(3), nodes);
    }

    /** "FULL: there would be more than 12 EDGES, or more than 9 NODES", for each rule near the bounds. */
    private static void stepsUpToTwelveEdgesAndNineNodes() {
        for (int edges = 8; edges <= 12; edges++) {
            for (int nodes = 2; nodes <= 9; nodes++) {
                int many = edges;
                int most = nodes;
                Supplier<GrownGraphs> made = () -> {
                    GrownGraphs x = begun(0, SIZES).get();
                    grow(x, many, most);
                    return x;
                };
                for (int rule = 0; rule < SIZES.length; rule++) {
                    tryRule(made, rule, edges + MORE_EDGES[rule], nodes + MORE_NODES[rule]);
                }
            }
        }
    }

    private static void tryRule(Supplier<GrownGraphs> made, int rule, int edgesThen, int nodesThen) {
        String call = "step(0, " + rule + ") to " + edgesThen + " edges and " + nodesThen + " nodes";
        if (edgesThen > 12 || nodesThen > 9) {
            c.refuses(call, made, x -> x.step(0, rule), Checks.FULL);
            return;
        }
        GrownGraphs x = made.get();
        int steps = x.count(6);
        c.due(call, x.step(0, rule), edgesThen);
        c.due("count(2) behind " + call, x.count(2), edgesThen);
        c.due("count(3) behind " + call, x.count(3), nodesThen);
        c.due("count(5) behind " + call, x.count(5), steps + 1);
        c.due("count(6) behind " + call, x.count(6), steps + 1);
    }

    private static void stepTellsTheFirstRefusal() {
        Supplier<GrownGraphs> made = () -> {
            GrownGraphs x = begun(0, "A=A01", "A=A01A01", "A=a01", "A=A02A21", "B=B02B23B31").get();
            grow(x, 12, 9);
            x.step(11, 2);
            return x;
        };
        c.refuses("step(12, 1): UNKNOWN ahead of FULL", made, x -> x.step(12, 1), Checks.UNKNOWN);
        c.refuses("step(11, 5): UNKNOWN ahead of STATE", made, x -> x.step(11, 5), Checks.UNKNOWN);
        c.refuses("step(-1, 4): UNKNOWN ahead of all", made, x -> x.step(-1, 4), Checks.UNKNOWN);
        c.refuses("step(11, 1) of a done edge: STATE ahead of FULL", made, x -> x.step(11, 1), Checks.STATE);
        c.refuses("step(0, 4) of another letter: STATE ahead of FULL", made, x -> x.step(0, 4), Checks.STATE);
        c.refuses("step(0, 1): FULL", made, x -> x.step(0, 1), Checks.FULL);
        c.refuses("step(0, 3): FULL", made, x -> x.step(0, 3), Checks.FULL);
        c.due("step(0, 0): neither edges nor nodes come", made.get().step(0, 0), 12);
    }

    /** A step that fits goes on behind one that does not. */
    private static void stepBehindARefusedOne() {
        GrownGraphs x = begun(0, SIZES).get();
        grow(x, 11, 8);
        c.due("step(10, 5)", x.step(10, 5), Checks.FULL);
        int last = x.edge(10);
        c.due("step(10, 3)", x.step(10, 3), 12);
        c.due("edge(10) goes to the new node", x.edge(10), last / 10 * 10 + 8);
        c.due("edge(11) comes from the new node", x.edge(11), last / 100 * 100 + 80 + last % 10);
        c.due("count(3)", x.count(3), 9);
    }

    // ---- edge

    private static void edgeRefuses() {
        Supplier<GrownGraphs> greatest = () -> {
            GrownGraphs x = begun(0, SIZES).get();
            grow(x, 12, 9);
            return x;
        };
        GrownGraphs x = greatest.get();
        for (int place = 0; place < 12; place++) {
            c.holds("edge(" + place + ") of twelve", x.edge(place) >= 1 && x.edge(place) <= 88);
        }
        for (int place : new int[] {-2, -1, 12, 13, 100}) {
            c.refuses("edge(" + place + ") of twelve", greatest, y -> y.edge(place), Checks.UNKNOWN);
        }
        for (int place : Checks.FAR_OFF) {
            c.refuses("edge(" + place + ")", greatest, y -> y.edge(place), Checks.UNKNOWN);
            c.refuses("edge(" + place + ") of none", GrownGraphs::new, y -> y.edge(place), Checks.UNKNOWN);
        }
        c.refuses("edge(1) of one", begun(2), y -> y.edge(1), Checks.UNKNOWN);
        c.due("edge(0) of one", begun(2).get().edge(0), 201);
    }

    // ---- kind

    /** "STATE: there is none, or some EDGE is OPEN." */
    private static void kindRefuses() {
        for (int open = 0; open < 3; open++) {
            c.refuses("kind() of an open edge", begun(open), GrownGraphs::kind, Checks.STATE);
        }
        String[] rules = {"A=B01C10A01", "A=a01", "B=b01", "C=a01"};
        for (int left = 0; left < 3; left++) {
            int stays = left;
            Supplier<GrownGraphs> made = () -> {
                GrownGraphs x = begun(0, rules).get();
                x.step(0, 0);
                for (int place = 0; place < 3; place++) {
                    if (place != stays) {
                        x.step(place, place == 0 ? 2 : place == 1 ? 3 : 1);
                    }
                }
                return x;
            };
            c.due("count(4)", made.get().count(4), 1);
            c.refuses("kind() with one open edge at " + left, made, GrownGraphs::kind, Checks.STATE);
            GrownGraphs x = made.get();
            x.step(left, left == 0 ? 2 : left == 1 ? 3 : 1);
            c.due("kind() behind the last step", x.kind(), 3 + 8);
        }
    }

    /** A way through all of nine nodes, and with twelve edges. */
    private static void kindOfTheGreatest() {
        GrownGraphs x = begun(0, "A=A02a21", "A=a10", "A=a01", "A=A01a10").get();
        for (int nodes = 3; nodes <= 9; nodes++) {
            x.step(0, 0);
        }
        for (int edges = 9; edges <= 12; edges++) {
            c.due("step(0, 3)", x.step(0, 3), edges);
        }
        c.due("kind() while one is open", x.kind(), Checks.STATE);
        x.step(0, 2);
        c.due("count(2)", x.count(2), 12);
        c.due("count(3)", x.count(3), 9);
        c.due("kind() of a way of eight edges", x.kind(), 1 + 4);
        GrownGraphs back = begun(0, "A=A10", "A=A02b21", "A=a01").get();
        back.step(0, 0);
        for (int nodes = 3; nodes <= 9; nodes++) {
            back.step(0, 1);
        }
        back.step(0, 2);
        c.due("kind() of a way of eight back, seven of them b", back.kind(), 2 + 4 + 8);
    }

    /** A told graph may leave out 0 or 1: no way comes there, and its colour is free. */
    private static void kindOfEndsWithoutEdges() {
        String[] texts = {"a02", "a21", "a23", "b23", "a02a23a30", "a23a34a42", "b02b23"};
        int[] wants = {12, 12, 12, 12, 0, 0, 12};
        for (int i = 0; i < texts.length; i++) {
            GrownGraphs x = new GrownGraphs();
            Checks.graph(x, texts[i]);
            c.due("kind() of " + texts[i], x.kind(), wants[i]);
        }
    }

    // ---- count

    private static void countsOfEachKind() {
        GrownGraphs x = begun(0, "A=B02b21", "B=a02B21").get();
        dueCounts("behind begin()", x, 0, 2, 1, 2, 1, 0, 0, 1);
        x.step(0, 0);
        dueCounts("behind a step", x, 0, 2, 2, 3, 1, 1, 1, 1);
        x.step(0, 1);
        Checks.write(x, "A=b01");
        dueCounts("behind two", x, 5, 2, 3, 4, 1, 2, 2, 1);
        x.rule();
        dueCounts("behind a rule", x, 0, 3, 3, 4, 1, 2, 2, 1);
        x.drop(2);
        dueCounts("behind drop()", x, 0, 2, 3, 4, 1, 2, 2, 1);
    }

    /** "5 STEPS since begin() (0 behind graph(), too), 6 STEPS ever, 7 how often a GRAPH was told or begun". */
    private static void countsBehindBeginAndGraph() {
        GrownGraphs x = begun(0, "A=A01", "A=a01").get();
        x.step(0, 0);
        x.step(0, 0);
        dueCounts("behind two steps", x, 0, 2, 1, 2, 1, 2, 2, 1);
        x.begin(0);
        dueCounts("behind begin() again", x, 0, 2, 1, 2, 1, 0, 2, 2);
        x.step(0, 0);
        dueCounts("behind a step", x, 0, 2, 1, 2, 1, 1, 3, 2);
        Checks.graph(x, "a02b21");
        dueCounts("behind graph()", x, 0, 2, 2, 3, 0, 0, 3, 3);
        Checks.graph(x, "a01");
        dueCounts("behind graph() again", x, 0, 2, 1, 2, 0, 0, 3, 4);
        x.begin(0);
        x.step(0, 1);
        dueCounts("behind all these", x, 0, 2, 1, 2, 0, 1, 4, 5);
    }

    private static void countsBehindRefusals() {
        GrownGraphs x = begun(0, "A=A01", "A=a01").get();
        x.step(0, 0);
        x.begin(3);
        x.step(1, 0);
        x.step(0, 2);
        Checks.graph(x, "A01");
        dueCounts("behind refusals", x, 3, 2, 1, 2, 1, 1, 1, 1);
        x.step(0, 1);
        x.step(0, 1);
        dueCounts("behind one that was refused for its letter", x, 3, 2, 1, 2, 0, 2, 2, 1);
    }

    private static void countRefuses() {
        Supplier<GrownGraphs> made = begun(0, "A=A01", "A=a01");
        for (int what : new int[] {-2, -1, 8, 9, 10, 16, 100}) {
            c.refuses("count(" + what + ")", made, x -> x.count(what), Checks.OUTSIDE);
            c.refuses("count(" + what + ") of a new object", GrownGraphs::new, x -> x.count(what), Checks.OUTSIDE);
        }
        for (int what : Checks.FAR_OFF) {
            c.refuses("count(" + what + ")", made, x -> x.count(what), Checks.OUTSIDE);
        }
    }
}
