import java.util.ArrayList;
import java.util.Arrays;
import java.util.List;
import java.util.function.Supplier;

/** Each sentence of the document that names a bound of FEWEST, CLASSES, LIGHT, FIRST and the digest (promises 13 to 15, 17). */
public final class GrowthBoundsTest {
    private static final Checks c = new Checks();

    public static void main(String[] args) {
        fewestRefusesLetters();
        fewestWithoutAGraph();
        fewestOfOpenEdges();
        fewestOfFiveEdgesAndSix();
        fewestOfFiveNodesAndSix();
        fewestOfEachSize();
        fewestOfNone();
        fewestOfEndsWithoutEdges();
        fewestLooksAtDirections();
        fewestInAnyOrderAndNumbering();
        fewestOfLongChains();
        fewestFollowsRulesAndGraph();
        kindsOfNone();
        kindsOfEachBit();
        kindsRefuses();
        kindsAndLightFollowRules();
        lightOfNone();
        lightOfOneStep();
        lightIsNotBoundByAGraphsSize();
        lightGoesThroughAllLetters();
        firstIsTheLeastNumber();
        firstIsOfItsLetter();
        firstFollowsDrops();
        lightRefuses();
        digestOfANewObject();
        digestWraps();
        digestGoesThroughAll();
        digestChangesNothing();
        c.end("GrowthBoundsTest");
    }

    private static Supplier<GrownGraphs> told(String graph, String... rules) {
        return () -> {
            GrownGraphs x = Checks.withRules(rules);
            c.holds(graph + " is a graph", Checks.graph(x, graph) > 0);
            return x;
        };
    }

    private static void fewest(GrownGraphs x, String graph, int... wants) {
        c.holds(graph + " is a graph", Checks.graph(x, graph) > 0);
        for (int open = 0; open < 3; open++) {
            c.due("fewest(" + open + ") of " + graph, x.fewest(open), wants[open]);
        }
    }

    // ---- fewest

    /** "UNKNOWN: open", ahead of STATE. */
    private static void fewestRefusesLetters() {
        Supplier<GrownGraphs> open = () -> {
            GrownGraphs x = Checks.withRules("A=a01");
            x.begin(0);
            return x;
        };
        for (int wrong : new int[] {-2, -1, 3, 4, 5, 65}) {
            c.refuses("fewest(" + wrong + ")", told("a01", "A=a01"), x -> x.fewest(wrong), Checks.UNKNOWN);
            c.refuses("fewest(" + wrong + ") of an open graph", open, x -> x.fewest(wrong), Checks.UNKNOWN);
            c.refuses("fewest(" + wrong + ") of none", GrownGraphs::new, x -> x.fewest(wrong), Checks.UNKNOWN);
        }
        for (int far : Checks.FAR_OFF) {
            c.refuses("fewest(" + far + ")", told("a01", "A=a01"), x -> x.fewest(far), Checks.UNKNOWN);
        }
    }

    /** "STATE: there is none". */
    private static void fewestWithoutAGraph() {
        for (int open = 0; open < 3; open++) {
            int asked = open;
            c.refuses("fewest(" + open + ") without a graph", () -> Checks.withRules("A=a01", "B=b01", "C=a10"), x -> x.fewest(asked),
                    Checks.STATE);
        }
    }

    /** "some EDGE is OPEN". */
    private static void fewestOfOpenEdges() {
        for (int stays = 0; stays < 3; stays++) {
            int left = stays;
            Supplier<GrownGraphs> made = () -> {
                GrownGraphs x = Checks.withRules("A=A02B23A31", "A=a01", "B=b01");
                x.begin(0);
                x.step(0, 0);
                for (int place = 0; place < 3; place++) {
                    if (place != left) {
                        x.step(place, place == 1 ? 2 : 1);
                    }
                }
                return x;
            };
            for (int open = 0; open < 3; open++) {
                int asked = open;
                c.refuses("fewest(" + open + ") with an open edge at " + left, made, x -> x.fewest(asked), Checks.STATE);
            }
            GrownGraphs x = made.get();
            x.step(left, left == 1 ? 2 : 1);
            c.due("fewest(0) behind the last step", x.fewest(0), 4);
            c.due("fewest(1) behind the last step", x.fewest(1), Checks.NONE);
        }
    }

    private static GrownGraphs grown(int inRow, int beside) {
        GrownGraphs x = Checks.withRules("A=A02A21", "A=A01A01", "A=a01");
        x.begin(0);
        for (int i = 1; i < inRow; i++) {
            x.step(0, 0);
        }
        for (int i = 0; i < beside; i++) {
            x.step(0, 1);
        }
        for (int i = 0; i < inRow + beside; i++) {
            x.step(i, 2);
        }
        return x;
    }

    /** "it has more than five EDGES". */
    private static void fewestOfFiveEdgesAndSix() {
        for (int inRow = 1; inRow <= 4; inRow++) {
            for (int edges = inRow; edges <= 12; edges++) {
                int row = inRow;
                int beside = edges - inRow;
                c.due("count(2)", grown(row, beside).count(2), edges);
                c.due("count(3)", grown(row, beside).count(3), row + 1);
                if (edges <= 5) {
                    c.due("fewest(0) of " + edges + " edges", grown(row, beside).fewest(0), 2 * edges - 1);
                    c.due("fewest(1) of " + edges + " edges", grown(row, beside).fewest(1), Checks.NONE);
                } else {
                    c.refuses("fewest(0) of " + edges + " edges", () -> grown(row, beside), x -> x.fewest(0), Checks.STATE);
                    c.refuses("fewest(1) of " + edges + " edges", () -> grown(row, beside), x -> x.fewest(1), Checks.STATE);
                }
            }
        }
    }

    /** "or more than five NODES": five edges have room for six, and less of them if some go nowhere. */
    private static void fewestOfFiveNodesAndSix() {
        c.due("fewest(0) of four edges, five nodes", grown(4, 0).fewest(0), 7);
        c.due("fewest(0) of five edges, five nodes", grown(4, 1).fewest(0), 9);
        c.refuses("fewest(0) of five edges, six nodes", () -> grown(5, 0), x -> x.fewest(0), Checks.STATE);
        Supplier<GrownGraphs> apart = () -> {
            GrownGraphs x = Checks.withRules("A=A02A13", "A=a02a13", "A=a01");
            x.begin(0);
            x.step(0, 0);
            x.step(0, 1);
            x.step(2, 2);
            return x;
        };
        c.due("count(2)", apart.get().count(2), 3);
        c.due("count(3)", apart.get().count(3), 6);
        c.refuses("fewest(0) of three edges, six nodes", apart, x -> x.fewest(0), Checks.STATE);
    }

    /** The greatest that can be told: five edges and five nodes. */
    private static void fewestOfEachSize() {
        GrownGraphs x = Checks.withRules("A=a02A21", "A=a01", "B=A01b10", "C=B02A23B31");
        fewest(x, "a01", 1, Checks.NONE, Checks.NONE);
        fewest(x, "a02a21", 2, Checks.NONE, Checks.NONE);
        fewest(x, "a02a23a31", 3, Checks.NONE, Checks.NONE);
        fewest(x, "a02a23a34a41", 4, Checks.NONE, Checks.NONE);
        fewest(x, "a02a23a34a41b10", Checks.NONE, 5, Checks.NONE);
        fewest(x, "a02b20a23a31b13", Checks.NONE, Checks.NONE, 6);
        fewest(x, "a02a23a34a41a10", Checks.NONE, Checks.NONE, Checks.NONE);
        GrownGraphs beside = Checks.withRules("A=a01A01", "A=a01a01");
        fewest(beside, "a01a01a01a01a01", 4, Checks.NONE, Checks.NONE);
        fewest(beside, "a01a01a01a01b01", Checks.NONE, Checks.NONE, Checks.NONE);
    }

    /** "NONE": no rules, none for the letter, only rules without an end, too many edges or other ones. */
    private static void fewestOfNone() {
        fewest(new GrownGraphs(), "a01", Checks.NONE, Checks.NONE, Checks.NONE);
        fewest(Checks.withRules("A=A01", "B=C10", "C=B10"), "a01", Checks.NONE, Checks.NONE, Checks.NONE);
        fewest(Checks.withRules("A=A01a01", "B=a01b01"), "a01", Checks.NONE, Checks.NONE, Checks.NONE);
        fewest(Checks.withRules("A=a01a01", "B=a01"), "a01a01a01", Checks.NONE, Checks.NONE, Checks.NONE);
        fewest(Checks.withRules("A=a02a21", "B=a01a01"), "a01a01", Checks.NONE, 1, Checks.NONE);
        fewest(Checks.withRules("A=a02a21", "B=a01a01"), "a02a21", 1, Checks.NONE, Checks.NONE);
    }

    /** A rule's ends come in its edges, so 0 and 1 never lose theirs. */
    private static void fewestOfEndsWithoutEdges() {
        GrownGraphs x = Checks.withRules("A=a02A21", "A=a01", "A=a02a12", "B=a02a13", "C=B20B31A01");
        fewest(x, "a02", Checks.NONE, Checks.NONE, Checks.NONE);
        fewest(x, "a21", Checks.NONE, Checks.NONE, Checks.NONE);
        fewest(x, "a23", Checks.NONE, Checks.NONE, Checks.NONE);
        fewest(x, "a02a13", Checks.NONE, 1, Checks.NONE);
        fewest(x, "a13a02", Checks.NONE, 1, Checks.NONE);
        fewest(x, "a03a12", Checks.NONE, 1, Checks.NONE);
        fewest(x, "a23a34", Checks.NONE, Checks.NONE, Checks.NONE);
    }

    /** Only CLASS goes along "b" both ways: as edges b01 and b10 are not the same. */
    private static void fewestLooksAtDirections() {
        GrownGraphs x = Checks.withRules("A=a01", "B=b01", "C=A10", "C=B10");
        fewest(x, "a01", 1, Checks.NONE, Checks.NONE);
        fewest(x, "a10", Checks.NONE, Checks.NONE, 2);
        fewest(x, "b01", Checks.NONE, 1, Checks.NONE);
        fewest(x, "b10", Checks.NONE, Checks.NONE, 2);
    }

    /** "with EDGES in any order, and NODES but 0 and 1 numbered in any way". */
    private static void fewestInAnyOrderAndNumbering() {
        String[] orders = {"012", "021", "102", "120", "201", "210"};
        String[] numbers = {"0123", "0132"};
        for (String order : orders) {
            for (String number : numbers) {
                String told = placed("a02b23a31", order, number);
                fewest(Checks.withRules("A=a02B21", "B=b02a21"), told, 2, Checks.NONE, Checks.NONE);
                String turned = placed("a02b23a31", order, number.equals("0123") ? "1023" : "1032");
                fewest(Checks.withRules("A=a02B21", "B=b02a21"), turned, Checks.NONE, Checks.NONE, Checks.NONE);
            }
        }
    }

    private static String placed(String graph, String order, String number) {
        StringBuilder text = new StringBuilder();
        for (char place : order.toCharArray()) {
            int at = 3 * (place - '0');
            text.append(graph.charAt(at)).append(number.charAt(graph.charAt(at + 1) - '0')).append(number.charAt(graph.charAt(at + 2) - '0'));
        }
        return text.toString();
    }

    /** Rules of one edge keep the graph as great as it is: the longest way goes through three letters in two directions. */
    private static void fewestOfLongChains() {
        GrownGraphs x = Checks.withRules("A=B01", "B=C01", "C=A10", "A=a01");
        fewest(x, "a01", 1, 6, 5);
        fewest(x, "a10", 4, 3, 2);
        GrownGraphs y = Checks.withRules("C=B01", "B=A01", "A=C10", "C=a02b21");
        fewest(y, "a02b21", 5, 6, 1);
        fewest(y, "b21a02", 5, 6, 1);
        fewest(y, "a12b20", 2, 3, 4);
        for (String[] rules : inEachOrder("C=B01", "B=A01", "A=C10", "A=a01")) {
            fewest(Checks.withRules(rules), "a01", 1, 2, 3);
            fewest(Checks.withRules(rules), "a10", 4, 5, 6);
        }
        for (String[] rules : inEachOrder("C=B10", "B=A10", "A=C10", "A=a02b21")) {
            fewest(Checks.withRules(rules), "a02b21", 1, 5, 3);
            fewest(Checks.withRules(rules), "a12b20", 4, 2, 6);
        }
    }

    private static List<String[]> inEachOrder(String... rules) {
        List<String[]> orders = new ArrayList<>();
        for (int order = 0; order < 256; order++) {
            int[] at = {order & 3, order >> 2 & 3, order >> 4 & 3, order >> 6};
            if ((1 << at[0] | 1 << at[1] | 1 << at[2] | 1 << at[3]) == 15) {
                orders.add(new String[] {rules[at[0]], rules[at[1]], rules[at[2]], rules[at[3]]});
            }
        }
        return orders;
    }

    private static void fewestFollowsRulesAndGraph() {
        GrownGraphs x = told("a02b21", "A=B02C21", "B=a01", "C=b01").get();
        c.due("fewest(0)", x.fewest(0), 3);
        c.due("rule()", Checks.rule(x, "A=a02b21"), 3);
        c.due("fewest(0) with a rule that comes", x.fewest(0), 1);
        c.due("drop(3)", x.drop(3), 3);
        c.due("fewest(0) without it", x.fewest(0), 3);
        c.due("drop(1)", x.drop(1), 2);
        c.due("fewest(0) without another", x.fewest(0), Checks.NONE);
        x.begin(2);
        c.due("fewest(2) of the edge that was begun", x.fewest(2), Checks.STATE);
        x.step(0, 1);
        c.due("fewest(2) behind a step", x.fewest(2), 1);
        Checks.graph(x, "b10");
        c.due("fewest(2) of another graph", x.fewest(2), Checks.NONE);
    }

    // ---- kinds

    private static void kindsOfNone() {
        GrownGraphs x = Checks.withRules("A=A01", "B=C02a21", "C=B01b01");
        for (int open = 0; open < 3; open++) {
            c.due("kinds(" + open + ") of rules without an end", x.kinds(open), 0);
        }
        Checks.rule(x, "B=a01");
        c.due("kinds(0) as before", x.kinds(0), 0);
        c.holds("kinds(1) has some now", x.kinds(1) != 0);
        c.holds("kinds(2) has some now", x.kinds(2) != 0);
    }

    /** One step leads to each class but 0: an odd ring through both ends would have a way. */
    private static void kindsOfEachBit() {
        String[] bodies = {"a01a02a21", "a10a20a12", "a01a12a20", "a02a12", "a02a21", "a20a12", "b01a02a21", "a02a13a32", "a01", "a10",
                "a01a10", "a02b13", "a02b21", "a20b12", "b01"};
        for (int kind = 1; kind < 16; kind++) {
            String rule = "C=" + bodies[kind - 1];
            GrownGraphs x = Checks.withRules(rule);
            c.due("kinds(2) of " + rule, x.kinds(2), 1 << kind);
            c.due("kinds(0) of " + rule, x.kinds(0), 0);
            c.due("light(2, " + kind + ", 0) of " + rule, x.light(2, kind, 0), 1);
            c.due("light(2, " + kind + ", 1) of " + rule, x.light(2, kind, 1), 0);
            Checks.graph(x, bodies[kind - 1]);
            c.due("kind() of " + bodies[kind - 1], x.kind(), kind);
        }
        c.due("kinds(0) of class 0", Checks.withRules("A=B02C12", "B=a02a12", "C=a02a01a21").kinds(0), 1);
        GrownGraphs next = Checks.withRules("B=A02C12", "A=a02a12", "C=a02a01a21");
        c.due("kinds(1) of class 0", next.kinds(1), 1);
        c.due("kinds(0) ahead of it", next.kinds(0), 1 << 4);
        GrownGraphs all = Checks.withRules("A=a01", "A=b01", "A=A10", "A=A02A21", "A=A01A01", "A=A02A12");
        c.due("kinds(0) of many rules", all.kinds(0), 0xffff);
    }

    private static void kindsRefuses() {
        Supplier<GrownGraphs> made = told("a01", "A=a01", "B=A10", "C=b01");
        for (int wrong : new int[] {-2, -1, 3, 4, 5, 65}) {
            c.refuses("kinds(" + wrong + ")", made, x -> x.kinds(wrong), Checks.UNKNOWN);
            c.refuses("kinds(" + wrong + ") of a new object", GrownGraphs::new, x -> x.kinds(wrong), Checks.UNKNOWN);
        }
        for (int far : Checks.FAR_OFF) {
            c.refuses("kinds(" + far + ")", made, x -> x.kinds(far), Checks.UNKNOWN);
        }
    }

    /** What was found with other rules is forgotten, whichever classes there were: as if all had been told anew. */
    private static void kindsAndLightFollowRules() {
        String[] rules = {"A=a01", "A=b01", "A=A10", "A=A02A21", "A=A01A01", "A=A02A12", "B=A01", "C=B01"};
        GrownGraphs x = new GrownGraphs();
        for (int many = 1; many <= rules.length; many++) {
            Checks.rule(x, rules[many - 1]);
            c.due("all that is told with " + many + " rules", Checks.allOf(x), Checks.allOf(Checks.withRules(Arrays.copyOf(rules, many))));
        }
        for (int open = 0; open < 3; open++) {
            c.due("kinds(" + open + ") of all", x.kinds(open), 0xffff);
        }
        for (int many = rules.length - 1; many >= 0; many--) {
            x.drop(many);
            c.due("all that is told with " + many + " rules left", Checks.allOf(x),
                    Checks.allOf(Checks.withRules(Arrays.copyOf(rules, many))));
        }
    }

    // ---- light

    /** "LIGHT (NONE)", "FIRST (NONE: there is none)": both just where kinds() has no bit. */
    private static void lightOfNone() {
        GrownGraphs x = Checks.withRules("A=a01", "A=A02A21", "B=C01", "C=B01a01", "C=A10");
        for (int open = 0; open < 3; open++) {
            for (int kind = 0; kind < 16; kind++) {
                boolean is = (x.kinds(open) >> kind & 1) != 0;
                c.holds("light(" + open + ", " + kind + ", 0) is NONE just where it must", is == (x.light(open, kind, 0) != Checks.NONE));
                c.holds("light(" + open + ", " + kind + ", 1) is NONE just where it must", is == (x.light(open, kind, 1) != Checks.NONE));
            }
        }
        c.due("kinds(0)", x.kinds(0), 1 << 5 | 1 << 9);
        c.due("light(0, 9, 0)", x.light(0, 9, 0), 1);
        c.due("light(0, 5, 0)", x.light(0, 5, 0), 3);
    }

    private static void lightOfOneStep() {
        GrownGraphs x = Checks.withRules("C=b10");
        c.due("light(2, 15, 0)", x.light(2, 15, 0), 1);
        c.due("light(2, 15, 1)", x.light(2, 15, 1), 0);
        c.due("light(2, 0, 0)", x.light(2, 0, 0), Checks.NONE);
        GrownGraphs two = Checks.withRules("A=a02a21b12", "A=a01a02a21");
        c.due("light(0, 5, 0)", two.light(0, 5, 0), 1);
        c.due("light(0, 5, 1)", two.light(0, 5, 1), 0);
        c.due("light(0, 13, 0)", two.light(0, 13, 0), Checks.NONE);
        c.due("light(0, 1, 0)", two.light(0, 1, 0), 1);
        c.due("light(0, 1, 1)", two.light(0, 1, 1), 1);
    }

    /** "(It may be as great as it will.)": a graph of that class may have more than 12 edges and 9 nodes. */
    private static void lightIsNotBoundByAGraphsSize() {
        GrownGraphs x = Checks.withRules("A=B02B23B31", "B=C02C23C31", "C=a02b23b31");
        c.due("light(0, 13, 0) of 27 edges and 28 nodes", x.light(0, 13, 0), 13);
        c.due("kinds(0)", x.kinds(0), 1 << 13);
        GrownGraphs y = Checks.withRules("A=B01B01B01", "B=C01C01C01", "C=a01a01a01");
        c.due("light(0, 9, 0) of 27 edges", y.light(0, 9, 0), 13);
        y.begin(0);
        y.step(0, 0);
        for (int i = 0; i < 4; i++) {
            y.step(3 * i, 1);
        }
        c.due("light(0, 9, 0) behind steps", y.light(0, 9, 0), 13);
    }

    /** Each letter leads to the next: what ends the way is at hand last. */
    private static void lightGoesThroughAllLetters() {
        for (String[] rules : new String[][] {{"A=B10", "B=C10", "C=a01"}, {"C=a01", "B=C10", "A=B10"}, {"B=C10", "A=B10", "C=a01"}}) {
            GrownGraphs x = Checks.withRules(rules);
            c.due("light(0, 9, 0)", x.light(0, 9, 0), 3);
            c.due("light(1, 10, 0)", x.light(1, 10, 0), 2);
            c.due("light(2, 9, 0)", x.light(2, 9, 0), 1);
            c.due("light(0, 10, 0)", x.light(0, 10, 0), Checks.NONE);
        }
    }

    /** "the RULE of least number ... by which it can begin so that the fewest STEPS are enough". */
    private static void firstIsTheLeastNumber() {
        for (int best = 0; best < 9; best++) {
            String[] rules = new String[9];
            for (int i = 0; i < 9; i++) {
                rules[i] = i < best ? "A=A10" : "A=b01";
            }
            rules[best] = "A=b01";
            GrownGraphs x = Checks.withRules(rules);
            c.due("light(0, 15, 0)", x.light(0, 15, 0), 1);
            c.due("light(0, 15, 1) of the first at " + best, x.light(0, 15, 1), best);
        }
        GrownGraphs far = Checks.withRules("A=B01", "B=a01", "A=C02C21", "C=b01", "A=a01", "A=a01b01");
        c.due("light(0, 9, 1): not the longer way with a less number", far.light(0, 9, 1), 4);
        c.due("light(0, 15, 1): the only way", far.light(0, 15, 1), 2);
        c.due("light(0, 15, 0)", far.light(0, 15, 0), 3);
        GrownGraphs even = Checks.withRules("B=A02A21", "A=a01", "B=C10", "C=B10", "C=A02A21");
        c.due("light(1, 5, 0)", even.light(1, 5, 0), 3);
        c.due("light(1, 5, 1)", even.light(1, 5, 1), 0);
        c.due("light(2, 6, 0)", even.light(2, 6, 0), 4);
        c.due("light(2, 6, 1)", even.light(2, 6, 1), 3);
    }

    /** "the RULE of least number with that LETTER". */
    private static void firstIsOfItsLetter() {
        GrownGraphs x = Checks.withRules("A=a01", "B=a01", "C=a01");
        for (int open = 0; open < 3; open++) {
            c.due("light(" + open + ", 9, 1)", x.light(open, 9, 1), open);
            c.due("light(" + open + ", 9, 0)", x.light(open, 9, 0), 1);
        }
    }

    private static void firstFollowsDrops() {
        GrownGraphs x = Checks.withRules("A=A10", "A=b01", "A=b10", "B=A01");
        c.due("light(0, 15, 1)", x.light(0, 15, 1), 1);
        c.due("light(1, 15, 1)", x.light(1, 15, 1), 3);
        x.drop(0);
        c.due("light(0, 15, 1) behind drop(0)", x.light(0, 15, 1), 0);
        c.due("light(1, 15, 1) behind drop(0)", x.light(1, 15, 1), 2);
        x.drop(0);
        c.due("light(0, 15, 1) behind another", x.light(0, 15, 1), 0);
        x.drop(0);
        c.due("light(0, 15, 1) without rules", x.light(0, 15, 1), Checks.NONE);
        c.due("light(1, 15, 0) without what it needs", x.light(1, 15, 0), Checks.NONE);
        Checks.rule(x, "A=b01");
        c.due("light(1, 15, 0) with it again", x.light(1, 15, 0), 2);
    }

    /** "UNKNOWN: open; OUTSIDE: kind (0 to 15), what." */
    private static void lightRefuses() {
        Supplier<GrownGraphs> made = told("a01", "A=a01", "B=A10", "C=b01");
        for (int wrong : new int[] {-2, -1, 16, 17, 31}) {
            for (int open = 0; open < 3; open++) {
                int asked = open;
                for (int what : new int[] {-1, 0, 1, 2}) {
                    c.refuses("light(" + open + ", " + wrong + ", " + what + ")", made, x -> x.light(asked, wrong, what), Checks.OUTSIDE);
                }
            }
        }
        for (int kind : new int[] {-1, 0, 9, 15, 16}) {
            for (int what : new int[] {-2, -1, 2, 3, 10}) {
                c.refuses("light(0, " + kind + ", " + what + ")", made, x -> x.light(0, kind, what), Checks.OUTSIDE);
                c.refuses("light(3, " + kind + ", " + what + ")", made, x -> x.light(3, kind, what), Checks.UNKNOWN);
                c.refuses("light(-1, " + kind + ", " + what + ")", made, x -> x.light(-1, kind, what), Checks.UNKNOWN);
            }
            c.refuses("light(3, " + kind + ", 0)", made, x -> x.light(3, kind, 0), Checks.UNKNOWN);
            c.refuses("light(-1, " + kind + ", 1)", made, x -> x.light(-1, kind, 1), Checks.UNKNOWN);
        }
        for (int far : Checks.FAR_OFF) {
            c.refuses("light(" + far + ", 0, 0)", made, x -> x.light(far, 0, 0), Checks.UNKNOWN);
            c.refuses("light(0, " + far + ", 0)", made, x -> x.light(0, far, 0), Checks.OUTSIDE);
            c.refuses("light(0, 0, " + far + ")", made, x -> x.light(0, 0, far), Checks.OUTSIDE);
        }
        GrownGraphs x = made.get();
        c.due("light(0, 0, 0), the least numbers", x.light(0, 0, 0), Checks.NONE);
        c.due("light(2, 15, 1), the greatest ones", x.light(2, 15, 1), 2);
    }

    // ---- digest

    private static void dueDigest(String of, GrownGraphs x, List<Integer> numbers) {
        c.due("digest() of " + of, x.digest(), Checks.wrapped(numbers));
    }

    private static void addNone(List<Integer> numbers, int fewest) {
        for (int open = 0; open < 3; open++) {
            numbers.add(fewest);
            numbers.add(0);
            for (int i = 0; i < 32; i++) {
                numbers.add(Checks.NONE);
            }
        }
    }

    private static void digestOfANewObject() {
        List<Integer> numbers = new ArrayList<>();
        numbers.add(Checks.STATE);
        addNone(numbers, Checks.STATE);
        for (int what = 0; what < 8; what++) {
            numbers.add(0);
        }
        dueDigest("a new object", new GrownGraphs(), numbers);
    }

    /** "(as longs, wrapping)": the sums are kept whole, and only then cut to a long. */
    private static void digestWraps() {
        List<Integer> numbers = new ArrayList<>();
        GrownGraphs x = Checks.withRules("A=A02b21", "C=a10");
        x.begin(0);
        x.step(0, 0);
        Checks.write(x, "~ A");
        numbers.addAll(List.of(0, 2, 3, 2, 421, -1));
        numbers.addAll(List.of(2, 1, 2, 310, -1, -1));
        numbers.addAll(List.of(2, 421));
        numbers.add(Checks.STATE);
        for (int open = 0; open < 3; open++) {
            numbers.add(Checks.STATE);
            numbers.add(open == 2 ? 1 << 10 : 0);
            for (int kind = 0; kind < 16; kind++) {
                numbers.add(open == 2 && kind == 10 ? 1 : Checks.NONE);
                numbers.add(open == 2 && kind == 10 ? 1 : Checks.NONE);
            }
        }
        numbers.addAll(List.of(126, 32, 65));
        numbers.addAll(List.of(3, 2, 2, 3, 1, 1, 1, 1));
        dueDigest("an open graph", x, numbers);
    }

    private static void digestGoesThroughAll() {
        List<Integer> numbers = new ArrayList<>();
        GrownGraphs x = Checks.withRules("B=b01");
        Checks.graph(x, "b01");
        numbers.addAll(List.of(1, 1, 2, 401, -1, -1, 401, 15));
        for (int open = 0; open < 3; open++) {
            numbers.add(open == 1 ? 1 : Checks.NONE);
            numbers.add(open == 1 ? 1 << 15 : 0);
            for (int kind = 0; kind < 16; kind++) {
                numbers.add(open == 1 && kind == 15 ? 1 : Checks.NONE);
                numbers.add(open == 1 && kind == 15 ? 0 : Checks.NONE);
            }
        }
        numbers.addAll(List.of(0, 1, 1, 2, 0, 0, 0, 1));
        dueDigest("a told graph", x, numbers);
    }

    private static void digestChangesNothing() {
        GrownGraphs x = told("a02b21", "A=B02C21", "B=a01", "C=b01").get();
        String all = Checks.allOf(told("a02b21", "A=B02C21", "B=a01", "C=b01").get());
        long digest = x.digest();
        c.due("digest() again", x.digest(), digest);
        c.due("all that is told behind digest()", Checks.allOf(x), all);
    }
}
