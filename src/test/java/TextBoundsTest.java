import java.util.ArrayList;
import java.util.List;
import java.util.function.Supplier;

/** Each sentence of the document that names a bound of THE PAGE, of rules and of graphs as texts (promises 2 to 5, 7). */
public final class TextBoundsTest {
    private static final String[] NINE = {"A=a01", "A=b10", "A=A02B21", "B=C01", "B=a02b21", "C=a01", "C=C02a23b31", "A=C10", "B=b01"};
    private static final Checks c = new Checks();

    public static void main(String[] args) {
        codes();
        sixteenLetters();
        outsideIsToldAheadOfFull();
        lettersStayInOrder();
        blankOfEachLength();
        faultOfAnEmptyPage();
        faultAtEachPlaceOfARule();
        faultAtEachPlaceOfAGraph();
        faultBehindTheLastEdge();
        faultOfEachBeginning();
        faultLeavesOutNodesThatHaveToBe();
        faultIsTheFirstOne();
        unlikeDigitsAreAskedOfOneEdgeAlone();
        rulesWithEachPairOfDigits();
        rulesOfOneToThreeEdges();
        rulesThatAreNone();
        ruleEmptiesThePage();
        nineRules();
        stateIsToldAheadOfFull();
        rulesMayBeAlike();
        graphsWithEachPairOfDigits();
        graphsOfOneToFiveEdges();
        graphsThatAreNone();
        graphEmptiesThePage();
        graphInPlaceOfAnother();
        c.end("TextBoundsTest");
    }

    private static Supplier<GrownGraphs> page(String text) {
        return () -> {
            GrownGraphs x = Checks.withRules("A=a01", "B=A02b21");
            Checks.graph(x, "a02b21");
            Checks.write(x, text);
            return x;
        };
    }

    // ---- letter

    /** "OUTSIDE: code (32 to 126)". */
    private static void codes() {
        for (int code = -70; code <= 400; code++) {
            int asked = code;
            if (code >= 32 && code <= 126) {
                c.due("letter(" + code + ")", new GrownGraphs().letter(code), 1);
            } else {
                c.refuses("letter(" + code + ")", GrownGraphs::new, x -> x.letter(asked), Checks.OUTSIDE);
            }
        }
        for (int code : Checks.FAR_OFF) {
            c.refuses("letter(" + code + ")", page("A="), x -> x.letter(code), Checks.OUTSIDE);
            c.refuses("letter(" + (code ^ 65) + ")", page("A="), x -> x.letter(code ^ 65), Checks.OUTSIDE);
        }
    }

    /** "FULL: above 16". */
    private static void sixteenLetters() {
        GrownGraphs x = new GrownGraphs();
        for (int many = 1; many <= 16; many++) {
            c.due("letter " + many, x.letter(40 + many), many);
            c.due("count(0)", x.count(0), many);
        }
        for (int code = 32; code <= 126; code++) {
            int asked = code;
            c.refuses("letter 17", page("A=a01a01a01a01a0"), y -> y.letter(asked), Checks.FULL);
        }
        c.due("letter 16 behind 15", fill(15).letter('x'), 16);
        c.due("letter 17 behind 16", fill(16).letter('x'), Checks.FULL);
    }

    private static GrownGraphs fill(int many) {
        GrownGraphs x = new GrownGraphs();
        for (int i = 0; i < many; i++) {
            x.letter('b');
        }
        return x;
    }

    /** "Refusals, of several the first as told by each call". */
    private static void outsideIsToldAheadOfFull() {
        c.refuses("letter(31) of a full page", page("A=a01a01a01a01a0"), x -> x.letter(31), Checks.OUTSIDE);
        c.refuses("letter(127) of a full page", page("A=a01a01a01a01a0"), x -> x.letter(127), Checks.OUTSIDE);
    }

    /** "A letter comes behind THE PAGE, told by its code". */
    private static void lettersStayInOrder() {
        String text = "~ A=z!b01@[`{aZ0";
        GrownGraphs x = new GrownGraphs();
        for (int i = 0; i < text.length(); i++) {
            x.letter(text.charAt(i));
            c.due("digest() of " + text.substring(0, i + 1), x.digest(), Checks.digestOf(x, text.substring(0, i + 1)));
        }
    }

    // ---- blank

    /** "THE PAGE is empty: how many letters it had", of none and of each length. */
    private static void blankOfEachLength() {
        for (int many = 0; many <= 16; many++) {
            GrownGraphs x = fill(many);
            c.due("blank() of " + many, x.blank(), many);
            c.due("blank() behind it", x.blank(), 0);
            c.due("count(0) behind it", x.count(0), 0);
            c.due("digest() behind it", x.digest(), new GrownGraphs().digest());
            c.due("letter() behind it", x.letter('~'), 1);
            c.due("digest() with one letter", x.digest(), Checks.digestOf(x, "~"));
        }
        GrownGraphs full = fill(17);
        c.due("blank() of a page that refused a letter", full.blank(), 16);
        GrownGraphs y = page("A=a01").get();
        String before = Checks.allOf(page("").get());
        c.due("blank() with rules and a graph", y.blank(), 5);
        c.due("rules and graph behind blank()", Checks.allOf(y), before);
    }

    // ---- fault

    private static int faultOf(String text, boolean graph) {
        GrownGraphs x = new GrownGraphs();
        Checks.write(x, text);
        int fault = x.fault(graph);
        c.due("fault(" + graph + ") again", x.fault(graph), fault);
        c.due("digest() behind fault(" + graph + ") of " + text, x.digest(), Checks.digestOf(x, text));
        return fault;
    }

    private static void fault(String text, boolean graph, int want) {
        c.due("fault(" + graph + ") of " + text, faultOf(text, graph), want);
    }

    /** "how many letters it has, if there is none": of an empty page, too. */
    private static void faultOfAnEmptyPage() {
        fault("", false, 0);
        fault("", true, 0);
        GrownGraphs x = page("=").get();
        x.blank();
        c.due("fault(false) behind blank()", x.fault(false), 0);
        c.due("fault(true) behind blank()", x.fault(true), 0);
    }

    /** Each of the 95 letters at each place of the text: it is a fault just where it is not among those that can be there. */
    private static void eachLetterAt(String text, boolean graph, String[] right) {
        for (int place = 0; place < text.length(); place++) {
            for (char letter = 32; letter <= 126; letter++) {
                String begins = text.substring(0, place) + letter;
                boolean fits = right[place].indexOf(letter) >= 0;
                fault(begins, graph, fits ? place + 1 : place);
                if (!fits) {
                    fault(begins + text.substring(place + 1), graph, place);
                }
            }
        }
    }

    /** "an OPEN LETTER, "=", one to three EDGES: a LETTER, two unlike digits (0 to 3)". */
    private static void faultAtEachPlaceOfARule() {
        String any = "ABCab";
        eachLetterAt("B=a03C21b30", false,
                new String[] {"ABC", "=", any, "0123", "123", any, "0123", "013", any, "0123", "012"});
        eachLetterAt("C=A12B01a23", false,
                new String[] {"ABC", "=", any, "0123", "023", any, "0123", "123", any, "0123", "013"});
    }

    /** "one to five EDGES (LETTERS "a", "b" alone), digits 0 to 4, unlike in each". */
    private static void faultAtEachPlaceOfAGraph() {
        String all = "01234";
        eachLetterAt("a01b12a23b34a40", true, new String[] {"ab", all, "1234", "ab", all, "0234", "ab", all, "0134", "ab", all,
                "0124", "ab", all, "0123"});
    }

    /** A rule ends behind three edges, a graph behind five: what comes then is a fault, whatever it is. */
    private static void faultBehindTheLastEdge() {
        for (char letter = 32; letter <= 126; letter++) {
            fault("A=a01b10C02" + letter, false, 11);
            fault("A=a01b10C02" + letter + "01", false, 11);
            fault("a01b10a02b21a12" + letter, true, 15);
        }
        fault("A=a01b10C02a01bb", false, 11);
        fault("A=a01b10C02", false, 11);
        fault("a01b10a02b21a12", true, 15);
    }

    /** "behind those ahead of it": what could go on has no fault, though it is not whole. */
    private static void faultOfEachBeginning() {
        String rule = "A=A02B23C31";
        String graph = "a02b23a34b41a10";
        for (int many = 0; many <= rule.length(); many++) {
            fault(rule.substring(0, many), false, many);
            fault(rule.substring(0, many), true, 0);
        }
        for (int many = 0; many <= graph.length(); many++) {
            fault(graph.substring(0, many), true, many);
            fault(graph.substring(0, many), false, 0);
        }
    }

    /** "whether all NODES are in it that have to be does not matter here". */
    private static void faultLeavesOutNodesThatHaveToBe() {
        for (String text : new String[] {"A=a02", "A=a12", "A=a23", "A=a03b31", "A=a13", "A=b23b32B23"}) {
            fault(text, false, text.length());
            c.refuses("rule() of " + text, page(text), GrownGraphs::rule, Checks.STATE);
        }
        for (String text : new String[] {"a03", "a04", "a34", "b24", "a34a34a34a34a34"}) {
            fault(text, true, text.length());
            c.refuses("graph() of " + text, page(text), GrownGraphs::graph, Checks.STATE);
        }
    }

    /** "the first letter": of several faults the one that is ahead. */
    private static void faultIsTheFirstOne() {
        fault("??", false, 0);
        fault("A?a00", false, 1);
        fault("A=a00b55", false, 4);
        fault("A=a01b55c", false, 6);
        fault("A=a01a4", false, 6);
        fault("a00b55", true, 2);
        fault("a01b55c", true, 4);
        fault("a01c55", true, 3);
    }

    /** "two unlike digits": of one edge; two edges that follow one another may share them. */
    private static void unlikeDigitsAreAskedOfOneEdgeAlone() {
        fault("A=a01a10a01", false, 11);
        fault("A=a01a01", false, 8);
        fault("a01a11", true, 5);
        fault("a01a12a21", true, 9);
        c.due("graph() of edges that are alike", Checks.graph(new GrownGraphs(), "a01a01"), 2);
    }

    // ---- rule

    private static List<String> edgesWithDigits(int edges, int digits) {
        List<String> texts = new ArrayList<>();
        texts.add("");
        for (int i = 0; i < edges; i++) {
            List<String> longer = new ArrayList<>();
            for (String text : texts) {
                for (int pair = 0; pair < digits * digits; pair++) {
                    if (pair / digits != pair % digits) {
                        longer.add(text + "ab".charAt(i % 2) + pair / digits + pair % digits);
                    }
                }
            }
            texts = longer;
        }
        return texts;
    }

    /** "NODES 0 and 1 are its ENDS, both must come in its EDGES; ... 3 is in it only if 2 is", for all choices of digits. */
    private static void rulesWithEachPairOfDigits() {
        for (int edges = 1; edges <= 3; edges++) {
            for (String text : edgesWithDigits(edges, 4)) {
                boolean is = text.contains("0") && text.contains("1") && (text.contains("2") || !text.contains("3"));
                int nodes = text.contains("3") ? 4 : text.contains("2") ? 3 : 2;
                GrownGraphs x = new GrownGraphs();
                c.due("rule() of A=" + text, Checks.rule(x, "A=" + text), is ? 0 : Checks.STATE);
                c.due("count(1) behind rule() of A=" + text, x.count(1), is ? 1 : 0);
                c.due("of(0, 1) of A=" + text, x.of(0, 1), is ? edges : Checks.UNKNOWN);
                c.due("of(0, 2) of A=" + text, x.of(0, 2), is ? nodes : Checks.UNKNOWN);
                c.due("count(0) behind rule() of A=" + text, x.count(0), is ? 0 : text.length() + 2);
            }
        }
    }

    /** "one to three EDGES": none and four are too few and too many; an edge that is cut off is none. */
    private static void rulesOfOneToThreeEdges() {
        String text = "B=C01a10b01a10";
        for (int many = 0; many <= text.length(); many++) {
            String told = text.substring(0, many);
            boolean is = many == 5 || many == 8 || many == 11;
            if (is) {
                GrownGraphs x = new GrownGraphs();
                c.due("rule() of " + told, Checks.rule(x, told), 0);
                c.due("of(0, 1) of " + told, x.of(0, 1), (many - 2) / 3);
            } else {
                c.refuses("rule() of " + told, page(told), GrownGraphs::rule, Checks.STATE);
            }
        }
        c.refuses("rule() of 16 letters", page("B=C01a10b01a10b0"), GrownGraphs::rule, Checks.STATE);
    }

    private static void rulesThatAreNone() {
        for (String text : new String[] {"@=a01", "D=a01", "a=a01", "b=a01", "A-a01", "A<a01", "A>a01", "A=`01", "A=c01", "A=@01", "A=D01",
                "A=a/1", "A=a41", "A=a0/", "A=a04", "A=a11", "A=a01=", "A=a01 ", " A=a01", "a01", "A=01a", "==a01", "AAa01"}) {
            c.refuses("rule() of " + text, page(text), GrownGraphs::rule, Checks.STATE);
        }
        for (String open : new String[] {"A", "B", "C"}) {
            for (String letter : new String[] {"A", "B", "C", "a", "b"}) {
                GrownGraphs x = new GrownGraphs();
                c.due("rule()", Checks.rule(x, open + "=" + letter + "10"), 0);
                c.due("of(0, 0)", x.of(0, 0), "ABC".indexOf(open));
                c.due("of(0, 10)", x.of(0, 10), 100 * "ABCab".indexOf(letter) + 10);
            }
        }
    }

    /** "THE PAGE is empty then". */
    private static void ruleEmptiesThePage() {
        GrownGraphs x = page("A=a01b12C20").get();
        c.due("rule()", x.rule(), 2);
        c.due("count(0)", x.count(0), 0);
        c.due("fault(false)", x.fault(false), 0);
        c.due("digest()", x.digest(), Checks.digestOf(x, ""));
        c.refuses("rule() of the page that is empty then", () -> {
            GrownGraphs y = page("A=a01").get();
            y.rule();
            return y;
        }, GrownGraphs::rule, Checks.STATE);
        c.due("the graph is as it was", x.edge(1), 421);
        c.due("count(7)", x.count(7), 1);
    }

    private static Supplier<GrownGraphs> withNine(String text) {
        return () -> {
            GrownGraphs x = Checks.withRules(NINE);
            Checks.graph(x, "a02b21");
            Checks.write(x, text);
            return x;
        };
    }

    /** "RULES have numbers, from 0 as they come (9 at most)"; "FULL: there are 9". */
    private static void nineRules() {
        GrownGraphs x = new GrownGraphs();
        for (int i = 0; i < NINE.length; i++) {
            c.due("rule " + i, Checks.rule(x, NINE[i]), i);
            c.due("count(1)", x.count(1), i + 1);
        }
        c.refuses("rule() of a tenth", withNine("C=b01"), GrownGraphs::rule, Checks.FULL);
        c.refuses("rule() of a tenth like the ninth", withNine("B=b01"), GrownGraphs::rule, Checks.FULL);
        for (int gone = 0; gone < 9; gone++) {
            GrownGraphs y = withNine("C=b01A10a01").get();
            c.due("rule()", y.rule(), Checks.FULL);
            c.due("drop(" + gone + ")", y.drop(gone), 8);
            c.due("rule() of the page that stayed", y.rule(), 8);
            c.due("of(8, 11)", y.of(8, 11), 10);
            c.due("count(1)", y.count(1), 9);
            c.due("count(0)", y.count(0), 0);
        }
    }

    private static void stateIsToldAheadOfFull() {
        for (String text : new String[] {"", "C", "C=", "C=b0", "C=b02", "C=b01b", "a01", "C=a03a31"}) {
            c.refuses("rule() of a tenth that is none: " + text, withNine(text), GrownGraphs::rule, Checks.STATE);
        }
        GrownGraphs x = withNine("a02b21").get();
        c.due("graph() is not FULL with 9 rules", x.graph(), 2);
    }

    private static void rulesMayBeAlike() {
        GrownGraphs x = new GrownGraphs();
        for (int i = 0; i < 9; i++) {
            c.due("rule() of A=a01", Checks.rule(x, "A=a01"), i);
        }
        c.due("drop(3)", x.drop(3), 8);
        c.due("light(0, 9, 1)", x.light(0, 9, 1), 0);
    }

    // ---- graph

    /** "there are all NODES up to the greatest digit (1 at least), and each that is above 1 must come in some EDGE". */
    private static void graphsWithEachPairOfDigits() {
        for (int edges = 1; edges <= 3; edges++) {
            for (String text : edgesWithDigits(edges, 5)) {
                int nodes = text.contains("4") ? 5 : text.contains("3") ? 4 : text.contains("2") ? 3 : 2;
                boolean is = true;
                for (int node = 2; node < nodes; node++) {
                    is &= text.contains("" + node);
                }
                GrownGraphs x = new GrownGraphs();
                c.due("graph() of " + text, Checks.graph(x, text), is ? edges : Checks.STATE);
                c.due("count(2) behind graph() of " + text, x.count(2), is ? edges : 0);
                c.due("count(3) behind graph() of " + text, x.count(3), is ? nodes : 0);
                c.due("count(0) behind graph() of " + text, x.count(0), is ? 0 : text.length());
                c.due("count(7) behind graph() of " + text, x.count(7), is ? 1 : 0);
            }
        }
    }

    /** "one to five EDGES": a page has no room for six, but for five and a letter. */
    private static void graphsOfOneToFiveEdges() {
        String text = "a01b12a20b01a10b";
        for (int many = 0; many <= text.length(); many++) {
            String told = text.substring(0, many);
            if (many > 0 && many % 3 == 0) {
                GrownGraphs x = page(told).get();
                c.due("graph() of " + told, x.graph(), many / 3);
                c.due("count(2) of " + told, x.count(2), many / 3);
                c.due("edge() of the last", x.edge(many / 3 - 1), new int[] {301, 412, 320, 401, 310}[many / 3 - 1]);
                c.due("edge() behind it", x.edge(many / 3), Checks.UNKNOWN);
            } else {
                c.refuses("graph() of " + told, page(told), GrownGraphs::graph, Checks.STATE);
            }
        }
    }

    private static void graphsThatAreNone() {
        for (String text : new String[] {"A01", "B01", "C01", "c01", "`01", "a/1", "a51", "a0/", "a05", "a00", "a44", "a01A10", "a01=",
                " a01", "a01 ", "A=a01", "01a", "a24", "a03", "a01a04", "a02a24", "a23a23a23a23a24a"}) {
            c.refuses("graph() of " + text, page(text), GrownGraphs::graph, Checks.STATE);
        }
        c.refuses("graph() of a new object", GrownGraphs::new, GrownGraphs::graph, Checks.STATE);
    }

    private static void graphEmptiesThePage() {
        GrownGraphs x = page("a01b12a20b01a10").get();
        c.due("graph()", x.graph(), 5);
        c.due("count(0)", x.count(0), 0);
        c.due("digest()", x.digest(), Checks.digestOf(x, ""));
        c.due("graph() of the page that is empty then", x.graph(), Checks.STATE);
        c.due("the graph is as it was", x.edge(4), 310);
        c.due("count(1)", x.count(1), 2);
        c.due("of(1, 10)", x.of(1, 10), 2);
    }

    /** "(another one is gone)": of a greater one nothing is left, neither edges nor nodes. */
    private static void graphInPlaceOfAnother() {
        GrownGraphs x = page("a02b23a34b41a10").get();
        x.graph();
        c.due("count(3)", x.count(3), 5);
        c.due("graph()", Checks.graph(x, "b10"), 1);
        c.due("count(2)", x.count(2), 1);
        c.due("count(3)", x.count(3), 2);
        c.due("edge(0)", x.edge(0), 410);
        c.due("edge(1)", x.edge(1), Checks.UNKNOWN);
        c.due("kind()", x.kind(), 15);
        x.begin(0);
        c.due("graph() in place of one that was begun", Checks.graph(x, "a23"), 1);
        c.due("count(3)", x.count(3), 4);
        c.due("count(4)", x.count(4), 0);
    }
}
