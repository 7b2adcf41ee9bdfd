/** What the tests share: telling texts, and counting answers that are not as due. */
final class Checks {
    private int wrong = 0;

    void due(String call, long got, long want) {
        if (got != want) {
            wrong++;
            System.out.println(call + " answered " + got + ", due is " + want);
        }
    }

    void holds(String what, boolean so) {
        if (!so) {
            wrong++;
            System.out.println("not so: " + what);
        }
    }

    boolean clean() {
        return wrong == 0;
    }

    void end(String name) {
        System.out.println(name + ": " + (wrong == 0 ? "all answers are as due" : wrong + " answers are not as due"));
        if (wrong != 0) {
            System.exit(1);
        }
    }

    static void write(GrownGraphs x, String text) {
        x.blank();
        for (int i = 0; i < text.length(); i++) {
            x.letter(text.charAt(i));
        }
    }

    static int rule(GrownGraphs x, String text) {
        write(x, text);
        return x.rule();
    }

    static int graph(GrownGraphs x, String text) {
        write(x, text);
        return x.graph();
    }

    static GrownGraphs withRules(String... rules) {
        GrownGraphs x = new GrownGraphs();
        for (String rule : rules) {
            rule(x, rule);
        }
        return x;
    }

    /** The digest put together from the other calls, as promise 17 tells it; the page's letters are given. */
    static long digestOf(GrownGraphs x, String page) {
        long h = 1709;
        int[] whats = {0, 1, 2, 10, 11, 12};
        for (int rule = 0; rule < x.count(1); rule++) {
            for (int what : whats) {
                h = 31 * h + x.of(rule, what);
            }
        }
        for (int place = 0; place < x.count(2); place++) {
            h = 31 * h + x.edge(place);
        }
        h = 31 * h + x.kind();
        for (int open = 0; open < 3; open++) {
            h = 31 * h + x.fewest(open);
            h = 31 * h + x.kinds(open);
            for (int kind = 0; kind < 16; kind++) {
                h = 31 * h + x.light(open, kind, 0);
                h = 31 * h + x.light(open, kind, 1);
            }
        }
        for (int i = 0; i < page.length(); i++) {
            h = 31 * h + page.charAt(i);
        }
        for (int what = 0; what < 8; what++) {
            h = 31 * h + x.count(what);
        }
        return h;
    }
}
