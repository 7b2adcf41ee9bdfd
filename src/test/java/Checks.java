import java.math.BigInteger;
import java.util.function.Supplier;
import java.util.function.ToIntFunction;

/** What the tests share: telling texts, and counting answers that are not as due. */
final class Checks {
    static final int NONE = -1, UNKNOWN = -1001, OUTSIDE = -1002, STATE = -1003, FULL = -1004;
    /** Numbers far off, and those that are near a right one if an int is cut or turned round. */
    static final int[] FAR_OFF = {Integer.MIN_VALUE, Integer.MIN_VALUE + 1, -65536, -256, -1, 256, 65536, 1 << 30, Integer.MAX_VALUE};
    private static final BigInteger WRAP = BigInteger.ONE.shiftLeft(64);

    private int wrong = 0;

    void due(String call, long got, long want) {
        if (got != want) {
            wrong++;
            System.out.println(call + " answered " + got + ", due is " + want);
        }
    }

    void holds(String what, boolean so) {
        if (!so) {
            wrong++;
            System.out.println("not so: " + what);
        }
    }

    void due(String call, String got, String want) {
        if (!got.equals(want)) {
            wrong++;
            System.out.println(call + " answered " + got + ", due is " + want);
        }
    }

    /**
     * The call is refused, and changes nothing: the object goes on telling what one tells that is made alike and
     * was not asked; and so does one that had told all before, and may have kept what it found.
     */
    void refuses(String call, Supplier<GrownGraphs> made, ToIntFunction<GrownGraphs> ask, int want) {
        String all = allOf(made.get());
        GrownGraphs asked = made.get();
        due(call, ask.applyAsInt(asked), want);
        due(call + " again", ask.applyAsInt(asked), want);
        due("all that is told behind " + call, allOf(asked), all);
        GrownGraphs knowing = made.get();
        allOf(knowing);
        due(call + " of one that told all", ask.applyAsInt(knowing), want);
        due("all that is told behind " + call + ", once more", allOf(knowing), all);
    }

    boolean clean() {
        return wrong == 0;
    }

    void end(String name) {
        System.out.println(name + ": " + (wrong == 0 ? "all answers are as due" : wrong + " answers are not as due"));
        if (wrong != 0) {
            System.exit(1);
        }
    }

    static void write(GrownGraphs x, String text) {
        x.blank();
        for (int i = 0; i < text.length(); i++) {
            x.letter(text.charAt(i));
        }
    }

    static int rule(GrownGraphs x, String text) {
        write(x, text);
        return x.rule();
    }

    static int graph(GrownGraphs x, String text) {
        write(x, text);
        return x.graph();
    }

    static GrownGraphs withRules(String... rules) {
        GrownGraphs x = new GrownGraphs();
        for (String rule : rules) {
            rule(x, rule);
        }
        return x;
    }

    /** All that an object tells; the letters of its page are told by the digest alone. */
    static String allOf(GrownGraphs x) {
        StringBuilder all = new StringBuilder();
        for (int what = 0; what < 8; what++) {
            all.append(x.count(what)).append(' ');
        }
        for (int rule = 0; rule < 9; rule++) {
            for (int what : new int[] {0, 1, 2, 10, 11, 12}) {
                all.append(x.of(rule, what)).append(' ');
            }
        }
        for (int place = 0; place < 12; place++) {
            all.append(x.edge(place)).append(' ');
        }
        all.append(x.kind()).append(' ');
        for (int open = 0; open < 3; open++) {
            all.append(x.fewest(open)).append(' ').append(x.kinds(open)).append(' ');
            for (int kind = 0; kind < 16; kind++) {
                all.append(x.light(open, kind, 0)).append(' ').append(x.light(open, kind, 1)).append(' ');
            }
        }
        return all.append(x.fault(false)).append(' ').append(x.fault(true)).append(' ').append(x.digest()).toString();
    }

    /** A digest of given numbers without wrapping: the greatest long is passed on the way, and taken off at the end. */
    static long wrapped(Iterable<Integer> numbers) {
        BigInteger h = BigInteger.valueOf(1709);
        for (int number : numbers) {
            h = h.multiply(BigInteger.valueOf(31)).add(BigInteger.valueOf(number));
        }
        BigInteger left = h.mod(WRAP);
        return (left.testBit(63) ? left.subtract(WRAP) : left).longValueExact();
    }

    /** The digest put together from the other calls, as promise 17 tells it; the page's letters are given. */
    static long digestOf(GrownGraphs x, String page) {
        long h = 1709;
        int[] whats = {0, 1, 2, 10, 11, 12};
        for (int rule = 0; rule < x.count(1); rule++) {
            for (int what : whats) {
                h = 31 * h + x.of(rule, what);
            }
        }
        for (int place = 0; place < x.count(2); place++) {
            h = 31 * h + x.edge(place);
        }
        h = 31 * h + x.kind();
        for (int open = 0; open < 3; open++) {
            h = 31 * h + x.fewest(open);
            h = 31 * h + x.kinds(open);
            for (int kind = 0; kind < 16; kind++) {
                h = 31 * h + x.light(open, kind, 0);
                h = 31 * h + x.light(open, kind, 1);
            }
        }
        for (int i = 0; i < page.length(); i++) {
            h = 31 * h + page.charAt(i);
        }
        for (int what = 0; what < 8; what++) {
            h = 31 * h + x.count(what);
        }
        return h;
    }
}
