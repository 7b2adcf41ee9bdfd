import java.util.ArrayList;
import java.util.List;
import java.util.Random;
import java.util.regex.Matcher;
import java.util.regex.Pattern;

/**
 * Long runs of calls, many of them wrong ones, against a model that holds all as texts; a refused call must leave
 * the digest as it was. What takes a search (fewest, kinds, light) is OracleTest's. The document leaves free what
 * comes behind an object's 512th call; the class has no such limit, and this test asks more of it.
 */
public final class WildCallsTest {
    private static final int UNKNOWN = -1001, OUTSIDE = -1002, STATE = -1003, FULL = -1004;
    private static final int RUNS = 300;
    private static final int CALLS = 250;
    private static final String PAIR = "(?:0[1-4]|1[02-4]|2[013-4]|3[0-24]|4[0-3])";
    private static final Pattern GRAPH = Pattern.compile("(?:[ab]" + PAIR + "){1,5}");
    private static final Pattern RULE = Pattern.compile("[ABC]=(?:[abABC](?:0[123]|1[023]|2[013]|3[012])){1,3}");
    private static final Checks c = new Checks();
    private static final Random random = new Random(17);

    private final GrownGraphs x = new GrownGraphs();
    private final List<String> rules = new ArrayList<>();
    private String page = "";
    private List<int[]> edges = new ArrayList<>();
    private int nodes = 0;
    private int since = 0;
    private int steps = 0;
    private int told = 0;

    public static void main(String[] args) {
        for (int run = 0; run < RUNS && c.clean(); run++) {
            WildCallsTest test = new WildCallsTest();
            for (int i = 0; i < CALLS && c.clean(); i += 2) {
                test.someCall();
                test.dueState();
            }
        }
        c.end("WildCallsTest");
    }

    private void someCall() {
        int which = random.nextInt(24);
        if (which < 6) {
            tellText();
        } else if (which < 14) {
            step();
        } else if (which < 16) {
            begin();
        } else if (which < 17) {
            drop();
        } else if (which < 19) {
            letter(random.nextInt(4) == 0 ? wild() : "ABCab0123456=D ~".charAt(random.nextInt(16)));
        } else if (which < 21) {
            rule();
        } else if (which < 22) {
            graph();
        } else if (which < 23) {
            c.due("blank() of " + page, x.blank(), page.length());
            page = "";
        } else {
            askWild();
        }
    }

    private static int wild() {
        int[] some = {-1, 31, 32, 126, 127, Integer.MIN_VALUE, Integer.MAX_VALUE, 3, 9, 12, 16, 128, 65601};
        return some[random.nextInt(some.length)];
    }

    private static int near(int size) {
        return random.nextInt(12) == 0 ? wild() : random.nextInt(size + 1);
    }

    /** Mostly what can be read, at times with one letter that is wrong. */
    private void tellText() {
        StringBuilder text = new StringBuilder();
        boolean graph = random.nextInt(4) == 0;
        text.append(graph ? "" : "ABC".charAt(random.nextInt(3)) + "=");
        int most = 2 + random.nextInt(graph ? 4 : 3);
        int many = 1 + random.nextInt(graph ? 5 : 3);
        for (int i = 0; i < many; i++) {
            int from = random.nextInt(most);
            text.append((graph ? "ab" : "ABCab").charAt(random.nextInt(graph ? 2 : 5)));
            text.append(from).append((from + 1 + random.nextInt(most - 1)) % most);
        }
        if (random.nextInt(5) == 0) {
            text.setCharAt(random.nextInt(text.length()), "ABCab0123456=D ~".charAt(random.nextInt(16)));
        }
        Checks.write(x, text.toString());
        page = text.toString();
        if (graph) {
            graph();
        } else {
            rule();
        }
    }

    private void letter(int code) {
        int want = code < 32 || code > 126 ? OUTSIDE : page.length() == 16 ? FULL : page.length() + 1;
        c.due("letter(" + code + ")", x.letter(code), want);
        page = want < 0 ? page : page + (char) code;
    }

    private void rule() {
        String digits = page.replaceAll("[^0-9]", "");
        boolean is = RULE.matcher(page).matches() && digits.contains("0") && digits.contains("1")
                && (digits.contains("2") || !digits.contains("3"));
        int want = !is ? STATE : rules.size() == 9 ? FULL : rules.size();
        long before = x.digest();
        c.due("rule() of " + page, x.rule(), want);
        if (want >= 0) {
            rules.add(page);
            page = "";
        } else {
            c.due("digest() behind a refused rule()", x.digest(), before);
        }
    }

    private void graph() {
        int most = 1;
        boolean is = GRAPH.matcher(page).matches();
        for (int node = 2; node <= 4; node++) {
            most = page.indexOf('0' + node) >= 0 ? node : most;
        }
        for (int node = 2; node <= most; node++) {
            is &= page.indexOf('0' + node) >= 0;
        }
        long before = x.digest();
        c.due("graph() of " + page, x.graph(), is ? page.length() / 3 : STATE);
        if (!is) {
            c.due("digest() behind a refused graph()", x.digest(), before);
            return;
        }
        edges = edgesOf(page);
        nodes = most + 1;
        page = "";
        since = 0;
        told++;
    }

    private static List<int[]> edgesOf(String text) {
        List<int[]> found = new ArrayList<>();
        for (int i = 0; i < text.length(); i += 3) {
            found.add(new int[] {"ABCab".indexOf(text.charAt(i)), text.charAt(i + 1) - '0', text.charAt(i + 2) - '0'});
        }
        return found;
    }

    private void begin() {
        int open = near(3);
        boolean is = open >= 0 && open < 3;
        c.due("begin(" + open + ")", x.begin(open), is ? 1 : UNKNOWN);
        if (is) {
            edges = new ArrayList<>();
            edges.add(new int[] {open, 0, 1});
            nodes = 2;
            since = 0;
            told++;
        }
    }

    private void drop() {
        int rule = near(rules.size());
        boolean is = rule >= 0 && rule < rules.size();
        if (is) {
            rules.remove(rule);
        }
        c.due("drop(" + rule + ")", x.drop(rule), is ? rules.size() : UNKNOWN);
    }

    private void step() {
        int place = near(edges.size());
        int rule = near(rules.size());
        long before = x.digest();
        int want = place < 0 || place >= edges.size() || rule < 0 || rule >= rules.size() ? UNKNOWN : grow(place, rules.get(rule));
        c.due("step(" + place + ", " + rule + ")", x.step(place, rule), want);
        if (want < 0) {
            c.due("digest() behind a refused step()", x.digest(), before);
        }
    }

    private int grow(int place, String rule) {
        int[] old = edges.get(place);
        if (old[0] != rule.charAt(0) - 'A') {
            return STATE;
        }
        List<int[]> next = new ArrayList<>(edges.subList(0, place));
        int most = nodes;
        for (int[] edge : edgesOf(rule.substring(2))) {
            int[] come = {edge[0], 0, 0};
            for (int i = 1; i <= 2; i++) {
                come[i] = edge[i] < 2 ? old[edge[i] + 1] : nodes - 2 + edge[i];
                most = Math.max(most, come[i] + 1);
            }
            next.add(come);
        }
        next.addAll(edges.subList(place + 1, edges.size()));
        if (next.size() > 12 || most > 9) {
            return FULL;
        }
        edges = next;
        nodes = most;
        since++;
        steps++;
        return edges.size();
    }

    private void askWild() {
        int open = near(3);
        boolean unknown = open < 0 || open > 2;
        int kind = near(16);
        int what = near(2);
        boolean outside = kind < 0 || kind > 15 || what < 0 || what > 1;
        if (unknown || outside) {
            c.due("light(" + open + ", " + kind + ", " + what + ")", x.light(open, kind, what), unknown ? UNKNOWN : OUTSIDE);
        }
        if (unknown) {
            c.due("fewest(" + open + ")", x.fewest(open), UNKNOWN);
            c.due("kinds(" + open + ")", x.kinds(open), UNKNOWN);
        }
        int rule = near(rules.size());
        int of = near(14);
        c.due("of(" + rule + ", " + of + ")", x.of(rule, of), ofRule(rule, of));
    }

    private int ofRule(int rule, int what) {
        if (rule < 0 || rule >= rules.size()) {
            return UNKNOWN;
        }
        String text = rules.get(rule);
        List<int[]> body = edgesOf(text.substring(2));
        if (what == 0) {
            return text.charAt(0) - 'A';
        }
        if (what == 1) {
            return body.size();
        }
        if (what == 2) {
            return text.indexOf('3') > 0 ? 4 : text.indexOf('2') > 0 ? 3 : 2;
        }
        return what < 10 || what > 12 ? OUTSIDE : what - 10 < body.size() ? toldAs(body.get(what - 10)) : -1;
    }

    private static int toldAs(int[] edge) {
        return 100 * edge[0] + 10 * edge[1] + edge[2];
    }

    private void dueState() {
        int open = 0;
        for (int i = 0; i < edges.size(); i++) {
            c.due("edge(" + i + ")", x.edge(i), toldAs(edges.get(i)));
            open += edges.get(i)[0] < 3 ? 1 : 0;
        }
        c.due("the edge behind the last", x.edge(edges.size()), UNKNOWN);
        int[] counts = {page.length(), rules.size(), edges.size(), nodes, open, since, steps, told};
        for (int what = 0; what < 8; what++) {
            c.due("count(" + what + ")", x.count(what), counts[what]);
        }
        boolean done = !edges.isEmpty() && open == 0;
        c.holds("kind() is STATE just where it must", x.kind() == STATE == !done);
        c.holds("fewest() is STATE just where it must",
                x.fewest(0) == STATE == (!done || edges.size() > 5 || nodes > 5));
        c.due("fault(false) of " + page, x.fault(false), faultOf(RULE));
        c.due("fault(true) of " + page, x.fault(true), faultOf(GRAPH));
        c.due("digest()", x.digest(), Checks.digestOf(x, page));
    }

    private int faultOf(Pattern pattern) {
        for (int i = 0; i < page.length(); i++) {
            Matcher matcher = pattern.matcher(page.substring(0, i + 1));
            if (!matcher.matches() && !matcher.hitEnd()) {
                return i;
            }
        }
        return page.length();
    }
}
