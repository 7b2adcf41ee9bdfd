import java.util.ArrayDeque;
import java.util.ArrayList;
import java.util.Arrays;
import java.util.HashMap;
import java.util.List;
import java.util.Map;
import java.util.Random;

/**
 * fewest(), kinds(), light() and kind() against answers found in another way: all small graphs are grown step by
 * step, and classes are put together from real graphs, one for each class.
 * With a number as argument it tries as many grammars.
 */
public final class OracleTest {
    private static final String LETTERS = "ABCab";
    /**
     * Rules that ask for very many steps: found by trying rules at random and keeping those that ask for more. Many
     * such searches ended at just this LIGHT. Three of it do not fit an int, so sums in ints would be found out.
     */
    private static final String LONG_WAY = "A=B01B01B01 B=C01C01C01 C=b01a21a02 C=A21A20a20 C=a21A12a20 C=A23A13A01 C=b02C01a10 C=A02A10A21 C=b10A23A30";
    private static final int MOST_STATES = 6000;
    private static final Checks c = new Checks();
    private static final Random random = new Random(1709);
    private static final String[] ofKind = new String[16];
    private static int grown = 0;

    public static void main(String[] args) {
        int grammars = args.length > 0 ? Integer.parseInt(args[0]) : 400;
        findOneOfEachKind();
        int longest = compareLights(LONG_WAY.split(" "));
        c.due("the greatest LIGHT of the long way", longest, 1354875340);
        for (int i = 0; i < grammars && c.clean(); i++) {
            String[] rules = someRules();
            longest = Math.max(longest, compareLights(rules));
            compareFewest(rules);
        }
        c.holds("enough grammars were grown whole", grown * 4 >= grammars);
        System.out.println("greatest LIGHT met: " + longest + ", grammars grown whole: " + grown);
        c.end("OracleTest");
    }

    // ---- grammars

    private static String[] someRules() {
        String[] rules = new String[1 + random.nextInt(9)];
        int opens = 1 + random.nextInt(3);
        int doneShare = 1 + random.nextInt(4);
        for (int i = 0; i < rules.length; i++) {
            do {
                rules[i] = someText(opens, doneShare);
            } while (!isRule(rules[i]));
        }
        return rules;
    }

    private static String someText(int opens, int doneShare) {
        StringBuilder text = new StringBuilder();
        text.append(LETTERS.charAt(random.nextInt(opens))).append('=');
        int edges = 1 + random.nextInt(3);
        int nodes = 2 + random.nextInt(3);
        for (int i = 0; i < edges; i++) {
            boolean done = random.nextInt(5) < doneShare;
            text.append(LETTERS.charAt(done ? 3 + random.nextInt(2) : random.nextInt(opens)));
            int from = random.nextInt(nodes);
            text.append(from).append((from + 1 + random.nextInt(nodes - 1)) % nodes);
        }
        return text.toString();
    }

    private static boolean isRule(String text) {
        boolean both = text.indexOf('0') > 0 && text.indexOf('1') > 0;
        return both && (text.indexOf('3') < 0 || text.indexOf('2') > 0);
    }

    // ---- classes of whole graphs, by ways that the class does not use

    private static int kindOf(String graph) {
        int nodes = nodesOf(graph);
        boolean[][] way = new boolean[nodes][nodes];
        int[][] parity = new int[nodes][nodes];
        for (int i = 0; i < nodes; i++) {
            way[i][i] = true;
            parity[i][i] = 1;
        }
        for (int i = 0; i < graph.length(); i += 3) {
            int from = graph.charAt(i + 1) - '0';
            int to = graph.charAt(i + 2) - '0';
            way[from][to] = true;
            if (graph.charAt(i) == 'b') {
                way[to][from] = true;
            } else {
                parity[from][to] |= 2;
                parity[to][from] |= 2;
            }
        }
        for (int rounds = 0; rounds < 3; rounds++) {
            for (int k = 0; k < nodes; k++) {
                for (int i = 0; i < nodes; i++) {
                    for (int j = 0; j < nodes; j++) {
                        way[i][j] |= way[i][k] && way[k][j];
                        parity[i][j] |= join(parity[i][k], parity[k][j]);
                    }
                }
            }
        }
        boolean odd = false;
        for (int i = 0; i < nodes; i++) {
            odd |= parity[i][i] == 3;
        }
        int kind = (way[0][1] ? 1 : 0) | (way[1][0] ? 2 : 0);
        return odd ? kind : kind | (parity[0][1] != 2 ? 4 : 0) | (parity[0][1] != 1 ? 8 : 0);
    }

    /** Bit 1: an even way of "a" edges is known, bit 2: an odd one. */
    private static int join(int one, int two) {
        int even = (one & two & 1) | (one >> 1 & two >> 1 & 1);
        int odd = (one & two >> 1 & 1) | (one >> 1 & two & 1);
        return even | odd << 1;
    }

    private static int nodesOf(String graph) {
        int most = '1';
        for (int i = 0; i < graph.length(); i += 3) {
            most = Math.max(most, Math.max(graph.charAt(i + 1), graph.charAt(i + 2)));
        }
        return most - '0' + 1;
    }

    private static void findOneOfEachKind() {
        int missing = 16;
        for (int tries = 0; missing > 0 && tries < 1000000; tries++) {
            StringBuilder text = new StringBuilder();
            int edges = 1 + random.nextInt(5);
            for (int i = 0; i < edges; i++) {
                int from = random.nextInt(5);
                text.append(random.nextBoolean() ? 'a' : 'b').append(from).append((from + 1 + random.nextInt(4)) % 5);
            }
            String graph = text.toString();
            GrownGraphs x = new GrownGraphs();
            if (Checks.graph(x, graph) < 0) {
                continue;
            }
            int kind = kindOf(graph);
            c.due("kind() of " + graph, x.kind(), kind);
            if (ofKind[kind] == null) {
                ofKind[kind] = graph;
                missing--;
            }
        }
        c.due("classes without a graph", missing, 0);
    }

    // ---- LIGHT and FIRST

    private static int compareLights(String[] rules) {
        long[][] best = new long[3][16];
        for (long[] row : best) {
            Arrays.fill(row, Long.MAX_VALUE);
        }
        Map<String, Integer> kindOfBody = new HashMap<>();
        boolean better = true;
        while (better) {
            better = false;
            for (String rule : rules) {
                long[] now = byRule(rule, best, kindOfBody);
                for (int kind = 0; kind < 16; kind++) {
                    if (now[kind] < best[rule.charAt(0) - 'A'][kind]) {
                        best[rule.charAt(0) - 'A'][kind] = now[kind];
                        better = true;
                    }
                }
            }
        }
        int[][] first = new int[3][16];
        for (int[] row : first) {
            Arrays.fill(row, -1);
        }
        for (int number = rules.length - 1; number >= 0; number--) {
            long[] now = byRule(rules[number], best, kindOfBody);
            int open = rules[number].charAt(0) - 'A';
            for (int kind = 0; kind < 16; kind++) {
                if (now[kind] < Long.MAX_VALUE && now[kind] == best[open][kind]) {
                    first[open][kind] = number;
                }
            }
        }
        return dueLights(rules, best, first);
    }

    private static int dueLights(String[] rules, long[][] best, int[][] first) {
        GrownGraphs x = Checks.withRules(rules);
        int longest = 0;
        for (int open = 0; open < 3; open++) {
            int bits = 0;
            for (int kind = 0; kind < 16; kind++) {
                boolean some = best[open][kind] < Long.MAX_VALUE;
                bits |= some ? 1 << kind : 0;
                String call = "(" + open + ", " + kind + ") by " + String.join(" ", rules);
                c.due("light" + call, x.light(open, kind, 0), some ? best[open][kind] : -1);
                c.due("first" + call, x.light(open, kind, 1), first[open][kind]);
                longest = some ? (int) Math.max(longest, best[open][kind]) : longest;
            }
            c.due("kinds(" + open + ") by " + String.join(" ", rules), x.kinds(open), bits);
        }
        return longest;
    }

    /** How few steps lead to each class if the rule comes first. */
    private static long[] byRule(String rule, long[][] best, Map<String, Integer> kindOfBody) {
        long[] now = new long[16];
        Arrays.fill(now, Long.MAX_VALUE);
        int edges = (rule.length() - 2) / 3;
        int[] kinds = new int[edges];
        for (int code = 0; code < 1 << 4 * edges; code++) {
            long steps = 1;
            for (int i = 0; i < edges && steps < Long.MAX_VALUE; i++) {
                kinds[i] = code >> 4 * i & 15;
                long more = stepsOf(rule.charAt(2 + 3 * i), kinds[i], best);
                steps = more == Long.MAX_VALUE ? more : steps + more;
            }
            if (steps < Long.MAX_VALUE) {
                String body = rule.substring(2) + code;
                int kind = kindOfBody.computeIfAbsent(body, b -> kindOf(withGraphs(rule, kinds)));
                now[kind] = Math.min(now[kind], steps);
            }
        }
        return now;
    }

    private static long stepsOf(char letter, int kind, long[][] best) {
        if (letter >= 'a') {
            return kind == (letter == 'a' ? 9 : 15) ? 0 : Long.MAX_VALUE;
        }
        return best[letter - 'A'][kind];
    }

    /** The rule's body with each edge replaced by a real graph of the class; nodes beyond 9 are signs behind '9'. */
    private static String withGraphs(String rule, int[] kinds) {
        StringBuilder text = new StringBuilder();
        int next = nodesOf(rule.substring(2));
        for (int i = 0; i < kinds.length; i++) {
            String part = ofKind[kinds[i]];
            char from = rule.charAt(3 + 3 * i);
            char to = rule.charAt(4 + 3 * i);
            for (int j = 0; j < part.length(); j++) {
                char sign = part.charAt(j);
                boolean inner = sign >= '2' && sign <= '4';
                text.append(sign == '0' ? from : sign == '1' ? to : inner ? (char) (sign - 2 + next) : sign);
            }
            next += nodesOf(part) - 2;
        }
        return text.toString();
    }

    // ---- FEWEST

    private static void compareFewest(String[] rules) {
        List<Map<String, Integer>> maps = new ArrayList<>();
        List<String> asked = new ArrayList<>();
        for (int open = 0; open < 3; open++) {
            Map<String, Integer> map = growAll(rules, open);
            if (map == null) {
                return;
            }
            maps.add(map);
            for (String graph : map.keySet()) {
                if (isDone(graph)) {
                    asked.add(graph);
                }
            }
        }
        grown++;
        asked.sort(null);
        GrownGraphs x = null;
        for (int i = 0; i < 60; i++) {
            x = i % 12 == 0 ? Checks.withRules(rules) : x;
            String graph = asked.isEmpty() || i % 6 == 0 ? someGraph() : asked.get(random.nextInt(asked.size()));
            graph = i % 6 == 1 ? turned(graph) : graph;
            dueFewest(x, graph, maps, rules);
        }
    }

    private static void dueFewest(GrownGraphs x, String graph, List<Map<String, Integer>> maps, String[] rules) {
        String told = shuffled(graph);
        c.due("graph() of " + told, Checks.graph(x, told), told.length() / 3);
        int kind = kindOf(told);
        c.due("kind() of " + told, x.kind(), kind);
        for (int open = 0; open < 3; open++) {
            int want = maps.get(open).getOrDefault(leastForm(graph), -1);
            c.due("fewest(" + open + ") of " + told + " by " + String.join(" ", rules), x.fewest(open), want);
            if (want > 0) {
                int light = x.light(open, kind, 0);
                c.holds("light(" + open + ", " + kind + ") is at most fewest of " + told, light > 0 && light <= want);
            }
        }
    }

    /** All graphs with up to five edges and nodes that grow from the letter, with their fewest steps; null: too many. */
    private static Map<String, Integer> growAll(String[] rules, int open) {
        Map<String, Integer> steps = new HashMap<>();
        ArrayDeque<String> queue = new ArrayDeque<>();
        String start = LETTERS.charAt(open) + "01";
        steps.put(start, 0);
        queue.add(start);
        while (!queue.isEmpty()) {
            String graph = queue.remove();
            for (int i = 0; i < graph.length(); i += 3) {
                for (String rule : rules) {
                    String next = rule.charAt(0) == graph.charAt(i) ? grow(graph, i, rule) : null;
                    if (next != null && !steps.containsKey(next)) {
                        steps.put(next, steps.get(graph) + 1);
                        queue.add(next);
                    }
                }
            }
            if (steps.size() > MOST_STATES) {
                return null;
            }
        }
        return steps;
    }

    private static String grow(String graph, int at, String rule) {
        int nodes = nodesOf(graph);
        StringBuilder text = new StringBuilder(graph.substring(0, at)).append(graph.substring(at + 3));
        for (int i = 2; i < rule.length(); i += 3) {
            text.append(rule.charAt(i));
            for (int j = i + 1; j <= i + 2; j++) {
                char node = rule.charAt(j);
                text.append(node == '0' ? graph.charAt(at + 1) : node == '1' ? graph.charAt(at + 2) : (char) (node - 2 + nodes));
            }
        }
        String next = text.toString();
        return next.length() > 15 || nodesOf(next) > 5 ? null : leastForm(next);
    }

    private static boolean isDone(String graph) {
        return graph.indexOf('A') < 0 && graph.indexOf('B') < 0 && graph.indexOf('C') < 0;
    }

    private static final String[] ORDERS = {"234", "243", "324", "342", "423", "432"};

    /** The same text for all graphs that are alike. */
    private static String leastForm(String graph) {
        String least = null;
        int nodes = nodesOf(graph);
        for (String order : ORDERS) {
            boolean keeps = nodes == 5 || order.charAt(2) == '4' && (nodes == 4 || order.charAt(1) == '3');
            if (keeps) {
                String form = sorted(renamed(graph, order));
                least = least == null || form.compareTo(least) < 0 ? form : least;
            }
        }
        return least;
    }

    private static String renamed(String graph, String order) {
        StringBuilder text = new StringBuilder();
        for (int i = 0; i < graph.length(); i++) {
            char sign = graph.charAt(i);
            text.append(sign >= '2' && sign <= '4' ? order.charAt(sign - '2') : sign);
        }
        return text.toString();
    }

    private static List<String> edgesOf(String graph) {
        List<String> edges = new ArrayList<>();
        for (int i = 0; i < graph.length(); i += 3) {
            edges.add(graph.substring(i, i + 3));
        }
        return edges;
    }

    private static String sorted(String graph) {
        List<String> edges = edgesOf(graph);
        edges.sort(null);
        return String.join("", edges);
    }

    private static String shuffled(String graph) {
        List<String> edges = edgesOf(graph);
        java.util.Collections.shuffle(edges, random);
        int nodes = nodesOf(graph);
        String order = nodes == 5 ? ORDERS[random.nextInt(6)] : nodes == 4 && random.nextBoolean() ? "324" : "234";
        return renamed(String.join("", edges), order);
    }

    /** Like the graph, but for one edge that goes the other way. */
    private static String turned(String graph) {
        int at = 3 * random.nextInt(graph.length() / 3);
        return graph.substring(0, at + 1) + graph.charAt(at + 2) + graph.charAt(at + 1) + graph.substring(at + 3);
    }

    private static String someGraph() {
        return ofKind[random.nextInt(16)];
    }
}
