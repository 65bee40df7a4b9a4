import java.util.ArrayList;
import java.util.Arrays;
import java.util.HashSet;
import java.util.List;
import java.util.Random;
import java.util.Set;
import java.util.TreeMap;
import java.util.TreeSet;

/**
 * Made-up networks and made-up texts (always the same ones), each answer compared with one that is
 * worked out again here, in the document's own words and in another way than the program's.
 */
public final class OracleTest {
    private static int wrong = 0;
    private static String about = "";

    private static void due(String call, long got, long want) {
        if (got != want) {
            wrong++;
            if (wrong <= 40) {
                System.out.println(about + ": " + call + " answered " + got + ", due is " + want);
            }
        }
    }

    /** A network that is made anew, and brought to where it was, before it has had 512 calls. */
    private static final class Subject {
        private final String text;
        private final int[] fixed;
        private RuleNetwork x;
        private int calls;
        private boolean analysed;
        private boolean alone;

        Subject(String text, int[] fixed) {
            this.text = text;
            this.fixed = fixed;
            renew();
        }

        private void renew() {
            x = new RuleNetwork();
            leaveTraces();
            put(x, text);
            due("load", x.load(), fixed.length);
            for (int g = 0; g < fixed.length; g++) {
                if (fixed[g] != 2) {
                    due("fix", x.fix(g, fixed[g]) ? 1 : 0, 1);
                }
            }
            if (analysed) {
                x.analyse(alone);
            }
            calls = 60;
        }

        /** What came before must not matter. */
        private void leaveTraces() {
            put(x, "a,a;b,b;c,c;d,d;e,e;f,f;g,g");
            due("load before", x.load(), 7);
            due("analyse before", x.analyse(true), 128);
            due("cubes before", x.cubes(127), 1);
            due("spread before", x.spread(6), 1);
            due("fix before", x.fix(0, 1) && x.fix(6, 0) ? 1 : 0, 1);
            put(x, "z,(!q|0&1");
            due("load with a fault before", x.load(), -10);
        }

        RuleNetwork ask() {
            if (calls == 500) {
                renew();
            }
            calls++;
            return x;
        }

        int analyse(boolean how) {
            analysed = true;
            alone = how;
            return ask().analyse(how);
        }

        void fix(int g, int to) {
            analysed = false;
            due("fix", ask().fix(g, to) ? 1 : 0, 1);
            fixed[g] = to;
        }
    }

    private static void put(RuleNetwork x, String text) {
        x.wipe();
        for (int i = 0; i < text.length(); i += 8) {
            long bytes = 0;
            for (int j = Math.min(text.length(), i + 8) - 1; j >= i; j--) {
                bytes = bytes << 8 | text.charAt(j);
            }
            due("write", x.write(bytes) ? 1 : 0, 1);
        }
    }

    // ---- the fault, found by one walk over the characters with a stack of what is open

    private static int fault(String text) {
        StringBuilder open = new StringBuilder();
        String genes = "";
        String want = "rule";
        List<Integer> uses = new ArrayList<>();
        for (int i = 0; i < text.length(); i++) {
            char c = text.charAt(i);
            if (c == ' ') {
                continue;
            }
            boolean letter = c >= 'a' && c <= 'z';
            switch (want) {
                case "rule":
                    if (!letter || genes.indexOf(c) >= 0 || genes.length() == 7) {
                        return i + 1;
                    }
                    genes += c;
                    want = "comma";
                    break;
                case "comma":
                    if (c != ',') {
                        return i + 1;
                    }
                    want = "factor";
                    break;
                case "factor":
                    if (c == '!' || c == '(') {
                        if (open.length() == 12) {
                            return i + 1;
                        }
                        open.append(c);
                    } else if (letter || c == '0' || c == '1') {
                        if (letter) {
                            uses.add(i);
                        }
                        closeNots(open);
                        want = "more";
                    } else {
                        return i + 1;
                    }
                    break;
                default:
                    if (c == '&' || c == '|') {
                        want = "factor";
                    } else if (c == ')' && open.length() > 0) {
                        open.setLength(open.length() - 1);
                        closeNots(open);
                    } else if (c == ';' && open.length() == 0) {
                        want = "rule";
                    } else {
                        return i + 1;
                    }
            }
        }
        if (!want.equals("more") || open.length() > 0) {
            return text.length() + 1;
        }
        for (int i : uses) {
            if (genes.indexOf(text.charAt(i)) < 0) {
                return i + 1;
            }
        }
        return 0;
    }

    private static void closeNots(StringBuilder open) {
        while (open.length() > 0 && open.charAt(open.length() - 1) == '!') {
            open.setLength(open.length() - 1);
        }
    }

    private static String brokenText(Random random) {
        String[] seeds = {
            "a,!b&(c|0);b,a;c,!(a|!b)|1&c", "x,((!y));y,x&x|!x", "a,a;b,b;c,c;d,d;e,e;f,f;g,g",
            "a,!!(!(!(!(!(!(!!!(a&1))))))", "q,((((((((((((q))))))))))))", "a,1"
        };
        String signs = "abcxyzq01!!!(((()))),,;;&&||  ~A2";
        StringBuilder text = new StringBuilder(seeds[random.nextInt(seeds.length)]);
        int changes = random.nextInt(5);
        for (int i = 0; i < changes; i++) {
            int at = random.nextInt(text.length() + 1);
            char c = signs.charAt(random.nextInt(signs.length()));
            int kind = random.nextInt(4);
            if (kind <= 1) {
                text.insert(at, c);
            } else if (at < text.length() && kind == 2) {
                text.setCharAt(at, c);
            } else if (at < text.length()) {
                text.deleteCharAt(at);
            }
        }
        if (random.nextInt(8) == 0) {
            text.setLength(random.nextInt(text.length() + 1));
        }
        return text.toString();
    }

    private static void compareFaults(Random random) {
        int good = 0;
        for (int i = 0; i < 60000; i++) {
            String text = brokenText(random);
            about = "\"" + text + "\"";
            RuleNetwork x = new RuleNetwork();
            put(x, text);
            int at = fault(text);
            int rules = (int) text.chars().filter(c -> c == ';').count() + 1;
            due("load", x.load(), at == 0 ? rules : -at);
            due("genes", x.genes(), at == 0 ? rules : 0);
            good += at == 0 ? 1 : 0;
        }
        about = "the made-up texts";
        due("enough good and enough bad ones", good > 5000 && good < 55000 ? 1 : 0, 1);
    }

    // ---- made-up networks: a sum is written and worked out from one tree

    private interface Sum {
        boolean in(int state);
    }

    private static final class Maker {
        final Random random;
        final String names;
        final StringBuilder text = new StringBuilder();

        Maker(Random random, String names) {
            this.random = random;
            this.names = names;
        }

        void blank() {
            if (random.nextInt(20) == 0) {
                text.append(' ');
            }
        }

        Sum sum(int deep) {
            Sum all = product(deep);
            while (random.nextInt(3) == 0) {
                text.append('|');
                Sum left = all;
                Sum right = product(deep);
                all = s -> left.in(s) | right.in(s);
            }
            return all;
        }

        Sum product(int deep) {
            Sum all = factor(deep);
            while (random.nextInt(3) == 0) {
                text.append('&');
                Sum left = all;
                Sum right = factor(deep);
                all = s -> left.in(s) & right.in(s);
            }
            return all;
        }

        Sum factor(int deep) {
            blank();
            int kind = random.nextInt(10);
            if (kind < 3 && deep < 12) {
                text.append('!');
                Sum inner = factor(deep + 1);
                return s -> !inner.in(s);
            }
            if (kind < 5 && deep < 12) {
                text.append('(');
                Sum inner = sum(deep + 1);
                text.append(')');
                return inner;
            }
            if (kind == 5 && random.nextInt(3) == 0) {
                boolean one = random.nextBoolean();
                text.append(one ? '1' : '0');
                return s -> one;
            }
            int g = random.nextInt(names.length());
            text.append(names.charAt(g));
            return s -> (s >> g & 1) == 1;
        }
    }

    private static String someNames(Random random) {
        String names = "";
        int n = random.nextInt(4) == 0 ? 7 : 1 + random.nextInt(7);
        while (names.length() < n) {
            char c = (char) ('a' + random.nextInt(26));
            if (names.indexOf(c) < 0) {
                names += c;
            }
        }
        return names;
    }

    private static void compareNetwork(Random random) {
        String names = someNames(random);
        int n = names.length();
        Sum[] sums = new Sum[n];
        String text;
        do {
            Maker maker = new Maker(random, names);
            for (int g = 0; g < n; g++) {
                maker.text.append(g > 0 ? ";" : "").append(names.charAt(g)).append(',');
                sums[g] = maker.sum(0);
            }
            text = maker.text.toString();
        } while (text.length() > 240);
        about = "\"" + text + "\"";
        int[] fixed = new int[n];
        Arrays.fill(fixed, 2);
        Subject x = new Subject(text, fixed);
        for (int g = 0; g < n; g++) {
            due("gene", x.ask().gene(names.charAt(g)), g);
        }
        for (int round = 0; round < 3; round++) {
            compareRules(x, sums, fixed);
            compareAnalysis(x, values(sums, fixed), true);
            compareAnalysis(x, values(sums, fixed), false);
            int g = random.nextInt(n);
            x.fix(g, random.nextInt(3));
            due("attractor when nothing is analysed", x.ask().attractor(0), -1);
            due("size when nothing is analysed", x.ask().size(0), 0);
            about += " " + g + "=" + fixed[g];
        }
    }

    private static int[][] values(Sum[] sums, int[] fixed) {
        int[][] values = new int[sums.length][1 << sums.length];
        for (int g = 0; g < sums.length; g++) {
            for (int s = 0; s < values[g].length; s++) {
                values[g][s] = fixed[g] < 2 ? fixed[g] : sums[g].in(s) ? 1 : 0;
            }
        }
        return values;
    }

    private static void compareRules(Subject x, Sum[] sums, int[] fixed) {
        int[][] values = values(sums, fixed);
        for (int s = 0; s < values[0].length; s++) {
            int next = 0;
            for (int g = 0; g < sums.length; g++) {
                due("value " + g + ", " + s, x.ask().value(g, s), values[g][s]);
                next += values[g][s] << g;
            }
            due("next " + s, x.ask().next(s), next);
        }
        for (int g = 0; g < sums.length; g++) {
            due("spread " + g, x.ask().spread(g), spread(values[g], sums.length));
        }
    }

    private static int spread(int[] values, int n) {
        int sum = 0;
        for (int k = 0; k < n; k++) {
            Set<String> functions = new HashSet<>();
            for (int before = 0; before < 1 << k; before++) {
                StringBuilder function = new StringBuilder();
                boolean difference = false;
                for (int behind = 0; behind < 1 << (n - k); behind++) {
                    int s = before | behind << k;
                    function.append(values[s]);
                    difference |= values[s] != values[s ^ 1 << k];
                }
                if (difference) {
                    functions.add(function.toString());
                }
            }
            sum += functions.size();
        }
        return sum;
    }

    /** All states that a state leads to, found by walking. */
    private static TreeSet<Integer> walk(int from, int[][] values, boolean alone) {
        TreeSet<Integer> seen = new TreeSet<>();
        List<Integer> todo = new ArrayList<>();
        seen.add(from);
        todo.add(from);
        while (!todo.isEmpty()) {
            int s = todo.remove(todo.size() - 1);
            int together = 0;
            for (int g = 0; g < values.length; g++) {
                together += values[g][s] << g;
                int one = (s & ~(1 << g)) + (values[g][s] << g);
                if (alone && seen.add(one)) {
                    todo.add(one);
                }
            }
            if (!alone && seen.add(together)) {
                todo.add(together);
            }
        }
        return seen;
    }

    private static void compareAnalysis(Subject x, int[][] values, boolean alone) {
        int states = values[0].length;
        List<TreeSet<Integer>> walks = new ArrayList<>();
        for (int s = 0; s < states; s++) {
            walks.add(walk(s, values, alone));
        }
        TreeMap<Integer, TreeSet<Integer>> byLeast = new TreeMap<>();
        for (int s = 0; s < states; s++) {
            TreeSet<Integer> set = walks.get(s);
            if (set.stream().allMatch(t -> walks.get(t).equals(set))) {
                byLeast.put(set.first(), set);
            }
        }
        List<TreeSet<Integer>> attractors = new ArrayList<>(byLeast.values());
        due("analyse " + alone, x.analyse(alone), attractors.size());
        for (int s = 0; s < states; s++) {
            int home = -1;
            for (int k = 0; k < attractors.size(); k++) {
                home = attractors.get(k).contains(s) ? k : home;
            }
            due("attractor " + s, x.ask().attractor(s), home);
        }
        due("attractor of no state", x.ask().attractor(states), -1);
        for (int k = 0; k < attractors.size(); k++) {
            compareAttractor(x, k, attractors, walks, values.length);
        }
        due("size of none", x.ask().size(attractors.size()), 0);
        due("least of none", x.ask().least(attractors.size()), -1);
        due("cubes of none", x.ask().cubes(attractors.size()), 0);
    }

    private static void compareAttractor(Subject x, int k, List<TreeSet<Integer>> attractors,
            List<TreeSet<Integer>> walks, int n) {
        TreeSet<Integer> set = attractors.get(k);
        int basin = 0;
        int only = 0;
        for (TreeSet<Integer> walk : walks) {
            boolean here = set.stream().anyMatch(walk::contains);
            long all = attractors.stream().filter(a -> a.stream().anyMatch(walk::contains)).count();
            basin += here ? 1 : 0;
            only += here && all == 1 ? 1 : 0;
        }
        due("size " + k, x.ask().size(k), set.size());
        due("least " + k, x.ask().least(k), set.first());
        due("basin " + k, x.ask().basin(k), basin);
        due("only " + k, x.ask().only(k), only);
        List<Integer> cubes = cubes(set, n, 0);
        due("cubes " + k, x.ask().cubes(k), cubes.size());
        for (int i = 0; i < cubes.size(); i++) {
            due("cube " + k + ", " + i, x.ask().cube(k, i), cubes.get(i));
        }
        due("cube behind the last", x.ask().cube(k, cubes.size()), -1);
    }

    /** The cubes of a set of states over the genes from k on, with the states shifted so that gene k is bit 0. */
    private static List<Integer> cubes(Set<Integer> set, int n, int k) {
        List<Integer> made = new ArrayList<>();
        if (set.isEmpty()) {
            return made;
        }
        if (set.size() == 1 << (n - k)) {
            int cube = 0;
            for (int g = k; g < n; g++) {
                cube += 2 * (int) Math.pow(4, g);
            }
            made.add(cube);
            return made;
        }
        Set<Integer> zeros = new HashSet<>();
        Set<Integer> ones = new HashSet<>();
        for (int s : set) {
            (s % 2 == 0 ? zeros : ones).add(s / 2);
        }
        int weight = (int) Math.pow(4, k);
        if (zeros.equals(ones)) {
            for (int c : cubes(zeros, n, k + 1)) {
                made.add(c + 2 * weight);
            }
            return made;
        }
        made.addAll(cubes(zeros, n, k + 1));
        for (int c : cubes(ones, n, k + 1)) {
            made.add(c + weight);
        }
        return made;
    }

    public static void main(String[] args) {
        Random random = new Random(20261115L);
        compareFaults(random);
        for (int i = 0; i < 400; i++) {
            compareNetwork(random);
        }
        System.out.println(wrong == 0 ? "all answers are as worked out again" : wrong + " answers are not as due");
        if (wrong != 0) {
            System.exit(1);
        }
    }
}
