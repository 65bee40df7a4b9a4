import java.util.Arrays;

/**
 * Each sentence of the document that names a boundary case has a method of its own here, which bears
 * the sentence's words and fails if they do not hold. Every object has at most 512 calls.
 */
public final class BoundaryTest {
    private static final int NONE = -1;
    private static final int[] FAR = {
        Integer.MIN_VALUE, Integer.MIN_VALUE + 1, -65536, -256, -129, -128, -64, -32, -7, -2, -1,
        128, 129, 255, 256, 65536, 1 << 30, Integer.MAX_VALUE - 1, Integer.MAX_VALUE
    };
    private static final String LETTERS = "abcdefghijklmnopqrstuvwxyz";
    private static final String FACTOR_BEGINS = LETTERS + "01!(";

    private static int wrong = 0;
    private static String sentence = "";

    private static void due(String call, long got, long want) {
        if (got != want) {
            wrong++;
            System.out.println("\"" + sentence + "\": " + call + " answered " + got + ", due is " + want);
        }
    }

    private static void due(String call, boolean got, boolean want) {
        due(call, got ? 1L : 0L, want ? 1L : 0L);
    }

    private static long packed(String text) {
        long bytes = 0;
        for (int i = text.length() - 1; i >= 0; i--) {
            bytes = bytes << 8 | text.charAt(i);
        }
        return bytes;
    }

    private static void add(RuleNetwork x, String text) {
        for (int i = 0; i < text.length(); i += 8) {
            String part = text.substring(i, Math.min(text.length(), i + 8));
            due("write of \"" + part + "\"", x.write(packed(part)), true);
        }
    }

    private static RuleNetwork written(String text) {
        RuleNetwork x = new RuleNetwork();
        add(x, text);
        return x;
    }

    private static void dueGenes(String text, int genes) {
        due("load of \"" + text + "\"", written(text).load(), genes);
    }

    private static void dueFault(String text, int place) {
        dueGenes(text, -place);
    }

    private static RuleNetwork loaded(String text) {
        RuleNetwork x = written(text);
        int rules = text.split(";").length;
        due("load of \"" + text + "\"", x.load(), rules);
        return x;
    }

    /** A network of the genes a, b, .., each of which keeps what it has. */
    private static String keepers(int genes) {
        StringBuilder text = new StringBuilder();
        for (int g = 0; g < genes; g++) {
            text.append(g > 0 ? ";" : "").append(LETTERS.charAt(g)).append(',').append(LETTERS.charAt(g));
        }
        return text.toString();
    }

    /** A network of the genes a, b, .., each of which turns itself round. */
    private static String turners(int genes) {
        return keepers(genes).replace(",", ",!");
    }

    private static void dueNothingAnalysed(String when, RuleNetwork x) {
        for (int k = -1; k <= 2; k++) {
            due(when + ", size(" + k + ")", x.size(k), 0);
            due(when + ", least(" + k + ")", x.least(k), NONE);
            due(when + ", attractor(" + k + ")", x.attractor(k), NONE);
            due(when + ", basin(" + k + ")", x.basin(k), 0);
            due(when + ", only(" + k + ")", x.only(k), 0);
            due(when + ", cubes(" + k + ")", x.cubes(k), 0);
            due(when + ", cube(" + k + ", 0)", x.cube(k, 0), NONE);
        }
    }

    // ---- what it is

    private static void lastOfItsCalls() {
        sentence = "An object is used for at most 512 calls after it has been made";
        String full = "a,!g;b,a;c,b;d,c;e,d;f,e;g,f";
        RuleNetwork x = new RuleNetwork();
        int calls = 0;
        while (calls + 12 <= 511) {
            x.wipe();
            add(x, full);
            due("load after " + calls, x.load(), 7);
            due("fix after " + calls, x.fix(0, 2), true);
            due("analyse after " + calls, x.analyse(calls % 24 == 0), calls % 24 == 0 ? 1 : 10);
            due("cubes after " + calls, x.cubes(0), 12);
            due("spread after " + calls, x.spread(0), 1);
            due("basin after " + calls, x.basin(0), calls % 24 == 0 ? 128 : 14);
            due("next after " + calls, x.next(0), 1);
            calls += 12;
        }
        for (; calls < 511; calls++) {
            due("load after " + calls, x.load(), 7);
        }
        due("the 512th call", x.analyse(false), 10);
        RuleNetwork y = written("a,1");
        for (int i = 1; i < 511; i++) {
            due("load after " + i, y.load(), 1);
        }
        due("write after 511", y.write(packed("?")), true);
        RuleNetwork z = written("a,1");
        for (int i = 1; i < 511; i++) {
            due("write of nothing after " + i, z.write(0L), true);
        }
        due("load after 511", z.load(), 1);
    }

    // ---- terms: the text and its places

    private static void mostCharacters() {
        sentence = "THE TEXT has at most 240 characters";
        String long240 = "a,0" + "|a".repeat(118) + " ";
        due("its length", long240.length(), 240);
        RuleNetwork x = written(long240);
        due("write of one more", x.write(packed(" ")), false);
        due("load of 240", x.load(), 1);
        due("value with the last in it", x.value(0, 1), 1);
        String last = " ".repeat(237) + "z,1";
        due("load with a rule in the last places", written(last).load(), 1);
        due("value of 1 at place 240", loaded(last).value(0, 0), 1);
        dueFault(" ".repeat(239) + "?", 240);
        dueFault(" ".repeat(240), 241);
        RuleNetwork y = loaded("a,!!!!!!!!!!!!a" + "&!!!!!!!!!!!!a".repeat(16) + " ");
        due("value of many !", y.value(0, 1), 1);
        due("value of many !", y.value(0, 0), 0);
    }

    private static void leastAndGreatestCharacter() {
        sentence = "THE TEXT has .. characters, 32 .. 126";
        due("write of 31", new RuleNetwork().write(31L), false);
        due("write of 32", new RuleNetwork().write(32L), true);
        due("write of 126", new RuleNetwork().write(126L), true);
        due("write of 127", new RuleNetwork().write(127L), false);
        for (char c = 32; c <= 126; c++) {
            due("write of " + (int) c, new RuleNetwork().write(c), true);
        }
    }

    private static void placesBeginWith1() {
        sentence = "Its places are 1, 2, ..; blanks count as places";
        dueFault("?", 1);
        dueFault("a?", 2);
        dueFault(" ?", 2);
        dueFault("  a  ?", 6);
        dueFault(" a , ? ", 6);
        dueFault("a,1 ; b , ( z ) ", 13);
        for (int blanks = 0; blanks < 240; blanks++) {
            dueFault(" ".repeat(blanks) + "?", blanks + 1);
        }
    }

    private static void blanksMeanNothing() {
        sentence = "blanks .. may stand anywhere, and mean nothing";
        String text = "a,!(b|0)&1;b,!!a|(a&b)";
        int[] next = {1, 3, 0, 2};
        for (int at = 0; at <= text.length(); at++) {
            for (int blanks = 1; blanks <= 9; blanks += 4) {
                dueNexts(text.substring(0, at) + " ".repeat(blanks) + text.substring(at), next);
            }
        }
        dueNexts(" " + text.replaceAll("(.)", "$1  "), next);
        dueFault("a,1 1", 5);
        dueFault("a b,1", 3);
    }

    private static void dueNexts(String text, int[] next) {
        RuleNetwork x = loaded(text);
        for (int s = 0; s < next.length; s++) {
            due("next(" + s + ") of \"" + text + "\"", x.next(s), next[s]);
        }
        due("next(" + next.length + ") of \"" + text + "\"", x.next(next.length), NONE);
    }

    // ---- terms: the faults

    private static void nameIsALetter() {
        sentence = "A name is a letter a .. z.";
        for (char c = 33; c <= 126; c++) {
            if (c >= 'a' && c <= 'z') {
                dueGenes(c + ",1", 1);
                dueGenes(c + "," + c, 1);
                due("gene(" + c + ")", loaded(c + ",1").gene(c), 0);
            } else {
                dueFault(c + ",1", 1);
                if (FACTOR_BEGINS.indexOf(c) < 0) {
                    dueFault("a," + c, 3);
                }
            }
        }
        dueFault("aa,1", 2);
        dueFault("a,aa", 4);
    }

    private static void genesInTheirOrder() {
        sentence = "The GENES 0, 1, .. are the names in front of the rules' commas, in their order.";
        String names = "zmaybeq";
        for (int n = 1; n <= 7; n++) {
            StringBuilder text = new StringBuilder();
            for (int g = 0; g < n; g++) {
                text.append(g > 0 ? ";" : "").append(names.charAt(g)).append(',').append(names.charAt(n - 1 - g));
            }
            RuleNetwork x = loaded(text.toString());
            for (int g = 0; g < 7; g++) {
                due("gene " + names.charAt(g) + " of " + text, x.gene(names.charAt(g)), g < n ? g : NONE);
            }
            due("next of " + text, x.next(1), 1 << (n - 1));
        }
    }

    /** What has been read, and all that may come then; everything else is a fault there. */
    private static void whatCannotGoOn() {
        sentence = "There is a FAULT at the first place .. where what stands cannot go on";
        String behindFactor = "&|;";
        String behindFactorInside = "&|)";
        dueGoesOn("", LETTERS);
        dueGoesOn("a", ",");
        dueGoesOn("a,", FACTOR_BEGINS);
        dueGoesOn("a,a", behindFactor);
        dueGoesOn("a,z", behindFactor);
        dueGoesOn("a,0", behindFactor);
        dueGoesOn("a,1", behindFactor);
        dueGoesOn("a,!a", behindFactor);
        dueGoesOn("a,!!a", behindFactor);
        dueGoesOn("a,(a)", behindFactor);
        dueGoesOn("a,!(a)", behindFactor);
        dueGoesOn("a,a&a", behindFactor);
        dueGoesOn("a,a|a", behindFactor);
        dueGoesOn("a,!", FACTOR_BEGINS);
        dueGoesOn("a,!!", FACTOR_BEGINS);
        dueGoesOn("a,(", FACTOR_BEGINS);
        dueGoesOn("a,((", FACTOR_BEGINS);
        dueGoesOn("a,!(", FACTOR_BEGINS);
        dueGoesOn("a,a&", FACTOR_BEGINS);
        dueGoesOn("a,a|", FACTOR_BEGINS);
        dueGoesOn("a,(a&", FACTOR_BEGINS);
        dueGoesOn("a,(a|", FACTOR_BEGINS);
        dueGoesOn("a,(a", behindFactorInside);
        dueGoesOn("a,(0", behindFactorInside);
        dueGoesOn("a,(!a", behindFactorInside);
        dueGoesOn("a,((a)", behindFactorInside);
        dueGoesOn("a,(a&a", behindFactorInside);
        dueGoesOn("a,(a|a", behindFactorInside);
        dueGoesOn("a,((a))", behindFactor);
        dueGoesOn("a,a;", LETTERS.substring(1));
        dueGoesOn("a,a;b", ",");
        dueGoesOn("a,a;b,", FACTOR_BEGINS);
        dueGoesOn("a,a;b,b", behindFactor);
        dueGoesOn("a,a;b,(b", behindFactorInside);
    }

    private static void dueGoesOn(String read, String may) {
        int place = read.length() + 1;
        for (char c = 33; c <= 126; c++) {
            if (may.indexOf(c) >= 0) {
                // A ? goes on nowhere: the fault at it says that what came before it did.
                dueFault(read + c + "?", place + 1);
            } else {
                dueFault(read + c, place);
                dueFault(read + "  " + c + " ", place + 2);
                dueFault(read + c + ",1;?", place);
            }
        }
        dueFault(read + " ?", place + 1);
    }

    private static void firstOfTheFaults() {
        sentence = "There is a FAULT at the first place .., read from left to right";
        dueFault("?,?;?,?", 1);
        dueFault("a,1?;a,1", 4);
        dueFault("a,1;a,1?", 5);
        dueFault("a,1;a,!!!!!!!!!!!!!1", 5);
        dueFault("a,!!!!!!!!!!!!!1;a,1", 15);
        dueFault("a,1?!!!!!!!!!!!!!1", 4);
        dueFault("a,!!!!!!!!!!!!!?", 15);
        dueFault("a,!!!!!!!!!!!!?!", 15);
        dueFault(keepers(7) + "?;h,1", 28);
        dueFault(keepers(7) + ";h,?", 29);
        dueFault("a,1?", 4);
        dueFault("a,1;b?", 6);
    }

    private static void endsTooEarly() {
        sentence = "one behind the last one, if the text ends too early";
        String[] early = {
            "", "a", "a,", "a,!", "a,!!", "a,(", "a,((", "a,!(", "a,(a", "a,(0", "a,(!a", "a,((a)", "a,(a&", "a,(a|a",
            "a,a&", "a,a|", "a,a&a|", "a,1;", "a,(a);", "a,1;b", "a,1;b,", "a,1;b,b&", "a,1;b,(b",
            "a,!!!!!!!!!!!!", "a,((((((((((((", "a,((((((((((((a", keepers(7) + ";"
        };
        for (String text : early) {
            for (int blanks = 0; text.length() + blanks <= 240; blanks += blanks < 4 ? 1 : 20) {
                dueFault(text + " ".repeat(blanks), text.length() + blanks + 1);
            }
            dueFault(text + " ".repeat(240 - text.length()), 241);
        }
        dueFault("a,1" + "&a".repeat(118) + "&", 241);
        dueFault("a,1" + "&a".repeat(117) + "&", 239);
        // A stranger is none of these faults: the end that comes too early is.
        dueFault("a,z&", 5);
    }

    private static void doesNotEndTooEarly() {
        sentence = "one behind the last one, if the text ends too early (and none, if it does not)";
        String[] whole = {"a,a", "a,0", "a,1", "a,!a", "a,(a)", "a,!(a)", "a,a&a", "a,a|a", "a,(a|a)&a", "a,((a))"};
        for (String text : whole) {
            for (int blanks = 0; blanks < 4; blanks++) {
                dueGenes(text + " ".repeat(blanks), 1);
            }
            dueGenes(text + " ".repeat(240 - text.length()), 1);
        }
    }

    private static void nameThatIsAGeneAlready() {
        sentence = "also at a name with which a rule begins, whatever is behind it, when it is a gene already";
        String[] behind = {"", " ", ",", ",1", ",?", "?", "b", ";", ",1;?", ",!!!!!!!!!!!!!1", ",z", "1", "("};
        for (int n = 1; n <= 6; n++) {
            for (int g = 0; g < n; g++) {
                for (String rest : behind) {
                    dueFault(keepers(n) + ";" + LETTERS.charAt(g) + rest, 4 * n + 1);
                    dueFault(keepers(n) + "; " + LETTERS.charAt(g) + rest, 4 * n + 2);
                }
            }
        }
        // A name in a sum is no gene by that, neither before its rule nor in it.
        dueGenes("a,b;b,b", 2);
        dueGenes("a,b&c;c,b;b,c", 3);
        // What was a gene before this text was read is none already.
        RuleNetwork x = loaded("a,1;b,1");
        due("load again", x.load(), 2);
        x.wipe();
        add(x, "b,1;a,1");
        due("load of another order", x.load(), 2);
        due("gene a", x.gene('a'), 1);
        x.wipe();
        add(x, "c,1;?");
        due("load with a fault", x.load(), -5);
        x.wipe();
        add(x, "d,1;c,1");
        due("load behind one with a fault", x.load(), 2);
    }

    private static void nameThatWouldBeTheEighth() {
        sentence = "also at a name with which a rule begins, whatever is behind it, when it .. would be the eighth";
        String[] behind = {"", " ", ",", ",1", ",?", "?", "b", ";", ",1;?", ",1;i,1", ",!!!!!!!!!!!!!1", ",z", "1", "("};
        for (int n = 1; n <= 7; n++) {
            dueGenes(keepers(n), n);
        }
        for (char c = 'a'; c <= 'z'; c++) {
            for (String rest : behind) {
                dueFault(keepers(7) + ";" + c + rest, 29);
                dueFault(keepers(7) + " ; " + c + rest, 31);
            }
        }
        // The eighth rule does not begin with a name: that cannot go on.
        dueFault(keepers(7) + ";?", 29);
        dueFault(keepers(7) + ";", 29);
        // A name in a sum is no gene: the seventh is still to come.
        dueFault("a,h;" + keepers(6).substring(4) + ";g,g", 3);
    }

    private static void insideOfTwelveOthers() {
        sentence = "and at a ! or ( that stands inside of twelve others";
        for (int mix = 0; mix < 1 << 12; mix++) {
            StringBuilder open = new StringBuilder();
            StringBuilder close = new StringBuilder();
            for (int i = 0; i < 12; i++) {
                boolean not = (mix >> i & 1) == 1;
                open.append(not ? '!' : '(');
                close.append(not ? "" : ")");
            }
            dueGenes("a," + open + "a" + close, 1);
            dueFault("a," + open + "!a" + close, 15);
            dueFault("a," + open + "(a)" + close, 15);
        }
        String twelve = "((((((((((((";
        String closed = "))))))))))))";
        dueGenes("a," + twelve + "a&0|1&a" + closed, 1);
        dueFault("a," + twelve + "a&!a" + closed, 17);
        dueFault("a," + twelve + "a|(a)" + closed, 17);
        dueFault("a," + twelve + " a | ! a" + closed, 20);
        // Whatever is behind it.
        dueFault("a," + twelve + "!", 15);
        dueFault("a," + twelve + "(", 15);
        dueFault("a," + twelve + "!?", 15);
        dueFault("b,1;a," + twelve + "(((", 19);
        // Where none can stand there is a fault of the other kind.
        dueFault("a," + twelve + "a!" + closed, 16);
        dueFault("a," + twelve + "a(" + closed, 16);
    }

    private static void notInsideAnyMore() {
        sentence = "a ! has what its factor is inside of it (and no more than that)";
        String nots = "!!!!!!!!!!!!";
        String twelve = "((((((((((((";
        String closed = "))))))))))))";
        dueGenes("a," + nots + "a&" + nots + "a|" + nots + "a&" + twelve + "a" + closed + "|" + nots + "0", 1);
        dueGenes("a," + nots + "a;b," + nots + "b;c," + twelve + "c" + closed + ";d," + nots + "d", 4);
        dueGenes("a,(((((((((((!a&!a|!a&(a)|!0)))))))))))", 1);
        dueGenes("a,!!!!!!!!!!!(a&a|a)&" + nots + "a", 1);
        dueGenes("a,!(!(!(!(!(!(a)))&!!!a))|!!!!!(a))&" + nots + "a", 1);
        dueFault("a,(((((((((((!a&!!a", 18);
        dueFault("a,(((((((((((!(a", 15);
        dueFault("a,!((((((((((((a", 15);
        dueFault("a,!!(!a&!!!!!!!!!(a))", 18);
        dueGenes("a,!!(!a&!!!!!!!!(a))", 1);
        // Behind the brackets of a !'s factor one is outside of both.
        dueGenes("a,((((((((((!(a)&!(a)|(!a))))))))))) ", 1);
        dueFault("a,((((((((((!(a)&!(!a)", 20);
    }

    private static void firstStranger() {
        sentence = "If there is none of these, there is one at the first name in a sum that is no gene";
        dueFault("a,b", 3);
        dueFault("a,z", 3);
        dueFault("b,a", 3);
        dueFault("a,a|z|b", 5);
        dueFault("a,a|b|z", 5);
        dueFault("a,b;b,c;c,d", 11);
        dueFault("a,b;c,d;b,1", 7);
        dueFault("a,!!!!!!!!!!!!z", 15);
        dueFault("a, ( ! ( z & y ) ) ", 10);
        dueFault("a,1" + "&a".repeat(117) + " &z", 240);
        dueFault(keepers(6) + ";g,h", 27);
        dueFault("a,h;" + keepers(7).substring(4), 3);
        dueFault("a,z;b,z", 3);
        for (char c = 'b'; c <= 'z'; c++) {
            dueFault("a,a&" + c + "&" + (c == 'b' ? 'z' : 'b'), 5);
            dueGenes("a,a&" + c + "&a;" + c + ",a", 2);
        }
        // None if all are genes, also those whose rules come later.
        dueGenes("a,g;b,f;c,e;d,d;e,c;f,b;g,a", 7);
        dueGenes("a,0;b,1", 2);
    }

    private static void strangerBehindTheOtherFaults() {
        sentence = "If there is none of these, ..";
        dueFault("a,z?", 4);
        dueFault("a,z;b", 6);
        dueFault("a,z;b,", 7);
        dueFault("a,z;a,1", 5);
        dueFault("a,z;" + keepers(7).substring(4) + ";h,1", 29);
        dueFault("a,z&!!!!!!!!!!!!!1", 17);
        dueFault("a,z;b,(1", 9);
        dueFault("a,z ", 3);
    }

    private static void strangerThatWasAGene() {
        sentence = "at the first name in a sum that is no gene (of this text)";
        RuleNetwork x = loaded("a,b;b,a");
        x.wipe();
        add(x, "a,b");
        due("load of a,b behind a,b;b,a", x.load(), -3);
        x.wipe();
        add(x, "b,b;c,b|a");
        due("load of b,b;c,b|a behind a,b;b,a", x.load(), -9);
        due("genes", x.genes(), 2);
    }

    // ---- terms: values, steps, attractors

    private static void signsOfASum() {
        sentence = "! turns 0 and 1 round, & is 1 if both are, | if one is";
        dueNexts("a,!a;b,a&b", new int[] {1, 0, 1, 2});
        dueNexts("a,a|b;b,b", new int[] {0, 1, 3, 3});
        dueNexts("a,0;b,1", new int[] {2, 2, 2, 2});
        dueNexts("a,!0;b,!1", new int[] {1, 1, 1, 1});
        dueNexts("a,1|0&0;b,0&0|1", new int[] {3, 3, 3, 3});
        dueNexts("a,(1|0)&0;b,0&(0|1)", new int[] {0, 0, 0, 0});
        dueNexts("a,!a&b;b,!a|b", new int[] {2, 0, 3, 2});
        dueNexts("a,a&(b|a&!b);b,b|(a|(b|!a&(b&!a)))", new int[] {0, 3, 2, 3});
        dueNexts("a,1&(0|(b&(a|b)));b,0|(1&(0|!(a|b)))", new int[] {2, 0, 1, 1});
        dueNexts("a,!(a&b);b,!(a|b)", new int[] {3, 1, 1, 0});
        dueNexts("a,!!a;b,!!!b", new int[] {2, 3, 0, 1});
        dueNexts("a,!!!!!!!!!!!!a;b,!!!!!!!!!!!b", new int[] {2, 3, 0, 1});
    }

    private static void statesAsSums() {
        sentence = "A STATE .. is written as the sum of 2^g over the genes g that have 1";
        for (int n = 1; n <= 7; n++) {
            RuleNetwork x = loaded(keepers(n));
            RuleNetwork y = loaded(turners(n));
            for (int s = 0; s < 1 << n; s++) {
                due("next(" + s + ") of " + n + " that keep", x.next(s), s);
                due("next(" + s + ") of " + n + " that turn", y.next(s), (1 << n) - 1 - s);
            }
            for (int g = 0; g < n; g++) {
                due("value(" + g + ", " + (1 << g) + ")", x.value(g, 1 << g), 1);
                due("value(" + g + ", all but 2^g)", x.value(g, (1 << n) - 1 - (1 << g)), 0);
            }
        }
    }

    private static void aloneOnlyOneGene() {
        sentence = "If they go ALONE, a step leads .. to that in which only this gene has its value";
        RuleNetwork x = loaded("a,!b;b,!a");
        due("attractors together", x.analyse(false), 3);
        due("attractor of 0 together", x.attractor(0), 0);
        due("attractor of 3 together", x.attractor(3), 0);
        due("attractors alone", x.analyse(true), 2);
        due("attractor of 0 alone", x.attractor(0), NONE);
        due("attractor of 1 alone", x.attractor(1), 0);
        due("attractor of 2 alone", x.attractor(2), 1);
        due("attractor of 3 alone", x.attractor(3), NONE);
        due("basin of 1 alone", x.basin(0), 3);
    }

    private static void aloneTheSameState() {
        sentence = "(it may be the same state)";
        // In state 1 the step of gene a changes nothing, that of b leads on: 1 is no attractor.
        RuleNetwork x = loaded("a,a;b,1");
        due("attractors", x.analyse(true), 2);
        due("attractor of 1", x.attractor(1), NONE);
        due("attractor of 2", x.attractor(2), 0);
        due("attractor of 3", x.attractor(3), 1);
        due("size", x.size(1), 1);
        RuleNetwork y = loaded("a,1");
        due("attractors of a,1 together", y.analyse(false), 1);
        due("attractor of 1", y.attractor(1), 0);
        due("attractor of 0", y.attractor(0), NONE);
    }

    private static void noStepsToo() {
        sentence = "A state LEADS TO another one if some number of steps (0 too) leads there.";
        // Gene b is 0 after a step: no state leads to 2 by steps, and 0 leads to 0 by none.
        RuleNetwork x = loaded("a,a;b,0");
        for (int alone = 0; alone <= 1; alone++) {
            due("attractors", x.analyse(alone == 1), 2);
            due("basin 0", x.basin(0), 2);
            due("basin 1", x.basin(1), 2);
            due("only 0", x.only(0), 2);
            due("attractor of 2", x.attractor(2), NONE);
        }
        // A row of 127 steps, the longest there is, leads to its end.
        RuleNetwork y = loaded("a,!a;b,a&!b|!a&b;c,a&b&!c|!(a&b)&c;d,d&!(a&b&c)|!d&a&b&c;"
            + "e,e&!(a&b&c&d)|!e&a&b&c&d;f,f&!(a&b&c&d&e)|!f&a&b&c&d&e;g,g|a&b&c&d&e&f");
        due("attractors of a counter", y.analyse(false), 1);
        due("least of a counter", y.least(0), 64);
        due("size of a counter", y.size(0), 64);
        due("basin of a counter", y.basin(0), 128);
        due("only of a counter", y.only(0), 128);
        due("attractor of 63", y.attractor(63), NONE);
    }

    private static void fromWhichNothingOutside() {
        sentence = "and from which no state outside is led to";
        // Alone, 0 and 1 lead to each other, but out too, by gene b when a is 1, and never back.
        RuleNetwork x = loaded("a,!a;b,a|b");
        due("attractors", x.analyse(true), 1);
        due("least", x.least(0), 2);
        due("size", x.size(0), 2);
        due("attractor of 0", x.attractor(0), NONE);
        due("attractor of 1", x.attractor(1), NONE);
        due("basin", x.basin(0), 4);
    }

    private static void attractorsInOrder() {
        sentence = "Attractors are counted 0, 1, .. in the order of their least states.";
        RuleNetwork x = loaded("a,!c;b,!b;c,a");
        due("attractors", x.analyse(false), 2);
        int[] homes = {0, 1, 1, 0, 1, 0, 0, 1};
        for (int s = 0; s < 8; s++) {
            due("attractor(" + s + ")", x.attractor(s), homes[s]);
        }
        due("least(0)", x.least(0), 0);
        due("least(1)", x.least(1), 1);
        RuleNetwork y = loaded(keepers(7));
        due("attractors of seven that keep", y.analyse(true), 128);
        for (int s = 0; s < 128; s++) {
            due("attractor(" + s + ")", y.attractor(s), s);
            due("least(" + s + ")", y.least(s), s);
        }
    }

    // ---- terms: the spread

    private static void spreadEnds() {
        sentence = "for k = 0 .. n - 1";
        for (int n = 1; n <= 7; n++) {
            for (int g = 0; g < n; g++) {
                due("spread(" + g + ") of " + n + " that keep", loaded(keepers(n)).spread(g), 1);
                due("spread(" + g + ") of " + n + " that turn", loaded(turners(n)).spread(g), 1);
            }
        }
        RuleNetwork x = loaded("a,g;b,a;c,!g&a;d,a&b&c&d&e&f&g;e,a|b|c|d|e|f|g;f,0;g,1");
        due("spread of the last", x.spread(0), 1);
        due("spread of the first", x.spread(1), 1);
        due("spread of first and last", x.spread(2), 2);
        due("spread of all with &", x.spread(3), 7);
        due("spread of all with |", x.spread(4), 7);
        due("spread of 0", x.spread(5), 0);
        due("spread of 1", x.spread(6), 0);
    }

    private static void spreadOfDifferentFunctions() {
        sentence = "those that are different from one another .. are counted";
        // Behind a, b and c it matters only how many are 1, and if that is odd or even only that.
        RuleNetwork x = loaded("a,a&!b|!a&b;b,a&!c|!a&c;c,a&!d|!a&d;d,a&b|a&c|a&d|b&c|b&d|c&d");
        due("spread of one or the other", x.spread(0), 3);
        due("spread of one or the other", x.spread(1), 3);
        due("spread of one or the other", x.spread(2), 3);
        due("spread of two of four", x.spread(3), 6);
        // Not different as functions, though written otherwise.
        due("spread of a|!a", loaded("a,a|!a").spread(0), 0);
        due("spread of a&!a", loaded("a,a&!a").spread(0), 0);
        due("spread of a&b|a&!b", loaded("a,a&b|a&!b;b,b").spread(0), 1);
        due("spread of 34", loaded("a,e&!e|!e&!f&!a|!e&!g&b|!f&f|!g&d|g&!c&f|!g&e&!f|d&!g&b;"
            + "b,0;c,0;d,0;e,0;f,0;g,0").spread(0), 34);
    }

    private static void spreadWhereItMakesADifference() {
        sentence = "and that gene k makes a difference for";
        RuleNetwork x = loaded("a,b&d;b,c;c,d;d,!b|!d");
        due("spread of b&d", x.spread(0), 2);
        due("spread of c", x.spread(1), 1);
        due("spread of d", x.spread(2), 1);
        due("spread of !b|!d", x.spread(3), 2);
    }

    private static void spreadOfFixedGenes() {
        sentence = "(Fixed genes are as any others here, but the value of a fixed gene is its fixed one.)";
        RuleNetwork x = loaded("a,a&b|c&d;b,0;c,1;d,a");
        for (int to = 0; to <= 1; to++) {
            for (int g = 1; g <= 3; g++) {
                due("fix", x.fix(g, to), true);
                due("spread with gene " + g + " fixed with " + to, x.spread(0), 4);
                due("spread of that gene", x.spread(g), 0);
            }
            due("fix", x.fix(0, to), true);
            due("spread of the fixed gene", x.spread(0), 0);
            due("fix no more", x.fix(0, 2), true);
            due("spread of the gene fixed no more", x.spread(0), 4);
        }
    }

    // ---- terms: cubes

    private static void cubeOfAll() {
        sentence = "if it has all states that are so, one cube, in which the genes from k on are 2";
        int all = 0;
        for (int n = 1; n <= 7; n++) {
            all += 2 << (2 * (n - 1));
            RuleNetwork x = loaded(turners(n));
            due("attractors of " + n + " that turn", x.analyse(true), 1);
            due("size", x.size(0), 1 << n);
            due("cubes", x.cubes(0), 1);
            due("cube(0, 0)", x.cube(0, 0), all);
            due("cube(0, 1)", x.cube(0, 1), NONE);
        }
        // All states of gene a's 1, and all of b's and c's.
        RuleNetwork y = loaded("a,1;b,!b;c,!c");
        due("attractors", y.analyse(true), 1);
        due("cubes", y.cubes(0), 1);
        due("cube", y.cube(0, 0), 1 + 2 * 4 + 2 * 16);
    }

    private static void cubeOfOne() {
        sentence = "else one goes on with k + 1 with it 0, and then with it 1 (to the last gene)";
        for (int n = 1; n <= 7; n++) {
            RuleNetwork x = loaded(keepers(n));
            due("attractors", x.analyse(false), 1 << n);
            for (int s = 0; s < 1 << n; s++) {
                int cube = 0;
                for (int g = 0; g < n; g++) {
                    cube += (s >> g & 1) << (2 * g);
                }
                due("cubes(" + s + ")", x.cubes(s), 1);
                due("cube(" + s + ", 0)", x.cube(s, 0), cube);
            }
        }
    }

    private static void cubesInOrder() {
        sentence = "Cubes are counted 0, 1, .. in this order.";
        RuleNetwork x = loaded("a,!c;b,!b;c,a");
        x.analyse(false);
        dueCubes(x, 0, new int[] {0, 4 + 16, 1 + 16, 1 + 4});
        dueCubes(x, 1, new int[] {16, 4, 1, 1 + 4 + 16});
        // All states but 0: each cube has a first gene that is 1, and any behind it.
        RuleNetwork y = loaded("a,f&!g|!f&g;b,a;c,b;d,c;e,d;f,e;g,f");
        due("attractors", y.analyse(false), 2);
        due("size", y.size(1), 127);
        dueCubes(y, 0, new int[] {0});
        dueCubes(y, 1, new int[] {4096, 9216, 10496, 10816, 10896, 10916, 10921});
    }

    private static void dueCubes(RuleNetwork x, int k, int[] cubes) {
        due("cubes(" + k + ")", x.cubes(k), cubes.length);
        for (int i = 0; i < cubes.length; i++) {
            due("cube(" + k + ", " + i + ")", x.cube(k, i), cubes[i]);
        }
        due("cube(" + k + ", " + cubes.length + ")", x.cube(k, cubes.length), NONE);
        due("cube(" + k + ", -1)", x.cube(k, -1), NONE);
    }

    private static void cubesOfMany() {
        sentence = "A set of states is made of cubes (of many, each state in one)";
        RuleNetwork x = loaded("a,f;b,e;c,a;d,g;e,!d;f,!b&!a|b&a;g,c");
        due("attractors", x.analyse(false), 4);
        due("size", x.size(0), 93);
        due("cubes", x.cubes(0), 62);
        int[] covered = new int[128];
        for (int i = 0; i < 62; i++) {
            cover(covered, x.cube(0, i));
        }
        for (int s = 0; s < 128; s++) {
            due("cubes with state " + s, covered[s], x.attractor(s) == 0 ? 1 : 0);
        }
        due("cube(0, 62)", x.cube(0, 62), NONE);
    }

    private static void cover(int[] covered, int cube) {
        for (int s = 0; s < covered.length; s++) {
            boolean inside = true;
            for (int g = 0; g < 7; g++) {
                int gives = cube >> (2 * g) & 3;
                inside &= gives == 2 || gives == (s >> g & 1);
            }
            covered[s] += inside ? 1 : 0;
        }
    }

    private static void geneWithoutDifference() {
        sentence = "else, if gene k makes no difference for whether a state is in the set, it is 2";
        RuleNetwork x = loaded("a,!a;b,b;c,!c;d,d;e,!e");
        due("attractors", x.analyse(true), 4);
        int any = 2 + 2 * 16 + 2 * 256;
        dueCubes(x, 0, new int[] {any});
        dueCubes(x, 1, new int[] {any + 4});
        dueCubes(x, 2, new int[] {any + 64});
        dueCubes(x, 3, new int[] {any + 4 + 64});
        // No difference only where a is 1: there are no more cubes than are needed so.
        RuleNetwork y = loaded("a,!a|b;b,b|a;c,!c");
        due("attractors", y.analyse(true), 1);
        dueCubes(y, 0, new int[] {1 + 4 + 2 * 16});
    }

    // ---- promises 1 to 3

    private static void newObject() {
        sentence = "The text is empty, there are no genes.";
        due("load", new RuleNetwork().load(), -1);
        RuleNetwork x = new RuleNetwork();
        due("genes", x.genes(), 0);
        for (char c = 'a'; c <= 'z'; c++) {
            due("gene(" + c + ")", x.gene(c), NONE);
        }
        for (int g = -1; g <= 7; g++) {
            due("fix(" + g + ", 0)", x.fix(g, 0), false);
            due("fix(" + g + ", 2)", x.fix(g, 2), false);
            due("value(" + g + ", 0)", x.value(g, 0), NONE);
            due("spread(" + g + ")", x.spread(g), NONE);
            due("next(" + g + ")", x.next(g), NONE);
        }
        dueNothingAnalysed("new", x);
        // All of the 240 places are free.
        add(x, " ".repeat(240));
        due("write of one more", x.write(packed(" ")), false);
        // What one object has, another one has not.
        loaded("a,1").analyse(false);
        due("genes of another", new RuleNetwork().genes(), 0);
        due("load of another", new RuleNetwork().load(), -1);
        dueNothingAnalysed("another", new RuleNetwork());
    }

    private static void lowestByteFirst() {
        sentence = "Adds the characters in the eight bytes of a long, the lowest first, to the text";
        RuleNetwork x = new RuleNetwork();
        due("write of a,!b;b,a", x.write(0x612C623B62212C61L), true);
        due("load", x.load(), 2);
        due("gene a", x.gene('a'), 0);
        due("next(0)", x.next(0), 1);
        due("next(1)", x.next(1), 3);
        due("write of |b", x.write(0x627CL), true);
        due("load", x.load(), 2);
        due("next(2)", x.next(2), 2);
        for (int i = 0; i < 8; i++) {
            RuleNetwork y = new RuleNetwork();
            due("write", y.write(0x2020202020202020L & ~(255L << 8 * i) | (long) '?' << 8 * i), true);
            due("load with ? in byte " + i, y.load(), -(i + 1));
        }
    }

    private static void bytesZero() {
        sentence = "bytes 0 are left out";
        String three = "a,1";
        for (int mask = 0; mask < 256; mask++) {
            if (Integer.bitCount(mask) != 3) {
                continue;
            }
            long bytes = 0;
            int next = 0;
            for (int i = 0; i < 8; i++) {
                if ((mask >> i & 1) == 1) {
                    bytes |= (long) three.charAt(next) << 8 * i;
                    next++;
                }
            }
            RuleNetwork x = new RuleNetwork();
            due("write", x.write(bytes), true);
            due("load with bytes 0, " + mask, x.load(), 1);
            due("write of ?", x.write((long) '?' << 56), true);
            due("load with ? behind them", x.load(), -4);
        }
        RuleNetwork y = new RuleNetwork();
        due("write(0)", y.write(0L), true);
        due("load of nothing", y.load(), -1);
    }

    private static void anotherByte() {
        sentence = "False, changing nothing, when another byte is not 32 .. 126";
        for (int b = 0; b <= 255; b++) {
            for (int at = 0; at < 8; at++) {
                boolean may = b == 0 || b >= 32 && b <= 126;
                RuleNetwork x = written("a,1");
                long bytes = 0x2020202020202020L & ~(255L << 8 * at) | (long) b << 8 * at;
                due("write with byte " + at + " " + b, x.write(bytes), may);
                due("write of ?", x.write('?'), true);
                int place = !may ? 4 : b == 0 ? 11 : " &|;".indexOf(b) >= 0 ? 12 : 4 + at;
                due("load with byte " + at + " " + b, x.load(), -place);
                RuleNetwork y = new RuleNetwork();
                due("write of byte " + at + " " + b + " alone", y.write((long) b << 8 * at), may);
            }
        }
    }

    private static void moreThan240() {
        sentence = "False, changing nothing, when .. there would be more than 240";
        for (int length = 230; length <= 240; length++) {
            for (int added = 0; added <= 8; added++) {
                for (int from = 0; from + added <= 8; from++) {
                    RuleNetwork x = written(" ".repeat(length));
                    boolean fits = length + added <= 240;
                    due(added + " more than " + length, x.write(packed(" ".repeat(added)) << 8 * from), fits);
                    due("load behind that", x.load(), -(fits ? length + added + 1 : length + 1));
                }
            }
        }
        RuleNetwork y = written("a,1" + " ".repeat(230));
        due("eight more than 233", y.write(packed("&0&0&0&0")), false);
        due("load", y.load(), 1);
        due("value", y.value(0, 0), 1);
        due("seven more than 233", y.write(packed("&0&0&0 ")), true);
        due("load", y.load(), 1);
        due("value", y.value(0, 0), 0);
        due("a wrong byte more than 240", y.write(127L), false);
        due("no byte more than 240", y.write(0L), true);
        due("load", y.load(), 1);
    }

    private static void refusedWriteKeepsTheRest() {
        sentence = "False, changing nothing";
        RuleNetwork x = loaded("a,b;b,a");
        due("fix", x.fix(0, 1), true);
        due("analyse", x.analyse(true), 1);
        due("write of 127", x.write(127L), false);
        due("write of -1", x.write(-1L), false);
        due("genes", x.genes(), 2);
        due("value(0, 0)", x.value(0, 0), 1);
        due("least(0)", x.least(0), 3);
        // Neither does one that is not refused change more than the text.
        due("write of ?", x.write('?'), true);
        due("genes", x.genes(), 2);
        due("value(0, 0)", x.value(0, 0), 1);
        due("least(0)", x.least(0), 3);
    }

    private static void wipedText() {
        sentence = "Makes the text empty.";
        RuleNetwork x = written(" ".repeat(240));
        x.wipe();
        due("load of nothing", x.load(), -1);
        add(x, "a,1" + " ".repeat(237));
        due("write of one more", x.write(packed(" ")), false);
        due("load of 240 again", x.load(), 1);
        RuleNetwork y = new RuleNetwork();
        y.wipe();
        y.wipe();
        due("load of nothing", y.load(), -1);
        add(y, "b,1;c,b");
        due("load", y.load(), 2);
        due("fix", y.fix(0, 0), true);
        due("analyse", y.analyse(false), 1);
        y.wipe();
        due("load of nothing", y.load(), -1);
        due("genes, that are not the text", y.genes(), 2);
        due("gene c", y.gene('c'), 1);
        due("value of the fixed gene", y.value(0, 0), 0);
        due("least of what is analysed", y.least(0), 0);
        due("basin of what is analysed", y.basin(0), 4);
        add(y, "c,1");
        due("load of a shorter text", y.load(), 1);
    }

    // ---- promise 4

    private static void loadInPlace() {
        sentence = "Makes the genes those of the text, in place of what was there";
        RuleNetwork x = loaded("g,!g;f,1;e,1;d,1;c,1;b,1;a,1");
        x.wipe();
        add(x, "a,!b;b,0");
        due("load", x.load(), 2);
        due("genes", x.genes(), 2);
        due("gene a", x.gene('a'), 0);
        due("gene b", x.gene('b'), 1);
        for (char c = 'c'; c <= 'g'; c++) {
            due("gene " + c, x.gene(c), NONE);
        }
        due("value(0, 0)", x.value(0, 0), 1);
        due("value(0, 2)", x.value(0, 2), 0);
        due("value(0, 4)", x.value(0, 4), NONE);
        due("value(2, 0)", x.value(2, 0), NONE);
        due("next(4)", x.next(4), NONE);
        due("spread(2)", x.spread(2), NONE);
        due("fix(2, 0)", x.fix(2, 0), false);
        due("analyse", x.analyse(false), 1);
        due("attractor(4)", x.attractor(4), NONE);
        due("basin(0)", x.basin(0), 4);
        due("load again", x.load(), 2);
        add(x, ";c,c");
        due("load of what was added", x.load(), 3);
        due("value(2, 4)", x.value(2, 4), 1);
    }

    /** An object that has had another network answers as one that has not. */
    private static void noTraceOfWhatWas() {
        sentence = "in place of what was there (of which nothing is left)";
        String[] texts = {
            "a,!a", "a,a", keepers(7), turners(7), "a,b;b,a", "a,!g;b,a;c,b;d,c;e,d;f,e;g,f",
            "a,!(b|!(c&!a));c,!!!b&1;b,0|!c", "a,f;b,e;c,a;d,g;e,!d;f,!b&!a|b&a;g,c", "q,1;z,!z|q;c,q&!z"
        };
        for (String before : texts) {
            for (String text : texts) {
                for (int alone = 0; alone <= 1; alone++) {
                    RuleNetwork x = loaded(before);
                    due("analyse before", x.analyse(alone == 0) > 0, true);
                    due("cubes before", x.cubes(0) > 0, true);
                    due("fix before", x.fix(0, alone), true);
                    due("spread before", x.spread(0), 0);
                    x.wipe();
                    add(x, text);
                    RuleNetwork y = loaded(text);
                    due("load of " + text + " behind " + before, x.load(), y.genes());
                    dueAlike(text + " behind " + before, x, y, alone == 1);
                }
            }
        }
    }

    private static void dueAlike(String what, RuleNetwork x, RuleNetwork y, boolean alone) {
        int attractors = y.analyse(alone);
        due("analyse of " + what, x.analyse(alone), attractors);
        for (int s = 0; s < 1 << y.genes(); s++) {
            due("next(" + s + ") of " + what, x.next(s), y.next(s));
            due("attractor(" + s + ") of " + what, x.attractor(s), y.attractor(s));
        }
        for (int g = 0; g <= y.genes(); g++) {
            due("spread(" + g + ") of " + what, x.spread(g), y.spread(g));
        }
        for (int k = 0; k <= attractors; k += attractors > 12 ? 16 : 1) {
            due("size(" + k + ") of " + what, x.size(k), y.size(k));
            due("least(" + k + ") of " + what, x.least(k), y.least(k));
            due("basin(" + k + ") of " + what, x.basin(k), y.basin(k));
            due("only(" + k + ") of " + what, x.only(k), y.only(k));
            due("cubes(" + k + ") of " + what, x.cubes(k), y.cubes(k));
            due("cube(" + k + ", 0) of " + what, x.cube(k, 0), y.cube(k, 0));
        }
    }

    private static void loadFixesNone() {
        sentence = "none fixed";
        RuleNetwork x = loaded(keepers(7));
        for (int to = 0; to <= 1; to++) {
            for (int g = 0; g < 7; g++) {
                due("fix", x.fix(g, to), true);
            }
            due("next(85), all fixed", x.next(85), to * 127);
            due("load", x.load(), 7);
            due("next(85), none fixed", x.next(85), 85);
            due("next(42), none fixed", x.next(42), 42);
        }
    }

    private static void loadAnalysesNothing() {
        sentence = "nothing analysed";
        for (int alone = 0; alone <= 1; alone++) {
            RuleNetwork x = loaded(keepers(2));
            due("analyse", x.analyse(alone == 1), 4);
            due("load", x.load(), 2);
            dueNothingAnalysed("loaded again", x);
        }
        dueNothingAnalysed("loaded", loaded(keepers(7)));
        due("attractor(127)", loaded(keepers(7)).attractor(127), NONE);
    }

    private static void faultChangesNothing() {
        sentence = "if the text has a fault, changes nothing and answers its place times -1";
        String[] texts = {
            "", " ", "c", "c,1;c,0", "d,0;c", "c,0;b,!!!!!!!!!!!!!b", "b,0;a,z", "b,1?", "e,1;d,1;c,1;b,1;a,q"
        };
        int[] places = {1, 2, 2, 5, 6, 19, 7, 4, 19};
        RuleNetwork x = loaded("a,b;b,!a");
        due("fix", x.fix(1, 1), true);
        due("analyse", x.analyse(true), 1);
        for (int i = 0; i < texts.length; i++) {
            x.wipe();
            add(x, texts[i]);
            due("load of \"" + texts[i] + "\"", x.load(), -places[i]);
            due("load again", x.load(), -places[i]);
            due("genes", x.genes(), 2);
            due("gene a", x.gene('a'), 0);
            due("gene b", x.gene('b'), 1);
            due("gene c", x.gene('c'), NONE);
            due("gene d", x.gene('d'), NONE);
            due("value of a", x.value(0, 1), 0);
            due("value of a", x.value(0, 2), 1);
            due("value of the fixed gene", x.value(1, 1), 1);
            due("next", x.next(3), 3);
            due("next", x.next(4), NONE);
            due("spread", x.spread(0), 1);
            due("size", x.size(0), 1);
            due("least", x.least(0), 3);
            due("attractor", x.attractor(3), 0);
            due("basin", x.basin(0), 4);
            due("only", x.only(0), 4);
            due("cubes", x.cubes(0), 1);
            due("cube", x.cube(0, 0), 5);
        }
        due("fix no more", x.fix(1, 2), true);
        due("value of b", x.value(1, 0), 1);
        due("value of b", x.value(1, 1), 0);
        due("genes of none", written("?").genes(), 0);
        // The text stays too: what is added to it mends it.
        RuleNetwork y = written("a,1;b,");
        due("load", y.load(), -7);
        add(y, "a");
        due("load of the mended text", y.load(), 2);
    }

    // ---- promises 5 to 7

    private static void howManyGenes() {
        sentence = "How many genes there are.";
        due("genes of none", new RuleNetwork().genes(), 0);
        RuleNetwork x = new RuleNetwork();
        for (int n = 1; n <= 7; n++) {
            x.wipe();
            add(x, keepers(n));
            due("genes before load", x.genes(), n - 1);
            due("load", x.load(), n);
            due("genes", x.genes(), n);
        }
        for (int n = 7; n >= 1; n--) {
            x.wipe();
            add(x, keepers(n));
            due("load", x.load(), n);
            due("genes", x.genes(), n);
        }
    }

    private static void geneThatIsNone() {
        sentence = "The gene with a name; NONE if there is none.";
        String names = "azbyg";
        RuleNetwork x = null;
        for (int c = 0; c <= 65535; c++) {
            if (c % 400 == 0) {
                x = loaded("a,z;z,0;b,1;y,1;g,1");
            }
            due("gene((char) " + c + ")", x.gene((char) c), names.indexOf(c));
        }
    }

    private static void fixWithEach() {
        sentence = "Fixes gene g with 0 or 1, or, with 2, fixes it no more";
        for (int n = 1; n <= 7; n++) {
            for (int g = 0; g < n; g++) {
                RuleNetwork x = loaded(turners(n));
                int all = (1 << n) - 1;
                due("fix(" + g + ", 2)", x.fix(g, 2), true);
                due("next(0), fixed no more", x.next(0), all);
                due("fix(" + g + ", 0)", x.fix(g, 0), true);
                due("next(0), fixed with 0", x.next(0), all - (1 << g));
                due("next(all), fixed with 0", x.next(all), 0);
                due("fix(" + g + ", 1)", x.fix(g, 1), true);
                due("next(0), fixed with 1", x.next(0), all);
                due("next(all), fixed with 1", x.next(all), 1 << g);
                due("fix(" + g + ", 2)", x.fix(g, 2), true);
                due("next(0), fixed no more", x.next(0), all);
                due("next(all), fixed no more", x.next(all), 0);
            }
        }
    }

    private static void fixForgets() {
        sentence = "then nothing is analysed";
        for (int to = 0; to <= 2; to++) {
            RuleNetwork x = loaded("a,1;b,b");
            for (int again = 0; again <= 1; again++) {
                due("analyse", x.analyse(again == 1), 2);
                due("fix(0, " + to + ")", x.fix(0, to), true);
                dueNothingAnalysed("fixed with " + to + ", " + again, x);
            }
        }
    }

    private static void fixRefused() {
        sentence = "False, changing nothing, when there is no such gene or to is not 0 .. 2.";
        RuleNetwork none = new RuleNetwork();
        for (int to = -1; to <= 3; to++) {
            due("fix(0, " + to + ") without genes", none.fix(0, to), false);
        }
        for (int n = 1; n <= 7; n++) {
            RuleNetwork x = loaded(keepers(n));
            due("fix(0, 1)", x.fix(0, 1), true);
            due("analyse", x.analyse(false), 1 << (n - 1));
            int[] strangers = Arrays.copyOf(FAR, FAR.length + 1);
            strangers[FAR.length] = n;
            for (int i : strangers) {
                due("fix(" + i + ", 0)", x.fix(i, 0), false);
                due("fix(" + i + ", 2)", x.fix(i, 2), false);
                due("fix(0, " + i + ")", x.fix(0, i == n ? 3 : i), false);
                due("fix(" + (n - 1) + ", " + i + ")", x.fix(n - 1, i == n ? 3 : i), false);
                due("next(0)", x.next(0), 1);
                due("next(all)", x.next((1 << n) - 1), (1 << n) - 1);
                due("least(0)", x.least(0), 1);
                due("size(0)", x.size(0), 1);
            }
        }
    }

    // ---- promises 8 to 11

    private static void valueOfNone() {
        sentence = "The value of gene g in a state; NONE when there is no such gene or state.";
        due("value(0, 0) without genes", new RuleNetwork().value(0, 0), NONE);
        for (int n = 1; n <= 7; n++) {
            RuleNetwork x = loaded(keepers(n));
            for (int g = 0; g < n; g++) {
                due("value(" + g + ", last)", x.value(g, (1 << n) - 1), 1);
                due("value(" + g + ", 0)", x.value(g, 0), 0);
                due("value(" + g + ", behind the last)", x.value(g, 1 << n), NONE);
                for (int i : FAR) {
                    due("value(" + g + ", " + i + ")", x.value(g, i), NONE);
                }
            }
            due("value(" + n + ", 0)", x.value(n, 0), NONE);
            due("value(" + n + ", last)", x.value(n, (1 << n) - 1), NONE);
            for (int i : FAR) {
                due("value(" + i + ", 0)", x.value(i, 0), NONE);
                due("value(" + i + ", " + i + ")", x.value(i, i), NONE);
            }
            due("fix", x.fix(n - 1, 1), true);
            due("value of a fixed gene in no state", x.value(n - 1, 1 << n), NONE);
            due("value of a fixed gene in -1", x.value(n - 1, -1), NONE);
        }
    }

    private static void nextOfNone() {
        sentence = "NONE when there is no such state (or no gene).";
        RuleNetwork none = new RuleNetwork();
        due("next(0) without genes", none.next(0), NONE);
        due("next(1) without genes", none.next(1), NONE);
        due("next(-1) without genes", none.next(-1), NONE);
        for (int n = 1; n <= 7; n++) {
            RuleNetwork x = loaded(keepers(n));
            due("next(last)", x.next((1 << n) - 1), (1 << n) - 1);
            due("next(behind the last)", x.next(1 << n), NONE);
            for (int i : FAR) {
                due("next(" + i + ")", x.next(i), NONE);
            }
        }
    }

    private static void spreadOfNone() {
        sentence = "The spread of gene g's rule; NONE when there is no such gene.";
        due("spread(0) without genes", new RuleNetwork().spread(0), NONE);
        for (int n = 1; n <= 7; n++) {
            RuleNetwork x = loaded(keepers(n));
            due("spread(last)", x.spread(n - 1), 1);
            due("spread(behind the last)", x.spread(n), NONE);
            for (int i : FAR) {
                due("spread(" + i + ")", x.spread(i), NONE);
            }
        }
    }

    private static void analyseWithoutGenes() {
        sentence = "NONE when there are no genes.";
        RuleNetwork x = written("a,1;?");
        due("load", x.load(), -5);
        due("analyse(true)", x.analyse(true), NONE);
        dueNothingAnalysed("without genes", x);
        due("analyse(false)", x.analyse(false), NONE);
        dueNothingAnalysed("without genes", x);
        for (int n = 1; n <= 7; n++) {
            due("analyse(true) of " + n, loaded(keepers(n)).analyse(true), 1 << n);
            due("analyse(false) of " + n, loaded(keepers(n)).analyse(false), 1 << n);
            due("analyse(true) of " + n + " that turn", loaded(turners(n)).analyse(true), 1);
            due("analyse(false) of " + n + " that turn", loaded(turners(n)).analyse(false), 1 << (n - 1));
        }
    }

    private static void latestAnalysis() {
        sentence = "The methods below are about the latest analysis.";
        RuleNetwork x = loaded("a,b;b,a");
        for (int i = 0; i < 3; i++) {
            due("analyse(false)", x.analyse(false), 3);
            due("size(1)", x.size(1), 2);
            due("least(1)", x.least(1), 1);
            due("attractor(2)", x.attractor(2), 1);
            due("basin(0)", x.basin(0), 1);
            due("only(2)", x.only(2), 1);
            due("cubes(1)", x.cubes(1), 2);
            due("cube(1, 1)", x.cube(1, 1), 1);
            due("analyse(true)", x.analyse(true), 2);
            due("size(1)", x.size(1), 1);
            due("size(2)", x.size(2), 0);
            due("least(1)", x.least(1), 3);
            due("least(2)", x.least(2), NONE);
            due("attractor(2)", x.attractor(2), NONE);
            due("basin(0)", x.basin(0), 3);
            due("basin(2)", x.basin(2), 0);
            due("only(0)", x.only(0), 1);
            due("only(2)", x.only(2), 0);
            due("cubes(1)", x.cubes(1), 1);
            due("cubes(2)", x.cubes(2), 0);
            due("cube(1, 1)", x.cube(1, 1), NONE);
            due("cube(2, 0)", x.cube(2, 0), NONE);
        }
        // From more genes to fewer: what the first analysis found is no more.
        RuleNetwork y = loaded(keepers(7));
        due("analyse of seven", y.analyse(true), 128);
        y.wipe();
        add(y, "a,!a");
        due("load of one", y.load(), 1);
        due("analyse of one", y.analyse(true), 1);
        due("size(0)", y.size(0), 2);
        due("size(1)", y.size(1), 0);
        due("basin(0)", y.basin(0), 2);
        due("only(0)", y.only(0), 2);
        due("cube(0, 0)", y.cube(0, 0), 2);
        due("attractor(1)", y.attractor(1), 0);
        due("attractor(2)", y.attractor(2), NONE);
        due("attractor(127)", y.attractor(127), NONE);
        due("least(127)", y.least(127), NONE);
    }

    // ---- promises 12 to 18

    /** Objects with an analysis, each with how many attractors there are in it. */
    private static RuleNetwork analysed(int n) {
        RuleNetwork x = loaded(keepers(n));
        due("analyse", x.analyse(n % 2 == 0), 1 << n);
        return x;
    }

    private static void sizeOfNone() {
        sentence = "How many states attractor k has; 0 if there is none.";
        due("size(0), nothing analysed", loaded("a,a").size(0), 0);
        for (int n = 1; n <= 7; n++) {
            RuleNetwork x = analysed(n);
            due("size(last)", x.size((1 << n) - 1), 1);
            due("size(behind the last)", x.size(1 << n), 0);
            for (int i : FAR) {
                due("size(" + i + ")", x.size(i), 0);
            }
        }
        RuleNetwork y = loaded(turners(7));
        due("analyse", y.analyse(true), 1);
        due("size of all", y.size(0), 128);
        due("size(1)", y.size(1), 0);
    }

    private static void leastOfNone() {
        sentence = "The least state of attractor k; NONE if there is none.";
        due("least(0), nothing analysed", loaded("a,a").least(0), NONE);
        for (int n = 1; n <= 7; n++) {
            RuleNetwork x = analysed(n);
            due("least(0)", x.least(0), 0);
            due("least(last)", x.least((1 << n) - 1), (1 << n) - 1);
            due("least(behind the last)", x.least(1 << n), NONE);
            for (int i : FAR) {
                due("least(" + i + ")", x.least(i), NONE);
            }
        }
    }

    private static void attractorOfNone() {
        sentence = "NONE if it is in none, there is no such state, or nothing is analysed.";
        RuleNetwork none = new RuleNetwork();
        due("attractor(0) without genes", none.attractor(0), NONE);
        RuleNetwork not = loaded("a,a");
        due("attractor(0), nothing analysed", not.attractor(0), NONE);
        due("attractor(1), nothing analysed", not.attractor(1), NONE);
        for (int n = 1; n <= 7; n++) {
            RuleNetwork x = analysed(n);
            due("attractor(last)", x.attractor((1 << n) - 1), (1 << n) - 1);
            due("attractor(behind the last)", x.attractor(1 << n), NONE);
            for (int i : FAR) {
                due("attractor(" + i + ")", x.attractor(i), NONE);
            }
        }
        RuleNetwork y = loaded("a,0;b,1;c,0;d,1;e,0;f,1;g,0");
        for (int alone = 0; alone <= 1; alone++) {
            due("analyse", y.analyse(alone == 1), 1);
            for (int s = 0; s < 128; s++) {
                due("attractor(" + s + ")", y.attractor(s), s == 42 ? 0 : NONE);
            }
        }
    }

    private static void basinOfNone() {
        sentence = "How many states lead to a state of attractor k; 0 if there is none.";
        due("basin(0), nothing analysed", loaded("a,a").basin(0), 0);
        for (int n = 1; n <= 7; n++) {
            RuleNetwork x = analysed(n);
            due("basin(last)", x.basin((1 << n) - 1), 1);
            due("basin(behind the last)", x.basin(1 << n), 0);
            for (int i : FAR) {
                due("basin(" + i + ")", x.basin(i), 0);
            }
            for (int g = 0; g < n; g++) {
                due("fix", x.fix(g, g % 2), true);
            }
            due("analyse", x.analyse(true), 1);
            due("basin of all", x.basin(0), 1 << n);
            due("basin(1)", x.basin(1), 0);
        }
        // To some state of the attractor, not to its least one by the first step.
        RuleNetwork y = loaded("a,c&!a;b,c&a;c,1");
        due("analyse", y.analyse(false), 1);
        due("size", y.size(0), 2);
        due("basin", y.basin(0), 8);
    }

    private static void onlyThese() {
        sentence = "How many of these lead to no other attractor's states.";
        due("only(0), nothing analysed", loaded("a,a").only(0), 0);
        for (int n = 1; n <= 7; n++) {
            RuleNetwork x = analysed(n);
            due("only(last)", x.only((1 << n) - 1), 1);
            due("only(behind the last)", x.only(1 << n), 0);
            for (int i : FAR) {
                due("only(" + i + ")", x.only(i), 0);
            }
        }
        // All states of one attractor lead to one another, and to no other attractor's.
        for (int n = 1; n <= 7; n++) {
            RuleNetwork x = loaded(turners(n));
            due("analyse", x.analyse(true), 1);
            due("only of all", x.only(0), 1 << n);
            due("analyse", x.analyse(false), 1 << (n - 1));
            for (int k = 0; k < 1 << (n - 1); k++) {
                due("only(" + k + ") of pairs", x.only(k), 2);
            }
        }
        // Alone, all but the two ends lead to both of them.
        RuleNetwork y = loaded("a,b|g;b,a|c;c,b|d;d,c|e;e,d|f;f,e|g;g,f|a");
        due("analyse", y.analyse(true), 2);
        due("basin(0)", y.basin(0), basinOfZeros());
        due("only(0)", y.only(0), 1);
        due("basin(1)", y.basin(1), 127);
        due("only(1)", y.only(1), 128 - basinOfZeros());
        // Each attractor has others that lead to it only, below and above state 63.
        RuleNetwork z = loaded("a,0;b,0;c,0;d,0;e,0;f,f;g,g");
        due("analyse", z.analyse(true), 4);
        for (int k = 0; k < 4; k++) {
            due("basin(" + k + ")", z.basin(k), 32);
            due("only(" + k + ")", z.only(k), 32);
        }
    }

    /** In a ring where one follows an or of its neighbours, 1s can go if none has a 1 beside it at its turn. */
    private static int basinOfZeros() {
        int found = 0;
        for (int s = 0; s < 128; s++) {
            found += emptiesIn(s, new boolean[128]) ? 1 : 0;
        }
        return found;
    }

    private static boolean emptiesIn(int s, boolean[] seen) {
        if (s == 0) {
            return true;
        }
        seen[s] = true;
        for (int g = 0; g < 7; g++) {
            int beside = s >> (g + 1) % 7 & 1 | s >> (g + 6) % 7 & 1;
            int to = s & ~(1 << g) | beside << g;
            if (!seen[to] && emptiesIn(to, seen)) {
                return true;
            }
        }
        return false;
    }

    private static void cubesOfNone() {
        sentence = "How many cubes the set of attractor k's states is made of; 0 if there is none.";
        due("cubes(0), nothing analysed", loaded("a,a").cubes(0), 0);
        for (int n = 1; n <= 7; n++) {
            RuleNetwork x = analysed(n);
            due("cubes(last)", x.cubes((1 << n) - 1), 1);
            due("cubes(behind the last)", x.cubes(1 << n), 0);
            for (int i : FAR) {
                due("cubes(" + i + ")", x.cubes(i), 0);
            }
        }
    }

    private static void cubeOfNone() {
        sentence = "Cube i of attractor k: the sum of what it gives gene g times 4^g; NONE if there is none.";
        due("cube(0, 0), nothing analysed", loaded("a,a").cube(0, 0), NONE);
        for (int n = 1; n <= 7; n++) {
            RuleNetwork x = analysed(n);
            due("cube(last, 0)", x.cube((1 << n) - 1, 0), ((1 << 2 * n) - 1) / 3);
            due("cube(last, 1)", x.cube((1 << n) - 1, 1), NONE);
            due("cube(behind the last, 0)", x.cube(1 << n, 0), NONE);
            for (int i : FAR) {
                due("cube(" + i + ", 0)", x.cube(i, 0), NONE);
                due("cube(0, " + i + ")", x.cube(0, i), NONE);
                due("cube(" + i + ", " + i + ")", x.cube(i, i), NONE);
            }
        }
        // What was asked before of another attractor is not answered for one that is none.
        RuleNetwork y = loaded("a,!c;b,!b;c,a");
        due("analyse", y.analyse(false), 2);
        due("cubes(1)", y.cubes(1), 4);
        due("cube(2, 0)", y.cube(2, 0), NONE);
        due("cubes(2)", y.cubes(2), 0);
        due("cube(1, 3)", y.cube(1, 3), 21);
        due("fix", y.fix(1, 2), true);
        due("cube(1, 3), nothing analysed", y.cube(1, 3), NONE);
    }

    private static void theText() {
        mostCharacters();
        leastAndGreatestCharacter();
        placesBeginWith1();
        blanksMeanNothing();
    }

    private static void theFaults() {
        nameIsALetter();
        genesInTheirOrder();
        whatCannotGoOn();
        firstOfTheFaults();
        endsTooEarly();
        doesNotEndTooEarly();
        nameThatIsAGeneAlready();
        nameThatWouldBeTheEighth();
        insideOfTwelveOthers();
        notInsideAnyMore();
        firstStranger();
        strangerBehindTheOtherFaults();
        strangerThatWasAGene();
    }

    private static void theOtherTerms() {
        signsOfASum();
        statesAsSums();
        aloneOnlyOneGene();
        aloneTheSameState();
        noStepsToo();
        fromWhichNothingOutside();
        attractorsInOrder();
        spreadEnds();
        spreadOfDifferentFunctions();
        spreadWhereItMakesADifference();
        spreadOfFixedGenes();
        cubeOfAll();
        cubeOfOne();
        cubesInOrder();
        cubesOfMany();
        geneWithoutDifference();
    }

    private static void promises1To11() {
        newObject();
        lowestByteFirst();
        bytesZero();
        anotherByte();
        moreThan240();
        refusedWriteKeepsTheRest();
        wipedText();
        loadInPlace();
        noTraceOfWhatWas();
        loadFixesNone();
        loadAnalysesNothing();
        faultChangesNothing();
        howManyGenes();
        geneThatIsNone();
        fixWithEach();
        fixForgets();
        fixRefused();
        valueOfNone();
        nextOfNone();
        spreadOfNone();
        analyseWithoutGenes();
        latestAnalysis();
    }

    private static void promises12To18() {
        sizeOfNone();
        leastOfNone();
        attractorOfNone();
        basinOfNone();
        onlyThese();
        cubesOfNone();
        cubeOfNone();
    }

    public static void main(String[] args) {
        lastOfItsCalls();
        theText();
        theFaults();
        theOtherTerms();
        promises1To11();
        promises12To18();
        System.out.println(wrong == 0 ? "all boundaries hold" : wrong + " answers are not as due");
        if (wrong != 0) {
            System.exit(1);
        }
    }
}
