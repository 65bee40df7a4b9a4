/** For each promise: ordinary inputs, the edges that the document names, and wrong inputs. */
public final class PromiseTest {
    private static int wrong = 0;
    private static int promise = 0;

    private static void due(String call, long got, long want) {
        if (got != want) {
            wrong++;
            System.out.println("promise " + promise + ": " + call + " answered " + got + ", due is " + want);
        }
    }

    private static void due(String call, boolean got, boolean want) {
        due(call, got ? 1L : 0L, want ? 1L : 0L);
    }

    private static long packed(String text) {
        long bytes = 0;
        for (int i = text.length() - 1; i >= 0; i--) {
            bytes = bytes << 8 | text.charAt(i);
        }
        return bytes;
    }

    private static void put(RuleNetwork x, String text) {
        x.wipe();
        for (int i = 0; i < text.length(); i += 8) {
            String part = text.substring(i, Math.min(text.length(), i + 8));
            due("write of " + part, x.write(packed(part)), true);
        }
    }

    private static RuleNetwork loaded(String text) {
        RuleNetwork x = new RuleNetwork();
        put(x, text);
        x.load();
        return x;
    }

    private static void dueLoad(String text, int want) {
        RuleNetwork x = new RuleNetwork();
        put(x, text);
        due("load of \"" + text + "\"", x.load(), want);
    }

    private static void newObject() {
        promise = 1;
        RuleNetwork x = new RuleNetwork();
        due("genes", x.genes(), 0);
        due("gene a", x.gene('a'), -1);
        due("load", x.load(), -1);
        due("fix", x.fix(0, 0), false);
        due("value", x.value(0, 0), -1);
        due("next", x.next(0), -1);
        due("spread", x.spread(0), -1);
        due("analyse together", x.analyse(false), -1);
        due("analyse alone", x.analyse(true), -1);
        dueNothingAnalysed(x);
    }

    private static void dueNothingAnalysed(RuleNetwork x) {
        due("size", x.size(0), 0);
        due("least", x.least(0), -1);
        due("attractor", x.attractor(0), -1);
        due("basin", x.basin(0), 0);
        due("only", x.only(0), 0);
        due("cubes", x.cubes(0), 0);
        due("cube", x.cube(0, 0), -1);
    }

    private static void write() {
        promise = 2;
        RuleNetwork x = new RuleNetwork();
        // 'a' ',' '1' with bytes 0 before, between and behind.
        due("write with bytes 0", x.write(0x0031_0000_2C00_6100L), true);
        due("load", x.load(), 1);
        due("byte 31", x.write(0x1FL << 56 | 0x20L), false);
        due("byte 127", x.write(0x7F20L), false);
        due("byte 128", x.write(0x80L << 56), false);
        due("byte 255", x.write(-1L), false);
        due("load after refused writes", x.load(), 1);
        due("byte 126", x.write(126L), true);
        due("load with ~ at place 4", x.load(), -4);
        x.wipe();
        for (int i = 0; i < 29; i++) {
            due("eight blanks", x.write(0x2020202020202020L), true);
        }
        due("seven blanks, 239 in all", x.write(0x20202020202020L), true);
        due("241 would be too many", x.write(packed("  ")), false);
        due("load, the text ends at 239", x.load(), -240);
        due("240 are not", x.write(0x2000L), true);
        due("load, the text ends at 240", x.load(), -241);
        due("no more than 240", x.write(0x20L), false);
        due("nothing more is no more", x.write(0L), true);
        due("load again", x.load(), -241);
    }

    private static void wipe() {
        promise = 3;
        RuleNetwork x = loaded("a,!a;b,a");
        due("analyse", x.analyse(false), 1);
        x.wipe();
        due("genes stay", x.genes(), 2);
        due("the analysis stays", x.size(0), 2);
        due("load of nothing", x.load(), -1);
        x.write(packed("c,1"));
        due("load", x.load(), 1);
    }

    private static void load() {
        promise = 4;
        dueLoad("a,1", 1);
        dueLoad(" a , 1 ; b , ( ! a | 0 ) & b ", 2);
        dueLoad("b,a;a,b", 2);
        dueLoad("z,z|a&!(z);a,0", 2);
        dueLoad("   ", -4);
        dueLoad("a", -2);
        dueLoad("a  ", -4);
        dueLoad("a,", -3);
        dueLoad("a,1;", -5);
        dueLoad("a,1;  ", -7);
        dueLoad(";a,1", -1);
        dueLoad(",1", -1);
        dueLoad("a;1", -2);
        dueLoad("a,;b,1", -3);
        dueLoad("a,2", -3);
        dueLoad("a,A", -3);
        dueLoad("A,1", -1);
        dueLoad("1,1", -1);
        dueLoad("ab,1", -2);
        dueLoad("a,aa", -4);
        dueLoad("a,a a", -5);
        dueLoad("a,1,", -4);
        dueLoad("a,a!", -4);
        dueLoad("a,a(", -4);
        dueLoad("a,a)", -4);
        dueLoad("a,()", -4);
        dueLoad("a,(a", -5);
        dueLoad("a,(a;b,1", -5);
        dueLoad("a,(a|", -6);
        dueLoad("a,|a", -3);
        dueLoad("a,a||a", -5);
        dueLoad("a,a&", -5);
        dueLoad("a,a&|a", -5);
        dueLoad("a,!", -4);
        dueLoad("a,!&a", -4);
        dueLoad("a,0" + "|a".repeat(118) + " ", 1);
        dueLoad("a,1" + "&a".repeat(118) + "&", -241);
        dueLoad("a,1" + "&a".repeat(118) + "?", -240);
        dueLoad("a,`", -3);
        dueLoad("a,{", -3);
        loadGeneFaults();
        loadDepth();
        loadChanges();
    }

    private static void loadGeneFaults() {
        dueLoad("a,1;a,1", -5);
        dueLoad("a,1;a", -5);
        dueLoad("a,1;b,1; a?", -10);
        dueLoad("a,1;b,1;c,1;d,1;e,1;f,1;g,1", 7);
        dueLoad("a,1;b,1;c,1;d,1;e,1;f,1;g,1;", -29);
        dueLoad("a,1;b,1;c,1;d,1;e,1;f,1;g,1;h", -29);
        dueLoad("a,1;b,1;c,1;d,1;e,1;f,1;g,1;h,1", -29);
        dueLoad("a,1;b,1;c,1;d,1;e,1;f,1;g,1;?", -29);
        dueLoad("a,b", -3);
        dueLoad("a,a|z|b", -5);
        dueLoad("a,b;c,d;b,1", -7);
        // A stranger counts only if the rest has no other fault.
        dueLoad("a,b;c", -6);
        dueLoad("a,b;a,1", -5);
    }

    private static void loadDepth() {
        dueLoad("a,!!!!!!!!!!!!a", 1);
        dueLoad("a,!!!!!!!!!!!!!a", -15);
        dueLoad("a,((((((((((((a))))))))))))", 1);
        dueLoad("a,(((((((((((((a)))))))))))))", -15);
        dueLoad("a,!(!(!(!(!(!(a&a|a))))))", 1);
        dueLoad("a,!(!(!(!(!(!(a&!a))))))", -17);
        dueLoad("a,!(!(!(!(!(!(a|(a)))))))", -17);
        // What is behind a factor is not inside of it.
        dueLoad("a,!!!!!!!!!!!!a&!!!!!!!!!!!!a|((((((((((((a))))))))))))", 1);
        dueLoad("a,(((((((((((!a&!a|!a)))))))))))", 1);
        // Inside of a ! is its factor, and not the product that goes on behind it.
        dueLoad("a,(((((((((((!a&!!a|!a)))))))))))", -18);
    }

    private static void loadChanges() {
        RuleNetwork x = loaded("a,b;b,a");
        x.fix(0, 1);
        due("analyse", x.analyse(false), 1);
        put(x, "c,1;d,");
        due("load with a fault", x.load(), -7);
        due("genes after a fault", x.genes(), 2);
        due("gene a after a fault", x.gene('a'), 0);
        due("gene c after a fault", x.gene('c'), -1);
        due("fixed after a fault", x.value(0, 0), 1);
        due("rule after a fault", x.value(1, 0), 0);
        due("analysed after a fault", x.least(0), 3);
        put(x, "c,d;d,q");
        due("load with a stranger", x.load(), -7);
        due("gene a after a stranger", x.gene('a'), 0);
        due("analysed after a stranger", x.attractor(3), 0);
        put(x, "c,!c;d,c");
        due("load", x.load(), 2);
        due("value of gene c", x.value(0, 2), 1);
        due("value of gene d", x.value(1, 2), 0);
        x.fix(0, 1);
        x.analyse(false);
        put(x, "b,b");
        due("load", x.load(), 1);
        due("gene b", x.gene('b'), 0);
        due("gene a", x.gene('a'), -1);
        due("not fixed", x.value(0, 0), 0);
        dueNothingAnalysed(x);
        due("load again", x.load(), 1);
        x.analyse(true);
        due("load once more", x.load(), 1);
        dueNothingAnalysed(x);
    }

    private static void genesAndGene() {
        promise = 5;
        RuleNetwork x = loaded("z,a;m,m;a,1");
        due("genes", x.genes(), 3);
        due("genes of seven", loaded("g,1;f,1;e,1;d,1;c,1;b,1;a,1").genes(), 7);
        promise = 6;
        due("gene z", x.gene('z'), 0);
        due("gene m", x.gene('m'), 1);
        due("gene a", x.gene('a'), 2);
        due("gene b", x.gene('b'), -1);
        due("gene Z", x.gene('Z'), -1);
        due("gene 0", x.gene('0'), -1);
        due("gene char 0", x.gene((char) 0), -1);
        due("gene char 65535", x.gene((char) 65535), -1);
        put(x, "m,1");
        x.load();
        due("gene m", x.gene('m'), 0);
        due("gene z, that was", x.gene('z'), -1);
        due("gene a, that was", x.gene('a'), -1);
    }

    private static void fix() {
        promise = 7;
        RuleNetwork x = loaded("a,!b;b,a");
        due("fix 0, 1", x.fix(0, 1), true);
        due("value", x.value(0, 2), 1);
        due("next", x.next(2), 1);
        due("spread", x.spread(0), 0);
        due("spread of the other", x.spread(1), 1);
        due("fix 0, 0", x.fix(0, 0), true);
        due("value", x.value(0, 0), 0);
        due("analyse", x.analyse(true), 1);
        due("least", x.least(0), 0);
        due("fix -1", x.fix(-1, 1), false);
        due("fix 2", x.fix(2, 1), false);
        due("fix to -1", x.fix(0, -1), false);
        due("fix to 3", x.fix(0, 3), false);
        due("value after refused fixes", x.value(0, 0), 0);
        due("analysed after refused fixes", x.size(0), 1);
        due("fix as it is", x.fix(0, 0), true);
        dueNothingAnalysed(x);
        due("fix no more", x.fix(0, 2), true);
        due("value", x.value(0, 0), 1);
        due("value", x.value(0, 2), 0);
        x.analyse(false);
        due("fix no more again", x.fix(0, 2), true);
        dueNothingAnalysed(x);
    }

    private static void valueAndNext() {
        promise = 8;
        RuleNetwork x = loaded("a,1|0&0;b,!a&b|c;c,!(a&b)");
        int[] b = {0, 0, 1, 0, 1, 1, 1, 1};
        int[] c = {1, 1, 1, 0, 1, 1, 1, 0};
        for (int s = 0; s < 8; s++) {
            promise = 8;
            due("value 0 in " + s, x.value(0, s), 1);
            due("value 1 in " + s, x.value(1, s), b[s]);
            due("value 2 in " + s, x.value(2, s), c[s]);
            promise = 9;
            due("next of " + s, x.next(s), 1 + 2 * b[s] + 4 * c[s]);
        }
        promise = 8;
        due("value of gene 3", x.value(3, 0), -1);
        due("value of gene -1", x.value(-1, 0), -1);
        due("value in 8", x.value(0, 8), -1);
        due("value in -1", x.value(0, -1), -1);
        due("value in the least int", x.value(0, Integer.MIN_VALUE), -1);
        promise = 9;
        due("next of 8", x.next(8), -1);
        due("next of -1", x.next(-1), -1);
        RuleNetwork y = loaded("a,g;b,a;c,b;d,c;e,d;f,e;g,!f");
        promise = 8;
        due("value 0 in 64", y.value(0, 64), 1);
        due("value 0 in 63", y.value(0, 63), 0);
        due("value 6 in 127", y.value(6, 127), 0);
        due("value 6 in 95", y.value(6, 95), 1);
        due("value in 128", y.value(6, 128), -1);
        promise = 9;
        due("next of 0", y.next(0), 64);
        due("next of 64", y.next(64), 65);
        due("next of 127", y.next(127), 63);
        due("next of 128", y.next(128), -1);
    }

    private static void spread() {
        promise = 10;
        RuleNetwork x = loaded("a,a&b|c&d;b,a|!a;c,c;d,a&!b|!a&b");
        due("spread of a&b|c&d", x.spread(0), 4);
        due("spread of 1", x.spread(1), 0);
        due("spread of a gene", x.spread(2), 1);
        due("spread of one or the other", x.spread(3), 3);
        due("spread of 4", x.spread(4), -1);
        due("spread of -1", x.spread(-1), -1);
        // The order matters: this one has to remember a, b and c until d, e and f come.
        RuleNetwork y = loaded("a,a&d|b&e|c&f;b,0;c,0;d,0;e,0;f,0;g,a&b|c&d|e&f");
        due("spread of a&d|b&e|c&f", y.spread(0), 14);
        due("spread of a&b|c&d|e&f", y.spread(6), 6);
        y.fix(1, 0);
        due("spread with another gene fixed", y.spread(0), 14);
        y.fix(0, 1);
        due("spread of a fixed gene", y.spread(0), 0);
        y.fix(0, 2);
        due("spread of a gene fixed no more", y.spread(0), 14);
    }

    private static void analyse() {
        promise = 11;
        RuleNetwork x = loaded("a,b;b,a");
        due("together", x.analyse(false), 3);
        due("alone", x.analyse(true), 2);
        due("least of the latest", x.least(1), 3);
        due("together again", x.analyse(false), 3);
        due("least of the latest", x.least(1), 1);
        RuleNetwork y = loaded("a,a;b,b;c,c;d,d;e,e;f,f;g,g");
        due("together, each for itself", y.analyse(false), 128);
        due("alone, each for itself", y.analyse(true), 128);
        due("least 127", y.least(127), 127);
        due("least 128", y.least(128), -1);
    }

    private static void attractors() {
        RuleNetwork x = loaded("a,b;b,a");
        x.analyse(false);
        int[] sizes = {1, 2, 1};
        int[] leasts = {0, 1, 3};
        int[] homes = {0, 1, 1, 2};
        int[] cubes = {1, 2, 1};
        for (int k = 0; k < 3; k++) {
            promise = 12;
            due("size " + k, x.size(k), sizes[k]);
            promise = 13;
            due("least " + k, x.least(k), leasts[k]);
            promise = 15;
            due("basin " + k, x.basin(k), sizes[k]);
            promise = 16;
            due("only " + k, x.only(k), sizes[k]);
            promise = 17;
            due("cubes " + k, x.cubes(k), cubes[k]);
        }
        promise = 14;
        for (int s = 0; s < 4; s++) {
            due("attractor of " + s, x.attractor(s), homes[s]);
        }
        promise = 18;
        due("cube 1, 0", x.cube(1, 0), 4);
        due("cube 1, 1", x.cube(1, 1), 1);
        due("cube 1, 2", x.cube(1, 2), -1);
        dueNoSuch(x, 3, 4);
        dueNoSuch(x, -1, -1);
        dueNoSuch(x, Integer.MAX_VALUE, Integer.MAX_VALUE);
        dueNoSuch(x, Integer.MIN_VALUE, Integer.MIN_VALUE);
    }

    private static void dueNoSuch(RuleNetwork x, int k, int state) {
        promise = 12;
        due("size " + k, x.size(k), 0);
        promise = 13;
        due("least " + k, x.least(k), -1);
        promise = 14;
        due("attractor of " + state, x.attractor(state), -1);
        promise = 15;
        due("basin " + k, x.basin(k), 0);
        promise = 16;
        due("only " + k, x.only(k), 0);
        promise = 17;
        due("cubes " + k, x.cubes(k), 0);
        promise = 18;
        due("cube " + k + ", 0", x.cube(k, 0), -1);
        due("cube 0, " + k, x.cube(0, k), -1);
    }

    private static void basins() {
        // Alone, 01 and 10 lead to both ends; together, they go round.
        RuleNetwork x = loaded("a,b;b,a");
        x.analyse(true);
        promise = 12;
        due("size 0", x.size(0), 1);
        due("size 2", x.size(2), 0);
        promise = 14;
        due("attractor of 1", x.attractor(1), -1);
        due("attractor of 3", x.attractor(3), 1);
        promise = 15;
        due("basin 0", x.basin(0), 3);
        due("basin 1", x.basin(1), 3);
        promise = 16;
        due("only 0", x.only(0), 1);
        due("only 1", x.only(1), 1);
        // Gene 6 keeps what it has, so that states from 64 on have attractors of their own.
        RuleNetwork y = loaded("a,!a;b,0;c,c&b;d,1;e,e&0;f,f&0;g,g");
        y.analyse(true);
        promise = 13;
        due("least 0", y.least(0), 8);
        due("least 1", y.least(1), 72);
        promise = 12;
        due("size 1", y.size(1), 2);
        promise = 14;
        due("attractor of 73", y.attractor(73), 1);
        due("attractor of 127", y.attractor(127), -1);
        promise = 15;
        due("basin 1", y.basin(1), 64);
        promise = 16;
        due("only 1", y.only(1), 64);
        promise = 17;
        due("cubes 1", y.cubes(1), 1);
        promise = 18;
        due("cube 1, 0", y.cube(1, 0), 2 + 64 + 4096);
        // With a fixed gene 6 only the first is left, and states lead by those that the other had.
        y.fix(6, 0);
        promise = 11;
        due("analyse", y.analyse(true), 1);
        promise = 15;
        due("basin 0", y.basin(0), 128);
        promise = 16;
        due("only 0", y.only(0), 128);
    }

    private static void cubes() {
        // Seven genes that pass a value on and turn it round: the states go round, 14 at most.
        RuleNetwork x = loaded("a,!g;b,a;c,b;d,c;e,d;f,e;g,f");
        promise = 11;
        due("analyse", x.analyse(false), 10);
        promise = 12;
        due("size 0", x.size(0), 14);
        promise = 17;
        due("cubes 0", x.cubes(0), 14 - 2);
        promise = 18;
        due("cube 0, 0", x.cube(0, 0), 2 << 12);
        due("cube 0, 11", x.cube(0, 11), 1 + 4 + 16 + 64 + 256 + 1024 + (2 << 12));
        due("cube 0, 12", x.cube(0, 12), -1);
        // A gene that makes no difference between two that do.
        RuleNetwork y = loaded("a,a;b,!b;c,c");
        y.analyse(true);
        promise = 17;
        due("cubes 2", y.cubes(2), 1);
        promise = 18;
        due("cube 1, 0", y.cube(1, 0), 1 + 8);
        due("cube 2, 0", y.cube(2, 0), 0 + 8 + 16);
        due("cube 2, -1", y.cube(2, -1), -1);
        due("cube 2, 1", y.cube(2, 1), -1);
    }

    public static void main(String[] args) {
        newObject();
        write();
        wipe();
        load();
        genesAndGene();
        fix();
        valueAndNext();
        spread();
        analyse();
        attractors();
        basins();
        cubes();
        System.out.println(wrong == 0 ? "all promises are kept" : wrong + " answers are not as due");
        if (wrong != 0) {
            System.exit(1);
        }
    }
}
