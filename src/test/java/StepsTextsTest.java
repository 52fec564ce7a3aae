/** Promises 1 to 11: a new object, steps, texts, nets. */
public final class StepsTextsTest {
    private static final int MAX = Integer.MAX_VALUE, MIN = Integer.MIN_VALUE;
    private static final int NONE = GuardNets.NONE, BAD = GuardNets.BAD, NO = GuardNets.NO, FULL = GuardNets.FULL;

    public static void main(String[] args) {
        promise1();
        promise2();
        promise3();
        promise4();
        promise5();
        promise6();
        promise7();
        faultsOfTexts();
        tooManyKnots();
        promise8();
        promise9();
        promise10();
        promise11();
        Due.end();
    }

    private static void promise1() {
        GuardNets x = new GuardNets();
        int[] first = {1, 1, 500, 0, 0};
        for (int step = 0; step < 16; step++) {
            for (int what = 0; what < 5; what++) Due.is("1 about", x.about(step, what), first[what]);
        }
        for (int what = 0; what < 7; what++) Due.is("1 count", x.count(what), 0);
        for (int net = 0; net < 10; net++) Due.is("1 knot", x.knot(net, 0), NO);
        for (int place = 0; place < 8; place++) Due.is("1 stands", x.stands(place, 0), 0);
        Due.is("1 the fraction", Due.fraction(x), "0/1");
        Due.is("1 from", x.from(0), NO);
        Due.is("1 from", x.from(1), NO);
        Due.is("1 NONE", NONE, -1);
        Due.is("1 BAD", BAD, -2);
        Due.is("1 NO", NO, -3);
        Due.is("1 FULL", FULL, -4);
        Due.is("1 SPENT", GuardNets.SPENT, -5);
    }

    private static void promise2() {
        GuardNets x = new GuardNets();
        Due.is("2 step", x.step(15, 1000, 50, 1000), 1);
        Due.is("2 step", x.step(0, 0, 1, 0), 1);
        int[][] bad = {{-1, 1, 1, 1}, {16, 1, 1, 1}, {0, -1, 1, 1}, {0, 1001, 1, 1}, {0, 1, 0, 1}, {0, 1, 51, 1},
            {0, 1, 1, -1}, {0, 1, 1, 1001}, {MAX, MAX, MAX, MAX}, {MIN, 1, 1, 1}, {0, 7, 7, MIN}};
        for (int[] a : bad) Due.is("2 step", x.step(a[0], a[1], a[2], a[3]), BAD);
        int[] last = {1000, 50, 1000, 0, 0};
        int[] first = {0, 1, 0, 0, 0};
        for (int what = 0; what < 5; what++) {
            Due.is("2 about", x.about(15, what), last[what]);
            Due.is("2 about", x.about(0, what), first[what]);
        }
        Due.is("2 another", x.about(1, 2), 500);
    }

    private static void promise3() {
        GuardNets x = new GuardNets();
        Due.is("3 trace", x.trace(15, 255, 7), 1);
        Due.is("3 trace", x.trace(3, 0, 0), 1);
        int[][] bad = {{-1, 1, 1}, {16, 1, 1}, {15, -1, 1}, {15, 256, 1}, {15, 1, -1}, {15, 1, 8}, {MIN, MAX, MAX}};
        for (int[] a : bad) Due.is("3 trace", x.trace(a[0], a[1], a[2]), BAD);
        Due.is("3 marks", x.about(15, 3), 255);
        Due.is("3 place", x.about(15, 4), 7);
        Due.is("3 price", x.about(15, 0), 1);
    }

    private static void promise4() {
        GuardNets x = new GuardNets();
        x.step(2, 11, 12, 13);
        x.trace(2, 14, 5);
        int[] due = {11, 12, 13, 14, 5};
        for (int what = 0; what < 5; what++) Due.is("4 about", x.about(2, what), due[what]);
        int[][] bad = {{-1, 0}, {16, 0}, {0, -1}, {0, 5}, {MAX, MIN}, {2, MAX}};
        for (int[] a : bad) Due.is("4 about", x.about(a[0], a[1]), BAD);
    }

    private static void promise5() {
        GuardNets x = new GuardNets();
        Due.is("5 write", x.write(0), 1);
        Due.is("5 write", x.write(127), 2);
        Due.is("5 write", x.write(-1), BAD);
        Due.is("5 write", x.write(128), BAD);
        Due.is("5 write", x.write(MAX), BAD);
        for (int n = 3; n <= 80; n++) Due.is("5 write", x.write('a'), n);
        Due.is("5 write", x.write('a'), FULL);
        Due.is("5 write", x.write(128), BAD);
        Due.is("5 count", x.count(0), 80);
    }

    private static void promise6() {
        GuardNets x = new GuardNets();
        Due.is("6 erase", x.erase(), 0);
        Due.text(x, "a|b");
        Due.is("6 erase", x.erase(), 3);
        Due.is("6 erase", x.erase(), 0);
        Due.is("6 count", x.count(0), 0);
    }

    private static void promise7() {
        GuardNets x = Due.with("a");
        Due.is("7 make", x.make(-1), BAD);
        Due.is("7 make", x.make(10), BAD);
        Due.is("7 make", x.make(MAX), BAD);
        Due.is("7 the text stays", x.count(0), 1);
        Due.is("7 again", x.make(9), 0);
        Due.is("7 knots", x.count(1), 2);
        Due.is("7 a fault", Due.put(x, 9, "b|c|"), 42);
        Due.is("7 the net stays", x.knot(9, 0), 1);
        Due.is("7 no knots", x.count(1), 2);
        Due.is("7 a digit", Due.put(x, 5, " 9 "), 0);
        Due.is("7 adds none", x.count(1), 2);
        Due.is("7 a digit", x.knot(5, 0), 1);
        Due.is("7 itself", Due.put(x, 5, "5&b"), 0);
        Due.is("7 itself", x.reaches(5, 3), 1);
    }

    private static void faultsOfTexts() {
        String[] texts = {"", "  ", "q", "A", "a b", "a|", "a| ", "(a", "a)", "()", "(a]", "[1a)", "[a]", "[", "[ ",
            "[1", "[1]", "[0a]", "[2a]", "[3a,b", "[9a,b,c,d,e,f,g,h]", "[1a,b,c,d,e,f,g,h,i]", "(((((((((", "(((((((([",
            "a(", "0", "a|3", "5a", "(a,b)", "a,b", "[1a,]", "a&&b", "&a", "a|>b", "[2a,b)", "a\t", "[3a,b]c", "[0 q",
            "[1a,b,c,d,e,f,g,h,", "a|b|c d", "(a))", "[1a]]", "[ 4 a , b ]", "[(1)]", "a[1b]", "]", "/", ":", "`", "\0", "(a\0"};
        int[] faults = {2, 22, 1, 1, 21, 22, 32, 22, 11, 11, 21, 31, 11, 12, 22,
            22, 21, 14, 14, 52, 14, 177, 85, 85,
            11, 3, 23, 3, 21, 11, 41, 21, 1, 21, 51, 11, 14, 31,
            177, 61, 31, 41, 24, 11, 11, 1, 1, 1, 1, 1, 21};
        for (int i = 0; i < texts.length; i++) {
            GuardNets x = new GuardNets();
            Due.is("7 \"" + texts[i] + "\"", Due.put(x, 0, texts[i]), faults[i]);
            Due.is("7 no knots of \"" + texts[i] + "\"", x.count(1), 0);
            Due.is("7 no net of \"" + texts[i] + "\"", x.knot(0, 0), NO);
        }
        String[] fine = {"a", " a ", "((((((((p))))))))", "[1[1[1[1[1[1[1[1a]]]]]]]]", "[8a,b,c,d,e,f,g,h]", "(a)&(b)",
            " [ 1 a > b | c & d , e ] "};
        for (String text : fine) Due.is("7 \"" + text + "\"", Due.put(new GuardNets(), 0, text), 0);
        Due.is("7 closed ones do not count", Due.put(new GuardNets(), 0, "((((((((a))))))))&((((((((b))))))))"), 0);
    }

    private static void tooManyKnots() {
        GuardNets x = new GuardNets();
        Due.text(x, "a|b");
        for (int n = 0; n < 83; n++) Due.is("7 make", x.make(0), 0);
        Due.is("7 knots", x.count(1), 249);
        Due.is("7 too many", x.make(1), 36);
        Due.is("7 a fault ahead", Due.put(x, 1, "a|b)"), 31);
        Due.is("7 too many, with blanks", Due.put(x, 1, "a|b  "), 56);
        Due.is("7 still none", x.count(1), 249);
        Due.is("7 no net", x.knot(1, 0), NO);
        Due.is("7 the last", Due.put(x, 1, "p"), 0);
        Due.is("7 full", Due.put(x, 0, "p"), 16);
        Due.is("7 the net stays", x.knot(0, 0), 248);
        Due.is("7 a digit", Due.put(x, 2, "0"), 0);
        Due.is("7 knots", x.count(1), 250);
        Due.is("8 clear", x.clear(), 250);
        Due.is("8 room again", Due.put(x, 0, "a|b"), 0);
    }

    private static void promise8() {
        GuardNets x = Due.with("a|b", "0&c");
        x.guard(1, 1);
        Due.is("8 ways ahead", x.ways(1), 2);
        Due.is("8 clear", x.clear(), 5);
        Due.is("8 clear", x.clear(), 0);
        Due.is("8 knots", x.count(1), 0);
        Due.is("8 nets", x.count(2), 0);
        Due.is("8 part", x.part(0, 0), BAD);
        Due.is("8 the text stays", x.count(0), 3);
        Due.is("8 guards stay", x.count(3), 1);
        Due.is("8 knot", x.knot(0, 0), NO);
        // What was known of the KNOTS that went must not be told of those that come.
        Due.is("8 make", Due.put(x, 1, "a&b&c&d"), 0);
        Due.is("8 make", Due.put(x, 1, "d>e"), 0);
        Due.is("8 ways", x.ways(1), 1);
        Due.is("8 way", x.wayAt(1, 0), Due.set("de"));
        Due.is("8 size", x.size(1), 2);
    }

    private static void promise9() {
        GuardNets x = Due.with("a&(b|c)>d", "[2a,0,p]", "c", "(a|a)|b");
        int[][] due = {{6, 2, 2, 0, 15}, {9, 4, 3, 2, 32783}, {10, 0, 2, 0, 4}, {15, 1, 2, 0, 3}};
        for (int net = 0; net < 4; net++) {
            for (int what = 0; what < 5; what++) Due.is("9 knot " + net + " " + what, x.knot(net, what), due[net][what]);
        }
        Due.is("9 knot", x.knot(4, 0), NO);
        Due.is("9 knot", x.knot(-1, 0), BAD);
        Due.is("9 knot", x.knot(10, 0), BAD);
        Due.is("9 knot", x.knot(0, -1), BAD);
        Due.is("9 knot", x.knot(4, 5), BAD);
        x = Due.with("a&b", "[1a]", "(a)", "a>b>c", "[1(a|b)]");
        int[] sorts = {3, 4, 0, 2, 4};
        int[] parts = {2, 1, 0, 3, 1};
        for (int net = 0; net < 5; net++) {
            Due.is("9 sort", x.knot(net, 1), sorts[net]);
            Due.is("9 parts", x.knot(net, 2), parts[net]);
        }
    }

    private static void promise10() {
        GuardNets x = Due.with("a&(b|c)>d", "[2a,0,p]|0");
        int[][] parts = {{}, {}, {}, {1, 2}, {0, 3}, {}, {4, 5}, {}, {}, {7, 6, 8}, {9, 6}};
        for (int k = 0; k < parts.length; k++) {
            for (int i = 0; i < parts[k].length; i++) Due.is("10 part " + k, x.part(k, i), parts[k][i]);
            Due.is("10 part behind " + k, x.part(k, parts[k].length), NONE);
            Due.is("10 part far", x.part(k, MAX), NONE);
            Due.is("10 part below 0", x.part(k, -1), BAD);
        }
        Due.is("10 no such", x.part(11, 0), BAD);
        Due.is("10 no such", x.part(-1, 0), BAD);
        Due.is("10 no such", x.part(MAX, MAX), BAD);
        x = Due.with("a|b>c&d|e", "a&b&c");
        Due.is("10 loosest last", x.part(x.knot(0, 0), 1), 5);
        Due.is("10 > of & ", x.part(5, 1), 4);
        Due.is("10 one row", x.part(x.knot(1, 0), 2), 10);
    }

    private static void promise11() {
        GuardNets x = Due.with("a&(b|c)>d", "[2a,b,c]", "p", "a");
        for (int set = 0; set < 16; set++) {
            boolean is = (set & 9) == 9 && (set & 6) != 0;
            Due.is("11 reaches", x.reaches(0, set), is ? 1 : 0);
            Due.is("11 reaches", x.reaches(1, set), Integer.bitCount(set & 7) >= 2 ? 1 : 0);
        }
        Due.is("11 others do no harm", x.reaches(2, 65535), 1);
        Due.is("11 reaches", x.reaches(2, 32767), 0);
        Due.is("11 set", x.reaches(0, -1), BAD);
        Due.is("11 set", x.reaches(0, 65536), BAD);
        Due.is("11 bad ahead of no", x.reaches(9, 65536), BAD);
        Due.is("11 no", x.reaches(9, 0), NO);
        Due.is("11 net", x.reaches(10, 0), BAD);
        Due.put(x, 4, "3&b");
        Due.put(x, 3, "c");
        Due.is("11 what it stood for stays", x.reaches(4, Due.set("ab")), 1);
        Due.is("11 what it stood for stays", x.reaches(4, Due.set("bc")), 0);
    }
}
