/** Promises 1 to 11 at their edges: a method for each sentence of the document that names some. */
public final class EdgesStepsTextsTest {
    private static final int MAX = Integer.MAX_VALUE, MIN = Integer.MIN_VALUE;
    private static final int NONE = GuardNets.NONE, BAD = GuardNets.BAD, NO = GuardNets.NO, FULL = GuardNets.FULL;
    private static final String EIGHT_OPEN = "((((((((";

    public static void main(String[] args) {
        theLastCallPromised();
        aNewObjectIsEmpty();
        objectsAreApart();
        numbersOfStepsAtTheirEnds();
        stepAndTraceKeepApart();
        aTextHolds80();
        aTextErasedIsEmpty();
        textsOf80();
        faultsAtTheLastPlaces();
        anEmptyTextEndsTooEarly();
        blanksStandAnywhere();
        onlyBlanksAreBlanks();
        lettersAndDigitsAtTheirEnds();
        oneAloneIsWhatItIs();
        fault1();
        fault2();
        fault3();
        fault4();
        fault5();
        fault6();
        fault6WithOthers();
        asManyPartsAsCanBe();
        fault7();
        theFirstFaultIsTold();
        aFaultChangesNothing();
        knotsAreNumberedAsTheyCome();
        netsAtTheirEnds();
        aNetAsItIsNow();
        whatANetStoodForStays();
        clearOfNoneAndOfAll();
        knotAtItsEnds();
        partsAtTheirEnds();
        reachesAtItsEnds();
        someAtLeast();
        Due.end();
    }

    private static void theLastCallPromised() {
        GuardNets x = new GuardNets();
        Rows.due("0", x, "write 97 = 1", "write 38 = 2", "write 98 = 3", "make 0 = 0");
        for (int call = 5; call < 511; call++) Due.is("0 call " + call, x.event(0, 1), call < 45 ? call - 4 : FULL);
        Rows.due("0 the last two", x, "ways 0 = 1", "wayAt 0 0 = 3");
    }

    private static void aNewObjectIsEmpty() {
        GuardNets x = new GuardNets();
        Rows.due("1", x, "limbs 1 = 1", "limb 1 0 = 1", "limb 1 1 = -1", "soon = -1", "differ 0 = -3", "differ 1 = -3",
            "from 0 = -3", "from 1 = -3", "part 0 0 = -2", "catches 0 0 0 = -2", "reached 0 0 = -3", "reached 0 1 = -2",
            "worst 0 0 0 = -3", "worst 0 1 0 = -2", "holds 0 0 = -3", "holds 0 1 = -2", "make 0 = 2", "make 9 = 2",
            "erase = 0", "clear = 0", "rest = 0", "home 0 = 0", "home 3 = 0", "stands 0 0 = 0", "stands 7 10000 = 0",
            "end 65408 0 = -3", "end 127 0 = 7", "count 0 = 0", "count 6 = 0");
        for (int net = 0; net < 10; net++) Due.is("1 no net " + net, x.ways(net), NO);
    }

    private static void objectsAreApart() {
        GuardNets x = Houses.full();
        GuardNets y = new GuardNets();
        String fresh = Rows.state(new GuardNets());
        Due.is("1 beside a full one", Rows.state(y), fresh);
        y.write('a');
        y.make(0);
        y.chance(0);
        Due.is("1 the full one", Rows.state(x), Rows.state(Houses.full()));
    }

    private static void numbersOfStepsAtTheirEnds() {
        int[][] ends = {{0, 1000}, {1, 50}, {0, 1000}, {0, 255}, {0, 7}};
        int[] steps = {0, 15};
        for (int step : steps) {
            for (int what = 0; what < 5; what++) {
                for (int end : ends[what]) {
                    GuardNets x = new GuardNets();
                    int[] now = {1, 1, 500, 0, 0};
                    now[what] = end;
                    int put = what < 3 ? x.step(step, now[0], now[1], now[2]) : x.trace(step, now[3], now[4]);
                    Due.is("2 3 number " + what + " at " + end, put, 1);
                    for (int n = 0; n < 5; n++) Due.is("4 about " + step + " " + n, x.about(step, n), now[n]);
                    Due.is("4 the other step", x.about(15 - step, what), what < 2 ? 1 : what == 2 ? 500 : 0);
                }
            }
        }
    }

    private static void stepAndTraceKeepApart() {
        GuardNets x = new GuardNets();
        Rows.due("2 3", x, "trace 7 255 7 = 1", "step 7 1000 50 1000 = 1", "about 7 3 = 255", "about 7 4 = 7",
            "trace 7 0 0 = 1", "about 7 0 = 1000", "about 7 1 = 50", "about 7 2 = 1000", "step 7 0 1 0 = 1",
            "about 6 0 = 1", "about 8 0 = 1", "about 6 3 = 0", "about 8 4 = 0");
    }

    private static void aTextHolds80() {
        GuardNets x = new GuardNets();
        for (int n = 1; n <= 79; n++) Due.is("5 write", x.write(32), n);
        Rows.due("5", x, "write 97 = 80", "count 0 = 80");
        Rows.refused("5", x, "write 97", FULL);
        Rows.refused("5", x, "write 0", FULL);
        Rows.refused("5 bad ahead of full", x, "write 128", BAD);
        Rows.refused("5 bad ahead of full", x, "write -1", BAD);
        Rows.due("5 the 81st is not there", x, "make 0 = 0", "knot 0 4 = 1");
    }

    private static void aTextErasedIsEmpty() {
        GuardNets x = new GuardNets();
        Due.text(x, Houses.FULL_TEXTS[2]);
        Rows.due("6", x, "erase = 80", "count 0 = 0", "make 0 = 2", "erase = 0", "write 0 = 1", "write 127 = 2", "erase = 2",
            "write 112 = 1", "make 0 = 0", "knot 0 4 = 32768");
    }

    private static String blanks(int n) {
        return " ".repeat(n);
    }

    private static void fault(String text, int due) {
        GuardNets x = new GuardNets();
        Due.is("7 \"" + text + "\"", Due.put(x, 0, text), due);
        Due.is("7 characters of \"" + text + "\"", x.count(0), text.length());
        if (due != 0) Due.is("7 knots of \"" + text + "\"", x.count(1), 0);
        Due.is("7 nets of \"" + text + "\"", x.count(2), due == 0 ? 1 : 0);
    }

    private static void textsOf80() {
        fault(blanks(79) + "p", 0);
        fault("p" + blanks(79), 0);
        fault(blanks(40) + "p" + blanks(39), 0);
        fault(Houses.rowOf(40, "abc", '&') + " ", 0);
        fault(blanks(63) + "((((((((p))))))))", 0);
        fault("(" + Houses.rowOf(39, "abc", '>') + ")", 0);
        fault("[1" + Houses.rowOf(38, "abc", '>') + " ]", 0);
        GuardNets x = Due.with(Houses.rowOf(40, "abcdefghijklmnop", '|'));
        Rows.due("9 40 parts", x, "knot 0 0 = 40", "knot 0 2 = 40", "knot 0 4 = 65535", "part 40 39 = 39", "part 40 40 = -1");
    }

    private static void faultsAtTheLastPlaces() {
        fault(blanks(79) + "q", 791);
        fault(blanks(78) + "a)", 791);
        fault(blanks(79) + "|", 791);
        fault(blanks(80), 802);
        fault(blanks(79) + "(", 802);
        fault(Houses.rowOf(40, "ab", '|') + "|", 802);
        fault(blanks(79) + "0", 793);
        fault(blanks(76) + "[0a]", 774);
        fault(blanks(71) + EIGHT_OPEN + "(", 795);
        fault(blanks(71) + EIGHT_OPEN + "[", 795);
        fault(blanks(62) + "[1a,b,c,d,e,f,g,h,", 797);
    }

    private static void anEmptyTextEndsTooEarly() {
        fault("", 2);
        fault(" ", 12);
        fault("   ", 32);
    }

    private static void blanksStandAnywhere() {
        String close = "[2(a),b&c,[1d]]>e|(a|b)";
        StringBuilder wide = new StringBuilder("  ");
        for (char c : close.toCharArray()) wide.append(c).append("  ");
        GuardNets x = Due.with(close), y = Due.with(wide.toString());
        x.erase();
        y.erase();
        Due.is("7 blanks", y.digest(), x.digest());
        Due.is("7 all of it", x.count(1), 13);
    }

    private static void onlyBlanksAreBlanks() {
        for (char c = 0; c < 128; c++) {
            boolean fine = c == ' ' || c == '&' || c == '>' || c == '|';
            fault("a" + c, fine ? c == ' ' ? 0 : 22 : 11);
            boolean part = c >= 'a' && c <= 'p';
            int due = part ? 0 : c == ' ' || c == '(' || c == '[' ? 12 : c >= '0' && c <= '9' ? 3 : 1;
            fault("" + c, due);
        }
    }

    private static void lettersAndDigitsAtTheirEnds() {
        GuardNets x = Due.with("a", "p");
        Rows.due("9", x, "knot 0 2 = 0", "knot 1 2 = 15", "knot 0 4 = 1", "knot 1 4 = 32768");
        Due.is("7 digit 0", Due.put(x, 9, "0"), 0);
        Due.is("7 digit 9", Due.put(x, 8, "9&1"), 0);
        Due.is("7 digit 9", x.knot(8, 4), 32769);
    }

    private static void oneAloneIsWhatItIs() {
        GuardNets x = Due.with("a", "(a)", "((((((((a))))))))", "[1a]", "[1[1a]]", "(a|b)", "((a|b))&c", "0", "(7)", "[1 7]");
        int[] sorts = {0, 0, 0, 4, 4, 1, 3, 0, 0, 4};
        int[] numbers = {0, 1, 2, 4, 7, 10, 15, 0, 0, 16};
        for (int net = 0; net < 10; net++) {
            Due.is("9 sort of " + net, x.knot(net, 1), sorts[net]);
            Due.is("9 number of " + net, x.knot(net, 0), numbers[net]);
        }
        Rows.due("10", x, "part 4 0 = 3", "part 4 1 = -1", "part 7 0 = 6", "part 16 0 = 0", "part 15 0 = 13", "part 15 1 = 14");
    }

    private static void fault1() {
        fault("a a", 21);
        fault("ab", 11);
        fault("a(b)", 11);
        fault("(a)(b)", 31);
        fault("(a)[1b]", 31);
        fault("[1a][1b]", 41);
        fault("[1a]b", 41);
        fault("a]", 11);
        fault("a,", 11);
        fault("(a,", 21);
        fault("[1a)", 31);
        fault("(a]", 21);
        fault("[a]", 11);
        fault("[ (", 21);
        fault("[]", 11);
        fault("[,", 11);
        fault("[/a]", 11);
        fault("[:a]", 11);
        fault("[1]", 21);
        fault("[1,", 21);
        fault("[1a,]", 41);
        fault("[1a,,", 41);
        fault("[1a|]", 41);
        fault("()", 11);
        fault("|a", 1);
        fault("a||b", 21);
        fault("a>&b", 21);
        GuardNets x = Due.with("a");
        Due.is("7 a digit behind a whole net", Due.put(x, 1, "a0"), 11);
        Due.is("7 a digit behind a digit", Due.put(x, 1, "00"), 11);
        Due.is("7 a digit behind [ is not a net", Due.put(x, 1, "[1 0]"), 0);
        Due.is("7 two behind it", Due.put(x, 1, "[100]"), 31);
    }

    private static void fault2() {
        String[] texts = {"a|", "a>", "a&", "(", "(a", "(a|", "[", "[1", "[1a", "[1a,", "[1a,b", "[0a", "[9a", "((a)", "[1[1a]", EIGHT_OPEN};
        for (String text : texts) {
            fault(text, 10 * text.length() + 2);
            fault(text + "  ", 10 * text.length() + 22);
        }
    }

    private static void fault3() {
        fault("0", 3);
        fault("9", 3);
        fault("a|5", 23);
        fault("(((7", 33);
        fault("[1 0]", 33);
        fault("[2a,0", 43);
        GuardNets x = Due.with("a");
        for (int net = 1; net < 10; net++) Due.is("7 not there", Due.put(x, 1, "0|" + net), 23);
        Due.is("7 not itself, as it is not yet", Due.put(x, 1, "1"), 3);
        x.clear();
        Due.is("7 not there any more", Due.put(x, 0, "0"), 3);
    }

    private static void fault4() {
        fault("[1a]", 0);
        fault("[0a]", 14);
        fault("[2a]", 14);
        fault("[9a]", 14);
        fault("[8a,b,c,d,e,f,g,h]", 0);
        fault("[9a,b,c,d,e,f,g,h]", 14);
        fault("[8a,b,c,d,e,f,g]", 14);
        fault("[7a,b,c,d,e,f,g]", 0);
        fault("[0a,b,c,d,e,f,g,h]", 14);
        fault("a| [  0  a  ]", 64);
        fault("[1a,[3b,c]]", 54);
        fault("[3a,[1b,c]]", 14);
        fault("[0[0a]]", 34);
    }

    private static void fault5() {
        fault(EIGHT_OPEN + "a))))))))", 0);
        fault("[1[1[1[1[1[1[1[1a]]]]]]]]", 0);
        fault("([1([1([1([1a])])])])", 0);
        fault(EIGHT_OPEN + "(", 85);
        fault(EIGHT_OPEN + "[", 85);
        fault(EIGHT_OPEN + "  (", 105);
        fault("[1[1[1[1[1[1[1[1[", 165);
        fault("[1[1[1[1[1[1[1[1(", 165);
        fault("([1([1([1([1(", 125);
        fault(EIGHT_OPEN + "a&(", 105);
        fault(EIGHT_OPEN + "a)|(b)))))))))", 211);
        fault(EIGHT_OPEN + "a)|(b))))))))", 0);
        fault(EIGHT_OPEN + "a)|((", 125);
        fault("(((((((" + "[1a,(", 115);
        fault("(((((((" + "[1a,b]|(c)|[1d])))))))", 0);
        // Behind a whole part no ( can stand, however many are open.
        fault(EIGHT_OPEN + "a(", 91);
        fault("[1[1[1[1[1[1[1[[", 151);
    }

    /** 249 KNOTS; NET 0 is | of a and b. */
    private static GuardNets almostFull() {
        GuardNets x = new GuardNets();
        Due.text(x, "a|b");
        for (int n = 0; n < 83; n++) Due.is("7 make", x.make(0), 0);
        Due.is("7 knots", x.count(1), 249);
        return x;
    }

    private static void fault6() {
        GuardNets x = almostFull();
        Due.is("7 250 are not above", Due.put(x, 1, "p"), 0);
        Due.is("7 knots", x.count(1), 250);
        Due.is("9 the last number", x.knot(1, 0), 249);
        Due.text(x, "a");
        Rows.refused("7 one letter above", x, "make 2", 16);
        Due.text(x, "[1 0]");
        Rows.refused("7 one [ above", x, "make 2", 56);
        Due.text(x, "0|1");
        Rows.refused("7 one row above", x, "make 0", 36);
        Due.text(x, " 0 ");
        Rows.due("7 a digit adds none", x, "make 2 = 0", "knot 2 0 = 248", "count 1 = 250");
        Due.text(x, "((1))");
        Rows.due("7 nor do ( and )", x, "make 3 = 0", "knot 3 0 = 249", "part 249 0 = -1", "part 250 0 = -2");
        x = almostFull();
        Due.text(x, "0|0");
        Rows.due("7 a row is one", x, "make 1 = 0", "count 1 = 250");
        x = almostFull();
        Due.text(x, "[1 0]");
        Rows.due("7 a [ is one", x, "make 1 = 0", "count 1 = 250");
        x = almostFull();
        Due.text(x, "0|a");
        Rows.refused("7 two more", x, "make 1", 36);
        Due.text(x, "0|0");
        Rows.due("7 room for one is left", x, "make 1 = 0", "knot 1 0 = 249");
    }

    /** It is told at the end of a whole TEXT alone: ahead of that any other fault is met. */
    private static void fault6WithOthers() {
        String many = Houses.rowOf(39, "abcdefgh", '|');
        String[] texts = {many + "| ", many + ")", many + "|9", many + "q", many + "  ", many + "|a", many, many + "|a ", "  " + many + " "};
        int[] faults = {792, 771, 783, 771, 796, 796, 776, 806, 806};
        for (int i = 0; i < texts.length; i++) {
            GuardNets x = almostFull();
            Due.is("7 with 249 knots \"" + texts[i] + "\"", Due.put(x, 1, texts[i]), faults[i]);
            Due.is("7 knots", x.count(1), 249);
            Due.is("7 the net is not there", x.knot(1, 0), NO);
        }
        GuardNets x = almostFull();
        Due.is("8 all go", x.clear(), 249);
        Due.is("7 room again", Due.put(x, 1, many), 0);
        Due.is("7 knots", x.count(1), 40);
    }

    /** 249 rows of 40 parts each. */
    private static void asManyPartsAsCanBe() {
        GuardNets x = Due.with("p");
        Due.text(x, Houses.rowOf(40, "0", '&'));
        for (int n = 1; n < 250; n++) Due.is("7 make", x.make(n == 1 ? 1 : 0), 0);
        Rows.refused("7 one row above", x, "make 0", 796);
        Rows.due("10 parts of all", x, "count 1 = 250", "knot 0 0 = 249", "knot 0 2 = 40", "knot 0 4 = 32768", "part 1 0 = 0", "part 1 39 = 0", "part 2 0 = 0",
            "part 3 0 = 2", "part 3 39 = 2", "part 12 39 = 11", "part 13 0 = 12", "part 14 39 = 13", "part 26 7 = 25", "part 249 0 = 248", "part 249 39 = 248",
            "part 249 40 = -1", "ways 0 = 1", "wayAt 0 0 = 32768", "size 0 = 1", "reaches 0 32768 = 1", "reaches 0 32767 = 0", "many 0 = 1");
    }

    private static void fault7() {
        fault("[8a,b,c,d,e,f,g,h]", 0);
        fault("[1a,b,c,d,e,f,g,h,", 177);
        fault("[1a,b,c,d,e,f,g,h,i]", 177);
        fault("[1a,b,c,d,e,f,g,h ,", 187);
        fault("[0a,b,c,d,e,f,g,h,", 177);
        fault("[1a|b,b,c,d,e,f,g,(h),", 217);
        fault("[1[1a,b,c,d,e,f,g,h],b,c,d,e,f,g,h]", 0);
        fault("[1[1a,b,c,d,e,f,g,h,],b]", 197);
        fault("[1a,b,c,d,e,f,g,[1a,b]]", 0);
        fault("[1a,b,c,d,e,f,g,[1a,b],", 227);
    }

    private static void theFirstFaultIsTold() {
        fault("q 0", 1);
        fault("0 q", 3);
        fault("[9a,0]", 43);
        fault("[0a|]", 41);
        fault("[0a)", 31);
        fault("[0a] q", 14);
        fault("[0q]", 21);
        fault("a|9|q", 23);
        fault("a b 9", 21);
        fault("(((((((((0", 85);
        fault("0(((((((((", 3);
        fault("[1a,b,c,d,e,f,g,h,0", 177);
        fault("[1a,b,c,d,e,f,g,0,", 163);
    }

    private static void aFaultChangesNothing() {
        GuardNets x = Houses.common();
        String[] texts = {"", "q", "a&b&(c|d|q", "9", "a|[0b]", "a>b>(((((((((", "c&[1a,b,c,d,e,f,g,h,i]"};
        for (int i = 0; i < texts.length; i++) {
            Due.text(x, texts[i]);
            String before = Rows.state(x);
            Due.is("7 \"" + texts[i] + "\" is at fault", x.make(i % 2) % 10 > 0 ? 1 : 0, 1);
            Due.is("7 the net and the knots stay behind \"" + texts[i] + "\"", Rows.state(x), before);
        }
        Due.text(x, "p");
        Rows.due("7 the next number is the next", x, "count 1 = 10", "make 9 = 0", "knot 9 0 = 10", "part 10 0 = -1");
    }

    private static void knotsAreNumberedAsTheyCome() {
        GuardNets x = Due.with("a&b>c|d", "[2a&b,(c),0]|d>e");
        int[][] parts = {{}, {}, {0, 1}, {}, {2, 3}, {}, {4, 5}, {}, {}, {7, 8}, {}, {9, 10, 6}, {}, {}, {12, 13}, {11, 14}};
        int[] letters = {0, 1, -1, 2, -1, 3, -1, 0, 1, -1, 2, -1, 3, 4, -1, -1};
        int[] sorts = {0, 0, 3, 0, 2, 0, 1, 0, 0, 3, 0, 4, 0, 0, 2, 1};
        Due.is("9 knots", x.count(1), 16);
        for (int k = 0; k < 16; k++) {
            for (int i = 0; i < parts[k].length; i++) Due.is("10 part " + k + " " + i, x.part(k, i), parts[k][i]);
            Due.is("10 behind the parts of " + k, x.part(k, parts[k].length), NONE);
        }
        long h = digestOf(letters, sorts, parts);
        x.erase();
        Due.is("49 sorts, steps and parts", x.digest(), h);
    }

    /** The digest of two NETS, 6 and 15, of these KNOTS, where of [ two are enough. */
    private static long digestOf(int[] letters, int[] sorts, int[][] parts) {
        long h = 269;
        int[] counts = {0, 16, 2, 0, 0, 0, 0};
        for (int v : counts) h = 31 * h + v;
        int[] first = {1, 1, 500, 0, 0};
        for (int i = 0; i < 80; i++) h = 31 * h + first[i % 5];
        int[] nets = {0, 6, 1, 15};
        for (int v : nets) h = 31 * h + v;
        for (int k = 0; k < 16; k++) {
            h = 31 * h + sorts[k];
            h = 31 * h + (sorts[k] == 0 ? letters[k] : parts[k].length);
            h = 31 * h + (sorts[k] == 4 ? 2 : 0);
            for (int part : parts[k]) h = 31 * h + part;
        }
        for (int man = 0; man < 4; man++) h = 31 * h;
        return h;
    }

    private static void netsAtTheirEnds() {
        GuardNets x = new GuardNets();
        Due.text(x, "b");
        Rows.due("7", x, "make 0 = 0", "count 2 = 1", "make 9 = 0", "count 2 = 2", "knot 0 0 = 0", "knot 9 0 = 1", "make 9 = 0",
            "count 2 = 2", "knot 9 0 = 2", "knot 1 0 = -3", "knot 8 0 = -3");
        int[] bad = {-1, 10, 256, 65536, MAX, MIN};
        for (int net : bad) Rows.refused("7", x, "make " + net, BAD);
        Due.text(x, "q");
        Due.is("7 bad ahead of a fault", x.make(10), BAD);
    }

    private static void aNetAsItIsNow() {
        GuardNets x = Due.with("a", "b");
        Due.is("7 swapped", Due.put(x, 2, "0") + Due.put(x, 0, "1") + Due.put(x, 1, "2"), 0);
        Rows.due("7", x, "knot 0 0 = 1", "knot 1 0 = 0", "count 1 = 2");
        Due.is("7 itself, twice", Due.put(x, 0, "0&0"), 0);
        Rows.due("7", x, "knot 0 0 = 2", "part 2 0 = 1", "part 2 1 = 1", "knot 0 4 = 2");
    }

    private static void whatANetStoodForStays() {
        GuardNets x = Due.with("a|b", "0&c", "1>d");
        Due.is("7 others come", Due.put(x, 0, "p") + Due.put(x, 1, "o"), 0);
        Rows.due("7", x, "knot 2 4 = 15", "reaches 2 14 = 1", "reaches 2 13 = 1", "reaches 2 12 = 0", "ways 2 = 2", "count 1 = 9");
        Due.is("7 a fault", Due.put(x, 2, "q"), 1);
        Rows.due("7 stays", x, "knot 2 4 = 15");
    }

    private static void clearOfNoneAndOfAll() {
        GuardNets x = new GuardNets();
        Rows.due("8", x, "clear = 0", "clear = 0", "count 1 = 0");
        x = Houses.full();
        Rows.due("8", x, "count 1 = 250", "count 2 = 8", "clear = 250", "count 1 = 0", "count 2 = 0", "clear = 0", "count 0 = 80",
            "count 3 = 10", "count 4 = 6", "count 5 = 6", "count 6 = 40", "home 3 = 12", "part 0 0 = -2", "part 249 0 = -2");
        for (int net = 0; net < 10; net++) Due.is("8 no net " + net, x.knot(net, 0), NO);
        Rows.due("8 numbers begin again", x, "make 9 = 0", "knot 9 0 = 40", "count 1 = 41");
    }

    private static void knotAtItsEnds() {
        GuardNets x = Due.with("p", "[1p]", "[8a,b,c,d,e,f,g,h]", "a|p", "a>p", "a&p");
        Rows.due("9", x, "knot 0 0 = 0", "knot 0 1 = 0", "knot 0 2 = 15", "knot 0 3 = 0", "knot 0 4 = 32768",
            "knot 1 1 = 4", "knot 1 2 = 1", "knot 1 3 = 1", "knot 2 1 = 4", "knot 2 2 = 8", "knot 2 3 = 8", "knot 2 4 = 255",
            "knot 3 1 = 1", "knot 3 3 = 0", "knot 4 1 = 2", "knot 4 3 = 0", "knot 5 1 = 3", "knot 5 3 = 0");
        Due.is("9 a net not there, for any what", x.knot(9, 0), NO);
        Due.is("9 a net not there, for any what", x.knot(9, 4), NO);
        Due.is("9 bad ahead of no", x.knot(9, 5), BAD);
        Due.is("9 bad ahead of no", x.knot(9, -1), BAD);
    }

    private static void partsAtTheirEnds() {
        GuardNets x = Due.with("a|b|c", "[2 0,d]");
        Rows.due("10", x, "part 3 0 = 0", "part 3 2 = 2", "part 3 3 = -1", "part 3 2147483647 = -1", "part 3 -1 = -2",
            "part 3 -2147483648 = -2", "part 0 0 = -1", "part 0 -1 = -2", "part 5 0 = 3", "part 5 1 = 4", "part 5 2 = -1",
            "part 6 0 = -2", "part 6 -1 = -2", "part -1 0 = -2", "part -1 9 = -2", "part 2147483647 0 = -2");
        Due.put(x, 2, "a|b|");
        Rows.due("10 of a text at fault no knot is there", x, "part 6 0 = -2", "part 8 0 = -2");
    }

    private static void reachesAtItsEnds() {
        GuardNets x = Due.with("a", "p", "a|b|c|d|e|f|g|h|i|j|k|l|m|n|o|p", "a&b&c&d&e&f&g&h&i&j&k&l&m&n&o&p");
        for (int net = 0; net < 4; net++) {
            Due.is("11 by no steps", x.reaches(net, 0), 0);
            Due.is("11 by all steps", x.reaches(net, 65535), 1);
        }
        Rows.due("11", x, "reaches 0 1 = 1", "reaches 0 65534 = 0", "reaches 1 32768 = 1", "reaches 1 32767 = 0", "reaches 2 32768 = 1",
            "reaches 2 1 = 1", "reaches 3 65534 = 0", "reaches 3 32767 = 0", "reaches 0 65536 = -2", "reaches 0 -1 = -2",
            "reaches 9 0 = -3", "reaches 9 65535 = -3", "reaches 9 65536 = -2");
    }

    private static void someAtLeast() {
        for (int need = 1; need <= 8; need++) {
            GuardNets x = Due.with("[" + need + "a,b,c,d,e,f,g,h]");
            for (int have = 0; have <= 8; have++) Due.is("11 " + have + " for " + need, x.reaches(0, (1 << have) - 1), have >= need ? 1 : 0);
        }
        GuardNets x = Due.with("a", "[2 0,0]", "[2 0,a&b,b]");
        Rows.due("11 a part that stands twice counts twice", x, "reaches 1 1 = 1", "reaches 2 1 = 0", "reaches 2 3 = 1", "reaches 2 2 = 0");
    }
}
