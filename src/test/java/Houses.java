/** Houses to begin with. Each leaves most of an object's 512 calls. */
final class Houses {
    /** A NET of 12 STEPS whose SIZE is just 400, and one of 401: | of these terms, TEXT by TEXT. */
    static final String[] TWELVE_400 = {
        "cfghkl bijk bchi dejl fjk bcdfghil gijl", "bdefj gjkl befhjl bhil hik cil aghk", "ejl gikl cegl akl bfgik dij abcdehk"};
    static final String[] TWELVE_401 = {
        "bcegjl bijk bhil ejl fjk dfghj bcdefgil", "bchi gjkl adfgik cegl hik bdefj aghk", "cil gikl bcefghkl akl fghjl dij ijl"};
    /** 200, 201 least SETS. */
    static final String WAYS_200 = "(a|b)&(c|d)&(e|f)&(g|h|i|j|k)&(l|m|n|o|p)";
    static final String WAYS_201 = "(a|b|c)&((d|e|f|g)&(h|i|j|k)&(l|m|n|o)|[2d,e,f])";
    /** 24 and 25 WAYS. */
    static final String WAYS_24 = "(a|b|c|d|e|f)&(g|h|i|j)", WAYS_25 = "(a|b|c|d|e)&(g|h|i|j|k)";

    private Houses() {
    }

    /** Some of all: NETS 0 and 1, three GUARDS, two PATROLS, two INSIDERS, three EVENTS till minute 7, an IMAGE. */
    static GuardNets common() {
        GuardNets x = Due.with("a&(b|c)>d", "[2a,0,p]");
        x.step(1, 9, 2, 250);
        x.trace(2, 6, 3);
        x.guard(2, 3);
        x.guard(4, 2);
        x.guard(1, 9);
        x.patrol();
        x.patrol();
        x.catches(0, 0, 500);
        x.catches(1, 3, 700);
        x.insider(1);
        x.insider(6);
        x.event(1, 5);
        x.event(0, 7);
        x.event(2, 7);
        x.walk(0, 2);
        x.walk(0, 0);
        x.walk(3, 7);
        x.image(0);
        x.step(2, 4, 7, 900);
        x.chance(0);
        return x;
    }

    /** All that can be full is: 80 characters, 250 KNOTS, 10 GUARDS, 6 PATROLS, 6 INSIDERS, 40 EVENTS, 4 rows of 12. */
    static final String[] FULL_TEXTS = {"p", "a|b", rowOf(40, "abcdefghijklmnop", '|') + " "};

    static GuardNets full() {
        GuardNets x = new GuardNets();
        for (String row : fullRows()) Rows.call(x, row);
        return x;
    }

    static String[] fullRows() {
        StringBuilder rows = new StringBuilder();
        for (int t = 0; t < 3; t++) {
            rows.append("erase;");
            for (char c : FULL_TEXTS[t].toCharArray()) rows.append("write ").append((int) c).append(';');
            for (int net = t == 2 ? 4 : t; net < (t == 2 ? 10 : t + 1); net++) rows.append("make ").append(net).append(';');
        }
        for (int g = 0; g < 10; g++) rows.append("guard ").append(1 << g).append(' ').append(100 * g).append(';');
        for (int p = 0; p < 6; p++) rows.append("patrol;").append("catches " + p + " " + 3 * p + " " + (1000 - p) + ";");
        for (int i = 0; i < 6; i++) rows.append("insider ").append(32768 >> i).append(';');
        for (int e = 0; e < 40; e++) rows.append("event " + e % 16 + " " + 256 * e + ";");
        for (int n = 0; n < 48; n++) rows.append("walk " + n / 12 + " " + n % 8 + ";");
        rows.append("image 0;step 15 1000 50 1000;trace 15 255 7;image 1;step 0 0 1 0");
        return rows.toString().split(";");
    }

    /** NET 0 has above 200 WAYS, NET 1 a SIZE above 400, NET 2 25 WAYS; NET 9 is not there. */
    static GuardNets spent() {
        GuardNets x = Due.with(WaysTest.PAIRS, ChancesTest.SIZE_401, WAYS_25);
        x.patrol();
        x.insider(1);
        x.guard(1, 1);
        return x;
    }

    /** A row of n letters, these again and again. */
    static String rowOf(int n, String letters, char between) {
        StringBuilder row = new StringBuilder();
        for (int i = 0; i < n; i++) {
            if (i > 0) row.append(between);
            row.append(letters.charAt(i % letters.length()));
        }
        return row.toString();
    }

    /** One NET of terms: each TEXT goes on from the NET so far. */
    static GuardNets ofTerms(String[] texts) {
        GuardNets x = new GuardNets();
        for (int t = 0; t < texts.length; t++) {
            StringBuilder text = new StringBuilder(t == 0 ? "" : "0");
            for (String term : texts[t].split(" ")) {
                if (text.length() > 0) text.append('|');
                text.append(rowOf(term.length(), term, '&'));
            }
            Due.is("make " + text, Due.put(x, 0, text.toString()), 0);
        }
        return x;
    }
}
