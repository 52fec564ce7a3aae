import java.util.ArrayList;
import java.util.List;

/** Promises 33 to 49: marks, drills, watchmen, images, counts. */
public final class MarksDrillsTest {
    private static final int MAX = Integer.MAX_VALUE, MIN = Integer.MIN_VALUE;
    private static final int NONE = GuardNets.NONE, BAD = GuardNets.BAD, NO = GuardNets.NO, FULL = GuardNets.FULL;

    public static void main(String[] args) {
        promise33();
        promise34();
        promises35And36();
        promise37();
        promise38();
        promises39And40();
        promise41();
        promise42();
        promise43();
        promise44();
        promises45To47();
        promise48();
        promise49();
        refusals();
        Due.end();
    }

    private static GuardNets marked() {
        GuardNets x = Due.with("a|b|c|d&e", "a&b", "p");
        x.trace(0, 1, 0);
        x.trace(1, 3, 0);
        x.trace(2, 6, 0);
        x.trace(3, 128, 0);
        x.trace(4, 4, 0);
        return x;
    }

    private static void promise33() {
        GuardNets x = marked();
        int[][] asked = {{0, 0, 4}, {1, 0, 2}, {2, 0, 2}, {3, 0, 1}, {4, 0, 2}, {132, 0, 1}, {8, 0, 0}, {0, 1, 2},
            {0, 2, 2}, {0, 4, 2}, {0, 7, 0}, {1, 2, 1}, {4, 128, 1}, {4, 2, 1}, {0, 255, 0}, {0, 248, 3}};
        for (int[] a : asked) Due.is("33 may " + a[0] + " " + a[1], x.may(0, a[0], a[1]), a[2]);
        Due.is("33 marks of all steps", x.may(1, 3, 4), 1);
        Due.is("33 no marks", x.may(2, 0, 255), 1);
        int[][] bad = {{1, 1}, {-1, 0}, {256, 0}, {0, -1}, {0, 256}, {255, 128}, {MAX, MIN}};
        for (int[] a : bad) {
            Due.is("33 bad", x.may(0, a[0], a[1]), BAD);
            Due.is("33 bad ahead of no", x.may(7, a[0], a[1]), BAD);
            Due.is("34 bad", x.ask(0, a[0], a[1]), BAD);
            Due.is("34 bad ahead of no", x.ask(7, a[0], a[1]), BAD);
        }
    }

    private static void promise34() {
        GuardNets x = marked();
        Due.is("34 the first that parts in halves", x.ask(0, 0, 0), 0);
        Due.is("34 another", x.ask(0, 0, 1), 1);
        Due.is("34 not the seen", x.ask(0, 1, 0), 1);
        Due.is("34 not the seen", x.ask(0, 2, 0), 0);
        Due.is("34 not the missed", x.ask(0, 0, 3), NONE);
        Due.is("34 one alone", x.ask(0, 3, 0), NONE);
        Due.is("34 none", x.ask(0, 8, 0), NONE);
        Due.is("34 one way", x.ask(1, 0, 0), NONE);
        x.trace(0, 8, 0);
        x.trace(1, 8, 0);
        x.trace(2, 72, 0);
        Due.is("34 the best part", x.ask(0, 0, 0), 2);
        x.trace(3, 0, 0);
        x.trace(4, 0, 0);
        Due.is("34 of like ones the least", x.ask(0, 0, 0), 3);
        Due.is("34 the other", x.ask(0, 8, 0), 6);
        x.trace(2, 8, 0);
        Due.is("34 no mark parts", x.ask(0, 8, 0), NONE);
    }

    private static void promises35And36() {
        GuardNets x = new GuardNets();
        Due.is("36 rest", x.rest(), 0);
        Due.is("35 event", x.event(15, 5), 1);
        Due.is("35 at once", x.event(0, 5), 2);
        Due.is("35 below the last", x.event(0, 4), BAD);
        int[][] bad = {{-1, 6}, {16, 6}, {0, -1}, {0, 10001}, {MAX, MAX}, {MIN, MIN}};
        for (int[] a : bad) Due.is("35 event", x.event(a[0], a[1]), BAD);
        for (int n = 3; n <= 40; n++) Due.is("35 event", x.event(n % 16, 10000), n);
        Due.is("35 full", x.event(0, 10000), FULL);
        Due.is("35 bad ahead of full", x.event(0, 9999), BAD);
        Due.is("36 rest", x.rest(), 40);
        Due.is("36 count", x.count(6), 0);
        Due.is("36 from 0 again", x.event(0, 0), 1);
    }

    private static void promise37() {
        GuardNets x = new GuardNets();
        Due.is("37 none", x.soon(), NONE);
        x.step(0, 1, 5, 500);
        x.step(1, 1, 2, 500);
        x.event(0, 5);
        x.event(1, 7);
        Due.is("37 just in time", x.soon(), NONE);
        x.event(1, 8);
        x.event(1, 8);
        Due.is("37 soon", x.soon(), 2);
        x.step(1, 1, 1, 500);
        Due.is("37 soon", x.soon(), 3);
        x.step(0, 1, 6, 500);
        Due.is("37 the first", x.soon(), 0);
    }

    private static void promise38() {
        GuardNets x = Due.with("a", "a|b", "a&b", "a>b", "[2a,b,c]", "a>b&c", "a>a", "(a>b)&c|d", "[2a>b,c,0]");
        int[] steps = {1, 0, 2, 1, 2, 0};
        for (int step : steps) x.event(step, 7);
        int[][] due = {{1, 1, 5, 5, 5, 5, -1}, {0, 1, 3, 3, 5, 5, -1}, {1, 3, 5, 5, -1, -1, -1}, {3, 3, -1, -1, -1, -1, -1},
            {1, 2, 3, 4, 5, -1, -1}, {3, 3, -1, -1, -1, -1, -1}, {5, 5, -1, -1, -1, -1, -1}, {3, 3, -1, -1, -1, -1, -1},
            {2, 2, 5, 5, 5, -1, -1}};
        for (int net = 0; net < due.length; net++) {
            for (int p = 0; p <= 6; p++) Due.is("38 reached " + net + " from " + p, x.reached(net, p), due[net][p]);
        }
        Due.is("38 p", x.reached(0, 7), BAD);
        Due.is("38 p", x.reached(0, -1), BAD);
        Due.is("38 bad ahead of no", x.reached(9, 7), BAD);
        Due.is("38 no", x.reached(9, 6), NO);
        x.rest();
        Due.is("38 an empty drill", x.reached(0, 0), NONE);
        Due.is("38 p", x.reached(0, 1), BAD);
        for (int n = 0; n < 40; n++) x.event(n < 39 ? 3 : 0, n);
        Due.is("38 the last event", x.reached(0, 0), 39);
        Due.is("38 the last event", x.reached(0, 39), 39);
        Due.is("38 behind it", x.reached(0, 40), NONE);
        Due.is("38 behind it", x.reached(6, 0), NONE);
    }

    private static void promises39And40() {
        GuardNets x = new GuardNets();
        Due.is("40 home", x.home(3), 0);
        for (int n = 1; n <= 12; n++) Due.is("39 walk", x.walk(3, n % 8), n);
        Due.is("39 full", x.walk(3, 0), FULL);
        Due.is("39 bad ahead of full", x.walk(3, 8), BAD);
        Due.is("39 another", x.walk(0, 7), 1);
        int[][] bad = {{-1, 0}, {4, 0}, {0, -1}, {0, 8}, {MAX, MIN}};
        for (int[] a : bad) Due.is("39 walk", x.walk(a[0], a[1]), BAD);
        Due.is("40 home", x.home(3), 12);
        Due.is("40 home", x.home(3), 0);
        Due.is("40 man", x.home(-1), BAD);
        Due.is("40 man", x.home(4), BAD);
        Due.is("40 walks nowhere", x.stands(1, 0), 0);
        Due.is("40 the other walks on", x.stands(7, 9), 1);
        Due.is("39 walk", x.walk(3, 2), 1);
    }

    private static void promise41() {
        GuardNets x = new GuardNets();
        int[][] rounds = {{2, 2, 0}, {2}, {}, {7, 2}};
        for (int man = 0; man < 4; man++) for (int place : rounds[man]) x.walk(man, place);
        for (int minute = 0; minute < 30; minute++) {
            for (int place = 0; place < 8; place++) {
                int men = 0;
                for (int[] round : rounds) if (round.length > 0 && round[minute % round.length] == place) men++;
                Due.is("41 stands " + place + " " + minute, x.stands(place, minute), men);
            }
        }
        Due.is("41 late", x.stands(2, 10000), 2);
        int[][] bad = {{-1, 0}, {8, 0}, {0, -1}, {0, 10001}, {MAX, MAX}, {MIN, MIN}};
        for (int[] a : bad) Due.is("41 stands", x.stands(a[0], a[1]), BAD);
    }

    private static void promise42() {
        GuardNets x = new GuardNets();
        Due.is("42 at once", x.begins(0, 0), 0);
        Due.is("42 the last minute", x.begins(0, 599), 599);
        Due.is("42 too late", x.begins(0, 600), NONE);
        x.step(0, 1, 50, 500);
        Due.is("42 just so", x.begins(0, 550), 550);
        Due.is("42 too late", x.begins(0, 551), NONE);
        x.step(0, 1, 3, 500);
        x.trace(0, 0, 5);
        int[] round = {5, 0, 0, 5, 0, 0, 0, 5, 0};
        for (int place : round) x.walk(1, place);
        int[] due = {4, 4, 4, 4, 4, 13, 13, 13, 13, 13, 13, 13, 13, 13, 22};
        for (int minute = 0; minute < due.length; minute++) Due.is("42 begins " + minute, x.begins(0, minute), due[minute]);
        Due.is("42 the last free time", x.begins(0, 589), 589);
        Due.is("42 none behind", x.begins(0, 590), NONE);
        x.walk(2, 5);
        Due.is("42 always watched", x.begins(0, 0), NONE);
        Due.is("42 elsewhere", x.begins(1, 7), 7);
        int[][] bad = {{-1, 0}, {16, 0}, {0, -1}, {0, 601}, {MAX, MIN}};
        for (int[] a : bad) Due.is("42 begins", x.begins(a[0], a[1]), BAD);
    }

    private static void promise43() {
        GuardNets x = rounds();
        Due.is("43 of none", x.end(0, 0), 0);
        Due.is("43 of none", x.end(0, 600), 600);
        // Place 1 is free in the minutes 3 to 5 of 6, place 2 in 0 to 2: b ahead of a is 6, a ahead of b is 9.
        Due.is("43 a", x.end(1, 0), 6);
        Due.is("43 b", x.end(2, 0), 3);
        Due.is("43 both", x.end(3, 0), 6);
        Due.is("43 both, later", x.end(3, 1), 9);
        Due.is("43 a and c", x.end(5, 0), 6);
        Due.is("43 all", x.end(7, 0), 7);
        Due.is("43 at the end", x.end(4, 599), 600);
        Due.is("43 none", x.end(4, 600), NONE);
        Due.is("43 none", x.end(3, 596), NONE);
        Due.is("43 too many", x.end(255, 0), NO);
        Due.is("43 too many, high", x.end(65280, 600), NO);
        Due.is("43 seven", x.end(127, 0), 11);
        Due.is("43 seven, high", x.end(65024, 10), 17);
        int[][] bad = {{-1, 0}, {65536, 0}, {0, -1}, {0, 601}, {65535, 601}, {MAX, MIN}};
        for (int[] a : bad) {
            Due.is("43 end", x.end(a[0], a[1]), BAD);
            Due.is("44 order", x.orderAt(a[0], a[1], 0), BAD);
        }
        for (int s = 0; s < 7; s++) x.step(s + 8, 1, 50, 500);
        Due.is("43 long", x.end(0x7F00, 250), 600);
        Due.is("43 too long", x.end(0x7F00, 251), NONE);
    }

    /** a: 3 minutes at place 1; b: 3 at place 2; all others one minute at place 0, where nobody comes. */
    private static GuardNets rounds() {
        GuardNets x = new GuardNets();
        int[] round = {1, 1, 1, 2, 2, 2};
        for (int place : round) x.walk(0, place);
        x.step(0, 1, 3, 500);
        x.step(1, 1, 3, 500);
        x.trace(0, 0, 1);
        x.trace(1, 0, 2);
        return x;
    }

    private static void order(GuardNets x, String letters, int minute, String due) {
        StringBuilder order = new StringBuilder();
        int set = Due.set(letters);
        for (int i = 0; i < due.length(); i++) {
            int step = x.orderAt(set, minute, i);
            order.append(step < 0 ? "-" : "" + (char) ('a' + step));
        }
        Due.is("44 order of " + letters + " from " + minute, order.toString(), due);
        Due.is("44 behind", x.orderAt(set, minute, due.length()), NONE);
        Due.is("44 far", x.orderAt(set, minute, MAX), NONE);
    }

    private static void promise44() {
        GuardNets x = rounds();
        order(x, "", 0, "");
        order(x, "ab", 0, "ba");
        order(x, "ab", 1, "ab");
        order(x, "ac", 0, "ca");
        order(x, "ac", 3, "ac");
        order(x, "acde", 0, "cdea");
        order(x, "abc", 0, "bac");
        order(x, "abc", 5, "cba");
        order(x, "cdefghi", 0, "cdefghi");
        order(x, "jklmnop", 9, "jklmnop");
        order(x, "ab", 596, "");
        order(x, "c", 599, "c");
        order(x, "c", 600, "");
        Due.is("44 below 0", x.orderAt(3, 0, -1), BAD);
        Due.is("44 bad ahead of no", x.orderAt(255, 0, -1), BAD);
        Due.is("44 no", x.orderAt(255, 0, 0), NO);
    }

    private static void promises45To47() {
        GuardNets x = new GuardNets();
        int[] bad = {-1, 2, MAX, MIN};
        for (int i : bad) {
            Due.is("45 image", x.image(i), BAD);
            Due.is("46 differ", x.differ(i), BAD);
            Due.is("47 from", x.from(i), BAD);
        }
        Due.is("46 none was kept", x.differ(0), NO);
        Due.is("47 none was kept", x.from(1), NO);
        Due.is("45 image", x.image(0), 1);
        Due.is("46 the other", x.differ(1), NO);
        Due.is("46 alike", x.differ(0), 0);
        x.step(0, 2, 1, 500);
        x.step(1, 1, 2, 500);
        x.step(2, 1, 1, 501);
        x.trace(3, 1, 0);
        x.trace(15, 0, 1);
        Due.is("46 differ", x.differ(0), 0x800F);
        Due.is("45 image", x.image(1), 1);
        Due.is("46 differ", x.differ(1), 0);
        x.step(0, 1, 1, 500);
        Due.is("46 as it was", x.differ(0), 0x800E);
        Due.is("46 differ", x.differ(1), 1);
        Due.is("47 from", x.from(0), 1);
        Due.is("46 alike", x.differ(0), 0);
        Due.is("46 differ", x.differ(1), 0x800F);
        Due.is("47 from", x.from(1), 1);
        int[] due = {2, 1, 1, 1, 500, 501, 1, 1};
        int[] got = {x.about(0, 0), x.about(0, 1), x.about(1, 0), x.about(2, 0), x.about(1, 2), x.about(2, 2), x.about(3, 3), x.about(15, 4)};
        for (int i = 0; i < due.length; i++) Due.is("47 about", got[i], due[i]);
        x.step(5, 9, 9, 9);
        Due.is("45 kept anew", x.image(0), 1);
        Due.is("46 differ", x.differ(0), 0);
        Due.is("46 differ", x.differ(1), 32);
    }

    private static void promise48() {
        GuardNets x = Due.with("a|b", "0&c", "0");
        x.clear();
        Due.put(x, 0, "a|b");
        Due.put(x, 4, "0&c ");
        Due.put(x, 9, "4");
        for (int n = 0; n < 3; n++) x.guard(n, n);
        for (int n = 0; n < 4; n++) x.patrol();
        for (int n = 0; n < 5; n++) x.insider(n);
        for (int n = 0; n < 7; n++) x.event(n, n);
        int[] due = {1, 5, 3, 3, 4, 5, 7};
        for (int what = 0; what < 7; what++) Due.is("48 count " + what, x.count(what), due[what]);
        int[] bad = {-1, 7, MAX, MIN};
        for (int what : bad) Due.is("48 count", x.count(what), BAD);
    }

    private static void promise49() {
        GuardNets x = new GuardNets();
        List<Integer> v = new ArrayList<>();
        for (int i = 0; i < 7; i++) v.add(0);
        for (int i = 0; i < 16; i++) v.addAll(List.of(1, 1, 500, 0, 0));
        v.addAll(List.of(0, 0, 0, 0));
        Due.is("49 digest of a new one", x.digest(), mixed(v));
        x.step(3, 7, 8, 9);
        x.trace(3, 10, 5);
        Due.put(x, 2, "a");
        Due.put(x, 7, "[2 a,2,b>c]");
        x.guard(6, 30);
        x.patrol();
        x.patrol();
        x.catches(1, 15, 77);
        x.insider(9);
        x.event(4, 6);
        x.walk(0, 3);
        x.walk(0, 4);
        x.walk(3, 1);
        v.clear();
        v.addAll(List.of(11, 6, 2, 1, 2, 1, 1));
        for (int i = 0; i < 16; i++) v.addAll(i == 3 ? List.of(7, 8, 9, 10, 5) : List.of(1, 1, 500, 0, 0));
        for (char c : "[2 a,2,b>c]".toCharArray()) v.add((int) c);
        v.addAll(List.of(2, 0, 7, 5));
        v.addAll(List.of(0, 0, 0, 0, 0, 0, 0, 1, 0, 0, 2, 0, 2, 2, 0, 2, 3, 4, 3, 2, 1, 0, 4));
        v.addAll(List.of(6, 30));
        for (int i = 0; i < 31; i++) v.add(0);
        v.addAll(List.of(77, 9, 4, 6, 2, 3, 4, 0, 0, 1, 1));
        Due.is("49 digest", x.digest(), mixed(v));
        x.image(0);
        x.chance(7);
        x.front(7);
        x.step(99, 1, 1, 1);
        Due.put(x, 7, "[2 a,2,b>c]".replace("c]", "c"));
        x.write(']');
        Due.is("49 what is refused or asked changes nothing", x.digest(), mixed(v));
    }

    private static long mixed(List<Integer> v) {
        long h = 269;
        for (int n : v) h = 31 * h + n;
        return h;
    }

    private static void refusals() {
        GuardNets x = new GuardNets();
        int[] bad = {-1, 10, MAX, MIN};
        for (int net : bad) {
            Due.is("33 bad", x.may(net, 0, 0), BAD);
            Due.is("34 bad", x.ask(net, 0, 0), BAD);
            Due.is("38 bad", x.reached(net, 0), BAD);
        }
        Due.is("33 no", x.may(0, 0, 0), NO);
        Due.is("34 no", x.ask(0, 0, 0), NO);
        Due.is("38 no", x.reached(0, 0), NO);
    }
}
