/** Promises 33 to 49 at their edges: a method for each sentence of the document that names some. */
public final class EdgesDrillsTest {
    private static final int MAX = Integer.MAX_VALUE, MIN = Integer.MIN_VALUE;
    private static final int NONE = GuardNets.NONE, BAD = GuardNets.BAD, NO = GuardNets.NO, FULL = GuardNets.FULL, SPENT = GuardNets.SPENT;

    public static void main(String[] args) {
        marksAtTheirEnds();
        oneInCommon();
        mayOf200Ways();
        askOfFewerThanTwo();
        askWhereNonePart();
        askForTheEvenestMark();
        askTheFirstAndTheLastMark();
        eventsAtTheirEnds();
        aMinuteBelowTheLast();
        fortyEventsAreFull();
        restOfNoneAndOfAll();
        soonOfNone();
        soonBehind0();
        soonJustInTime();
        soonAtTheLastEvent();
        reachedAtItsEnds();
        reachedFromTheLastEvent();
        chainsGoOnBehind();
        aChainOf40();
        someThatAreReached();
        noneIfOneIsNeeded();
        reachedAtTheFirstEvent();
        twelvePlacesAreFull();
        homeOfNoneAndOfAll();
        roundsBeginAgain();
        standsAtItsEnds();
        beginsAtItsEnds();
        beginsBesideAWatchman();
        endOfNoSteps();
        endOfSevenAndEightSteps();
        endAt600();
        endBesideWatchmen();
        orderAtItsEnds();
        ordersOfLikeEnds();
        ordersThatWait();
        eachAsSoonAsItMayBe();
        imagesAtTheirEnds();
        eachNumberDiffers();
        fromAnImage();
        countsAtTheirEnds();
        digestsAtTheirEnds();
        whatIsRefused();
        Due.end();
    }

    private static void marksAtTheirEnds() {
        GuardNets x = Due.with("a|p", "a&p");
        x.trace(0, 255, 0);
        Rows.due("33", x, "may 0 0 0 = 2", "may 0 255 0 = 1", "may 0 0 255 = 1", "may 0 1 0 = 1", "may 0 128 0 = 1", "may 0 127 128 = 0", "may 0 0 128 = 1",
            "may 1 255 0 = 1", "may 1 0 1 = 0");
        x.trace(0, 1, 0);
        x.trace(15, 128, 0);
        Rows.due("33", x, "may 0 1 128 = 1", "may 0 128 1 = 1", "may 0 129 0 = 0", "may 1 129 0 = 1", "may 1 129 126 = 1", "may 1 255 0 = 0");
        int[][] bad = {{-1, 0}, {256, 0}, {0, -1}, {0, 256}, {MAX, 0}, {MIN, 0}, {0, MAX}, {0, MIN}};
        for (int[] a : bad) {
            Rows.refused("33", Houses.common(), "may 0 " + a[0] + " " + a[1], BAD);
            Rows.refused("34", Houses.common(), "ask 0 " + a[0] + " " + a[1], BAD);
        }
    }

    private static void oneInCommon() {
        int[][] pairs = {{1, 1}, {128, 128}, {255, 255}, {129, 128}, {3, 6}, {255, 1}};
        for (int[] pair : pairs) {
            Rows.refused("33", Houses.common(), "may 0 " + pair[0] + " " + pair[1], BAD);
            Rows.refused("34", Houses.common(), "ask 0 " + pair[0] + " " + pair[1], BAD);
            Rows.refused("33 ahead of no", Houses.common(), "may 9 " + pair[0] + " " + pair[1], BAD);
            Rows.refused("34 ahead of spent", Houses.spent(), "ask 0 " + pair[0] + " " + pair[1], BAD);
        }
        GuardNets x = Houses.common();
        Rows.due("33 none in common", x, "may 0 1 254 = 0", "may 0 170 85 = 0", "may 0 0 0 = 2", "may 9 0 0 = -3", "ask 9 0 0 = -3");
    }

    private static void mayOf200Ways() {
        GuardNets x = Due.with(Houses.WAYS_200, Houses.WAYS_201);
        x.trace(0, 128, 0);
        x.trace(11, 1, 0);
        Rows.due("33 all of 200", x, "may 0 0 0 = 200", "may 0 128 0 = 100", "may 0 0 1 = 160", "ask 0 0 0 = 7", "ask 0 128 0 = 0", "may 1 0 0 = -5", "ask 1 0 0 = -5");
    }

    private static void askOfFewerThanTwo() {
        GuardNets x = Due.with("a", "a|b|c");
        x.trace(0, 255, 0);
        x.trace(1, 3, 0);
        Rows.due("34 one way", x, "ask 0 0 0 = -1", "may 0 0 0 = 1");
        Rows.due("34 one that may", x, "may 1 4 0 = 1", "ask 1 4 0 = -1", "may 1 0 3 = 1", "ask 1 0 3 = -1");
        Rows.due("34 two that may", x, "may 1 3 0 = 2", "ask 1 3 0 = 2", "may 1 0 4 = 2", "ask 1 0 4 = 0");
        Rows.due("34 none that may", x, "may 1 4 1 = 0", "ask 1 4 1 = -1");
    }

    private static void askWhereNonePart() {
        GuardNets x = Due.with("a|b|c");
        Rows.due("34 no marks", x, "ask 0 0 0 = -1", "may 0 0 0 = 3");
        for (int s = 0; s < 3; s++) x.trace(s, 255, 0);
        Rows.due("34 all have all", x, "ask 0 0 0 = -1", "ask 0 255 0 = -1", "may 0 255 0 = 3");
        x.trace(1, 239, 0);
        Rows.due("34 one parts", x, "ask 0 0 0 = 4", "ask 0 239 0 = 4", "ask 0 16 0 = -1", "ask 0 0 16 = -1");
        x = Due.with("a&d|b&d|c&d");
        x.trace(0, 1, 0);
        x.trace(3, 1, 0);
        Rows.due("34 all have it by a step that they share", x, "ask 0 0 0 = -1");
    }

    private static void askForTheEvenestMark() {
        GuardNets x = Due.with("a|b|c|d|e");
        int[] marks = {1, 3, 7, 15, 31};
        for (int s = 0; s < 5; s++) x.trace(s, marks[s], 0);
        Rows.due("34 two and three, of like ones the least", x, "ask 0 0 0 = 2", "ask 0 4 0 = 3", "ask 0 0 8 = 1", "ask 0 2 0 = 3", "ask 0 0 2 = -1");
        x.trace(4, 8, 0);
        Rows.due("34 without it may be fewer, too", x, "ask 0 0 0 = 1");
        for (int s = 0; s < 5; s++) x.trace(s, 1 << 7 - s, 0);
        Rows.due("34 one to four each", x, "ask 0 0 0 = 3", "ask 0 0 8 = 4");
        x.trace(0, 248, 0);
        Rows.due("34 one to four, and two to three", x, "ask 0 0 0 = 3");
        x.trace(1, 68, 0);
        Rows.due("34 of like ones the least", x, "ask 0 0 0 = 3", "ask 0 0 4 = 3");
    }

    private static void askTheFirstAndTheLastMark() {
        GuardNets x = Due.with("a|b");
        for (int mark = 0; mark < 8; mark++) {
            x.trace(0, 1 << mark, 0);
            Due.is("34 mark " + mark, x.ask(0, 0, 0), mark);
            Due.is("34 not the seen", x.ask(0, 1 << mark, 0), NONE);
            Due.is("34 not the missed", x.ask(0, 0, 1 << mark), NONE);
            Due.is("34 others missed", x.ask(0, 0, 255 - (1 << mark)), mark);
        }
    }

    private static void eventsAtTheirEnds() {
        int[][] fine = {{0, 0}, {15, 0}, {0, 10000}, {15, 10000}};
        for (int[] a : fine) Due.is("35", new GuardNets().event(a[0], a[1]), 1);
        int[][] bad = {{-1, 0}, {16, 0}, {0, -1}, {0, 10001}, {MAX, 0}, {MIN, 0}, {0, MAX}, {0, MIN}};
        for (int[] a : bad) Rows.refused("35", Houses.common(), "event " + a[0] + " " + a[1], BAD);
    }

    private static void aMinuteBelowTheLast() {
        GuardNets x = new GuardNets();
        Rows.due("35", x, "event 0 0 = 1", "event 1 0 = 2", "event 2 5 = 3", "event 3 5 = 4");
        Rows.refused("35", x, "event 0 4", BAD);
        Rows.refused("35", x, "event 0 0", BAD);
        Rows.due("35", x, "event 0 10000 = 5", "event 1 10000 = 6");
        Rows.refused("35", x, "event 0 9999", BAD);
        Rows.refused("35", x, "event 0 10001", BAD);
        Rows.due("35 an empty drill begins at 0", x, "rest = 6", "event 0 0 = 1");
    }

    private static void fortyEventsAreFull() {
        GuardNets x = Due.with("p");
        for (int n = 1; n <= 39; n++) Due.is("35 event", x.event(0, 7), n);
        Rows.due("35", x, "event 15 7 = 40", "count 6 = 40", "reached 0 0 = 39", "reached 0 40 = -1");
        Rows.refused("35 full", x, "event 0 7", FULL);
        Rows.refused("35 full", x, "event 15 10000", FULL);
        Rows.refused("35 bad ahead of full", x, "event 0 6", BAD);
        Rows.refused("35 bad ahead of full", x, "event 16 7", BAD);
        Rows.refused("38 a 41st", x, "reached 0 41", BAD);
    }

    private static void restOfNoneAndOfAll() {
        GuardNets x = Due.with("a");
        Rows.due("36", x, "rest = 0", "rest = 0", "event 0 10000 = 1", "rest = 1", "rest = 0", "soon = -1", "reached 0 0 = -1", "reached 0 1 = -2");
        x = Houses.full();
        Rows.due("36", x, "rest = 40", "count 6 = 0", "rest = 0", "event 15 0 = 1", "count 6 = 1");
    }

    private static void soonOfNone() {
        GuardNets x = new GuardNets();
        Rows.due("37 an empty drill", x, "soon = -1", "event 0 1 = 1", "soon = -1", "rest = 1", "event 0 0 = 1", "soon = 0", "rest = 1", "soon = -1");
    }

    private static void soonBehind0() {
        GuardNets x = new GuardNets();
        x.step(0, 1, 50, 500);
        Rows.due("37 the first is behind 0", x, "event 0 49 = 1", "soon = 0", "rest = 1", "event 0 50 = 1", "soon = -1", "event 0 99 = 2", "soon = 1");
        x.step(0, 1, 49, 500);
        Rows.due("37 by the time of now", x, "soon = -1");
        x.step(0, 1, 1, 500);
        Rows.due("37", x, "rest = 2", "event 0 0 = 1", "soon = 0", "event 0 1 = 2", "soon = 0");
    }

    private static void soonJustInTime() {
        GuardNets x = new GuardNets();
        x.step(1, 1, 2, 500);
        Rows.due("37 its own time, not that ahead", x, "event 0 1 = 1", "event 1 3 = 2", "soon = -1", "event 0 4 = 3", "soon = -1", "event 1 5 = 4", "soon = 3");
        Rows.due("37 at once", x, "rest = 4", "event 0 10000 = 1", "event 0 10000 = 2", "soon = 1");
    }

    private static void soonAtTheLastEvent() {
        GuardNets x = new GuardNets();
        for (int n = 1; n <= 39; n++) x.event(0, n);
        Rows.due("37", x, "soon = -1", "event 0 39 = 40", "soon = 39");
        x.step(0, 1, 2, 500);
        Rows.due("37 the first of many", x, "soon = 0");
    }

    private static void reachedAtItsEnds() {
        GuardNets x = Due.with("a");
        Rows.due("38 an empty drill", x, "reached 0 0 = -1");
        Rows.refused("38", x, "reached 0 1", BAD);
        Rows.refused("38", x, "reached 0 -1", BAD);
        Rows.due("38", x, "event 0 0 = 1", "reached 0 0 = 0", "reached 0 1 = -1");
        Rows.refused("38", x, "reached 0 2", BAD);
        Rows.refused("38 bad ahead of no", x, "reached 9 2", BAD);
        Rows.refused("38", x, "reached 9 1", NO);
        Rows.refused("38", x, "reached 9 0", NO);
    }

    private static void reachedFromTheLastEvent() {
        GuardNets x = Due.with("a", "a&a", "a|b", "a>a", "[1a,b]", "[2a,a]", "p");
        Rows.due("38", x, "event 1 0 = 1", "event 0 0 = 2", "event 1 0 = 3", "event 0 9 = 4");
        int[][] due = {{1, 1, 3, 3, -1}, {1, 1, 3, 3, -1}, {0, 1, 2, 3, -1}, {3, 3, -1, -1, -1}, {0, 1, 2, 3, -1}, {1, 1, 3, 3, -1}, {-1, -1, -1, -1, -1}};
        for (int net = 0; net < due.length; net++) {
            for (int p = 0; p <= 4; p++) Due.is("38 reached " + net + " from " + p, x.reached(net, p), due[net][p]);
        }
    }

    /** Each part from behind the EVENT at which the part ahead was REACHED. */
    private static void chainsGoOnBehind() {
        GuardNets x = Due.with("a>b", "(a&b)>c", "a>(b|c)>a", "(a|b)>(a|b)>(a|b)", "a>b&c>a", "(a>b)&(b>a)", "(a>b)>c");
        int[] steps = {1, 0, 2, 1, 0, 2};
        for (int step : steps) x.event(step, 3);
        int[][] due = {{3, 3, -1, -1, -1, -1}, {2, 5, 5, 5, -1, -1}, {4, 4, -1, -1, -1, -1}, {3, 4, -1, -1, -1, -1}, {4, 4, -1, -1, -1, -1},
            {3, 4, -1, -1, -1, -1}, {5, 5, -1, -1, -1, -1}};
        for (int net = 0; net < due.length; net++) {
            for (int p = 0; p < 6; p++) Due.is("38 chain " + net + " from " + p, x.reached(net, p), due[net][p]);
            Due.is("38 behind all", x.reached(net, 6), NONE);
        }
    }

    private static void aChainOf40() {
        GuardNets x = Due.with(Houses.rowOf(40, "a", '>'), "a");
        Due.put(x, 2, "0>1");
        for (int n = 1; n <= 39; n++) x.event(0, 0);
        Rows.due("38 39 are not enough", x, "reached 0 0 = -1", "event 0 0 = 40", "reached 0 0 = 39", "reached 0 1 = -1", "reached 2 0 = -1", "many 0 = 40");
    }

    private static void someThatAreReached() {
        int[] steps = {3, 2, 1, 0, 3};
        int[][] due = {{0, 1, 2, 3, 4, -1}, {1, 2, 3, 4, -1, -1}, {2, 3, 4, -1, -1, -1}, {3, 4, -1, -1, -1, -1}};
        for (int need = 1; need <= 4; need++) {
            GuardNets x = Due.with("[" + need + "a,b,c,d]");
            for (int step : steps) x.event(step, 1);
            for (int p = 0; p <= 5; p++) Due.is("38 " + need + " of 4 from " + p, x.reached(0, p), due[need - 1][p]);
        }
        GuardNets x = Due.with("[8a,b,c,d,e,f,g,h]");
        for (int n = 7; n >= 0; n--) {
            Due.is("38 one is missing", x.reached(0, 0), NONE);
            x.event(n, 1);
        }
        Rows.due("38 eight of eight", x, "reached 0 0 = 7", "reached 0 1 = -1");
    }

    private static void noneIfOneIsNeeded() {
        GuardNets x = Due.with("a|p", "a&p", "a>p", "[1a,p]", "[2a,p]", "[2a,b,p]", "p>a", "(p>a)|b");
        Rows.due("38", x, "event 0 1 = 1", "event 1 1 = 2");
        Rows.due("38", x, "reached 0 0 = 0", "reached 1 0 = -1", "reached 2 0 = -1", "reached 3 0 = 0", "reached 4 0 = -1", "reached 5 0 = 1",
            "reached 6 0 = -1", "reached 7 0 = 1");
    }

    private static void reachedAtTheFirstEvent() {
        GuardNets x = Due.with("a|b", "b|a", "a&b", "b&a", "[1a,b]", "[2b,a]", "(a|b)>b", "b|c|a", "c|a|b", "a>b|b");
        Rows.due("38", x, "event 0 0 = 1", "event 1 0 = 2", "event 2 0 = 3");
        int[] due = {0, 0, 1, 1, 0, 1, 1, 0, 0, 1};
        for (int net = 0; net < 10; net++) Due.is("38 reached " + net, x.reached(net, 0), due[net]);
    }

    private static void twelvePlacesAreFull() {
        GuardNets x = new GuardNets();
        for (int man = 0; man < 4; man++) {
            for (int n = 1; n <= 12; n++) Due.is("39 walk", x.walk(man, man + 4), n);
            Rows.refused("39 full", x, "walk " + man + " 0", FULL);
            Rows.refused("39 bad ahead of full", x, "walk " + man + " 8", BAD);
        }
        Rows.due("39", x, "home 0 = 12", "walk 0 7 = 1", "walk 3 0 = -4", "stands 7 0 = 2", "stands 7 10000 = 2", "stands 4 0 = 0");
        int[][] bad = {{-1, 0}, {4, 0}, {0, -1}, {0, 8}, {MAX, 0}, {MIN, 0}, {0, MAX}, {0, MIN}};
        for (int[] a : bad) Rows.refused("39", Houses.common(), "walk " + a[0] + " " + a[1], BAD);
    }

    private static void homeOfNoneAndOfAll() {
        GuardNets x = Houses.full();
        for (int man = 0; man < 4; man++) {
            Due.is("40 home", x.home(man), 12);
            Due.is("40 home", x.home(man), 0);
        }
        for (int place = 0; place < 8; place++) Due.is("40 nobody", x.stands(place, place), 0);
        int[] bad = {-1, 4, MAX, MIN};
        for (int man : bad) Rows.refused("40", Houses.full(), "home " + man, BAD);
        Rows.due("40 a new row", x, "walk 3 0 = 1", "walk 3 7 = 2", "stands 0 0 = 1", "stands 7 1 = 1", "stands 0 10000 = 1", "home 3 = 2");
    }

    private static void roundsBeginAgain() {
        GuardNets x = new GuardNets();
        for (int n = 0; n < 12; n++) x.walk(0, n == 11 ? 7 : 0);
        Rows.due("41", x, "stands 7 10 = 0", "stands 7 11 = 1", "stands 7 12 = 0", "stands 0 12 = 1", "stands 7 23 = 1", "stands 7 9995 = 1", "stands 7 9996 = 0");
        x.walk(3, 5);
        Rows.due("41 a row of one", x, "stands 5 0 = 1", "stands 5 1 = 1", "stands 5 10000 = 1");
        x.walk(3, 6);
        Rows.due("41 a row of two", x, "stands 5 0 = 1", "stands 5 1 = 0", "stands 6 1 = 1", "stands 5 10000 = 1", "stands 6 9999 = 1");
    }

    private static void standsAtItsEnds() {
        GuardNets x = new GuardNets();
        Rows.due("41 nobody walks", x, "stands 0 0 = 0", "stands 7 10000 = 0");
        for (int man = 0; man < 4; man++) {
            x.walk(man, 7);
            Due.is("41 men", x.stands(7, 10000), man + 1);
        }
        Rows.due("41 none elsewhere", x, "stands 0 0 = 0", "stands 6 10000 = 0", "stands 7 0 = 4");
        int[][] bad = {{-1, 0}, {8, 0}, {0, -1}, {0, 10001}, {MAX, 0}, {MIN, 0}, {0, MAX}, {0, MIN}};
        for (int[] a : bad) Rows.refused("41", Houses.common(), "stands " + a[0] + " " + a[1], BAD);
    }

    private static void beginsAtItsEnds() {
        GuardNets x = new GuardNets();
        for (int time = 1; time <= 50; time++) {
            x.step(15, 1, time, 500);
            Due.is("42 the end is 600", x.begins(15, 600 - time), 600 - time);
            Due.is("42 the end would be above 600", x.begins(15, 601 - time), NONE);
        }
        Rows.due("42", x, "begins 0 0 = 0", "begins 0 599 = 599", "begins 0 600 = -1", "begins 15 0 = 0", "begins 15 600 = -1");
        int[][] bad = {{-1, 0}, {16, 0}, {0, -1}, {0, 601}, {MAX, 0}, {MIN, 0}, {0, MAX}, {0, MIN}};
        for (int[] a : bad) Rows.refused("42", Houses.common(), "begins " + a[0] + " " + a[1], BAD);
    }

    /** In none of its minutes a WATCHMAN stands there; in those beside them he may. */
    private static void beginsBesideAWatchman() {
        GuardNets x = new GuardNets();
        int[] round = {7, 0, 0, 0, 7, 0, 0, 0, 0};
        for (int place : round) x.walk(3, place);
        x.trace(0, 0, 7);
        x.step(0, 1, 3, 500);
        Rows.due("42", x, "begins 0 0 = 1", "begins 0 1 = 1", "begins 0 2 = 5", "begins 0 5 = 5", "begins 0 6 = 6", "begins 0 7 = 10");
        x.step(0, 1, 4, 500);
        Rows.due("42", x, "begins 0 0 = 5", "begins 0 5 = 5", "begins 0 6 = 14", "begins 0 590 = 590", "begins 0 591 = -1");
        x.step(0, 1, 5, 500);
        Rows.due("42 never so long", x, "begins 0 0 = -1", "end 1 0 = -1", "orderAt 1 0 0 = -1");
        x.step(0, 1, 3, 500);
        // The last free minutes are 590 to 593, and 595 to 597 of those up to 599.
        Rows.due("42", x, "begins 0 591 = 591", "begins 0 592 = 595", "begins 0 595 = 595", "begins 0 596 = -1", "begins 0 597 = -1");
        x.walk(0, 7);
        Rows.due("42 another stands there", x, "begins 0 0 = -1", "home 0 = 1", "begins 0 0 = 1", "home 3 = 9", "begins 0 0 = 0");
    }

    private static void endOfNoSteps() {
        GuardNets x = Houses.full();
        Rows.due("43 the minute itself", x, "end 0 0 = 0", "end 0 1 = 1", "end 0 599 = 599", "end 0 600 = 600");
        Rows.refused("43", x, "end 0 601", BAD);
        Rows.refused("43", x, "end 0 -1", BAD);
        Rows.due("44 no steps, none is the first", x, "orderAt 0 0 0 = -1", "orderAt 0 600 0 = -1", "orderAt 0 0 2147483647 = -1");
    }

    private static void endOfSevenAndEightSteps() {
        GuardNets x = new GuardNets();
        int[] seven = {127, 65024, 21845 & ~1, 43690 & ~2};
        int[] eight = {255, 65280, 21845, 43690, 65535, 65534};
        for (int set : seven) Due.is("43 seven", x.end(set, 0), 7);
        for (int set : seven) Due.is("44 seven", x.orderAt(set, 0, 6) >= 0 ? 1 : 0, 1);
        for (int set : eight) {
            Rows.refused("43 above seven", x, "end " + set + " 0", NO);
            Rows.refused("44 above seven", x, "orderAt " + set + " 0 0", NO);
        }
        Rows.refused("43 no, though none could be", x, "end 65535 600", NO);
        Rows.refused("44 no, though not so many", x, "orderAt 255 600 2147483647", NO);
        Rows.refused("43 bad ahead of no", x, "end 65535 601", BAD);
        Rows.refused("44 bad ahead of no", x, "orderAt 65535 0 -1", BAD);
        Rows.refused("44 bad ahead of no", x, "orderAt 65535 601 0", BAD);
    }

    private static void endAt600() {
        GuardNets x = new GuardNets();
        x.step(15, 1, 50, 500);
        Rows.due("43", x, "end 32768 550 = 600", "end 32768 551 = -1", "end 32769 549 = 600", "end 32769 550 = -1", "end 1 599 = 600", "end 1 600 = -1",
            "end 127 593 = 600", "end 127 594 = -1", "orderAt 32768 550 0 = 15", "orderAt 32768 551 0 = -1", "orderAt 32769 549 1 = 15", "orderAt 32769 550 0 = -1");
        for (int s = 0; s < 7; s++) x.step(s, 1, 50, 500);
        Rows.due("43 seven of 50", x, "end 127 0 = 350", "end 127 250 = 600", "end 127 251 = -1", "orderAt 127 250 6 = 6", "orderAt 127 251 0 = -1");
    }

    /** One of its STEPS has the last free minutes. */
    private static void endBesideWatchmen() {
        GuardNets x = new GuardNets();
        int[] round = {5, 5, 5, 0};
        for (int place : round) x.walk(2, place);
        x.trace(0, 0, 5);
        Rows.due("43", x, "end 1 0 = 4", "end 1 3 = 4", "end 1 4 = 8", "end 1 599 = 600", "end 1 600 = -1", "end 3 0 = 4", "end 3 3 = 5", "end 3 599 = -1",
            "end 3 598 = 600", "orderAt 3 598 0 = 1", "orderAt 3 598 1 = 0", "orderAt 3 3 0 = 0", "orderAt 3 3 1 = 1", "orderAt 3 599 0 = -1");
        x.walk(0, 5);
        Rows.due("43 never free", x, "end 1 0 = -1", "end 3 0 = -1", "end 2 0 = 1", "end 0 0 = 0");
    }

    private static void orderAtItsEnds() {
        GuardNets x = new GuardNets();
        Rows.due("44", x, "orderAt 32769 0 0 = 0", "orderAt 32769 0 1 = 15", "orderAt 32769 0 2 = -1", "orderAt 32769 0 7 = -1", "orderAt 127 0 6 = 6",
            "orderAt 127 0 7 = -1", "orderAt 65024 593 6 = 15", "orderAt 65024 594 0 = -1", "orderAt 1 0 2147483647 = -1");
        int[][] bad = {{-1, 0, 0}, {65536, 0, 0}, {1, -1, 0}, {1, 601, 0}, {1, 0, -1}, {MAX, 0, 0}, {MIN, 0, 0}, {1, MAX, 0}, {1, MIN, 0}, {1, 0, MIN}};
        for (int[] a : bad) {
            Rows.refused("44", Houses.common(), "orderAt " + a[0] + " " + a[1] + " " + a[2], BAD);
            if (a[2] == 0) Rows.refused("43", Houses.common(), "end " + a[0] + " " + a[1], BAD);
        }
    }

    private static void ordersOfLikeEnds() {
        GuardNets x = new GuardNets();
        // Place 5 is free in the minutes 2, 3, then 6, 7 and so on; place 0 always.
        int[] round = {5, 5, 6, 6};
        for (int place : round) x.walk(1, place);
        x.trace(1, 0, 5);
        x.trace(3, 0, 5);
        int[] ends = {4, 5, 6, 7, 8};
        String[] orders = {"0213", "0132", "1302", "1023", "0213"};
        for (int minute = 0; minute < 5; minute++) {
            Due.is("43 end from " + minute, x.end(15, minute), ends[minute]);
            StringBuilder order = new StringBuilder();
            for (int i = 0; i < 4; i++) order.append(x.orderAt(15, minute, i));
            Due.is("44 order from " + minute, order.toString(), orders[minute]);
        }
        Rows.due("44 of all alike the first steps first", new GuardNets(), "orderAt 43690 0 0 = -3", "orderAt 43688 0 0 = 3", "orderAt 43688 0 1 = 5",
            "orderAt 43688 0 5 = 13", "orderAt 43688 0 6 = 15");
    }

    /** Where the last STEP waits, those ahead could be done twice: each is done once. */
    private static void ordersThatWait() {
        GuardNets x = new GuardNets();
        for (int n = 0; n < 11; n++) x.walk(0, 5);
        x.walk(0, 6);
        x.trace(1, 0, 5);
        Rows.due("44", x, "end 3 0 = 12", "orderAt 3 0 0 = 0", "orderAt 3 0 1 = 1", "orderAt 3 0 2 = -1", "end 7 0 = 12", "orderAt 7 0 0 = 0", "orderAt 7 0 1 = 2",
            "orderAt 7 0 2 = 1", "orderAt 7 10 0 = 0", "orderAt 7 10 1 = 1", "orderAt 7 10 2 = 2", "end 7 10 = 13", "end 7 11 = 14", "orderAt 7 11 0 = 1",
            "orderAt 7 11 1 = 0", "orderAt 7 11 2 = 2");
    }

    /** Each STEP of the ORDER begins at the first minute from which it may, and no other ORDER ends sooner. */
    private static void eachAsSoonAsItMayBe() {
        int[][] orders = {{0, 1, 2}, {0, 2, 1}, {1, 0, 2}, {1, 2, 0}, {2, 0, 1}, {2, 1, 0}};
        for (int house = 0; house < 8; house++) {
            for (int minute = 0; minute < 600; minute += 119) {
                GuardNets x = new GuardNets();
                for (int n = 0; n < 12; n++) x.walk(n % 3, (n * n + house * 5 + n / 3) % 4);
                for (int s = 0; s < 3; s++) {
                    x.step(s, 1, 1 + (s + house) % 3, 500);
                    x.trace(s, 0, (s + house) % 3);
                }
                int best = NONE;
                for (int i = orders.length - 1; i >= 0; i--) {
                    int end = endOf(x, orders[i], minute);
                    if (end != NONE && (best == NONE || end <= endOf(x, orders[best], minute))) best = i;
                }
                Due.is("43 house " + house + " from " + minute, x.end(7, minute), best == NONE ? NONE : endOf(x, orders[best], minute));
                for (int i = 0; i < 3; i++) {
                    Due.is("44 house " + house + " from " + minute, x.orderAt(7, minute, i), best == NONE ? NONE : orders[best][i]);
                }
            }
        }
    }

    private static int endOf(GuardNets x, int[] order, int minute) {
        int now = minute;
        for (int step : order) {
            int begin = x.begins(step, now);
            if (begin == NONE) return NONE;
            now = begin + x.about(step, 1);
        }
        return now;
    }

    private static void imagesAtTheirEnds() {
        GuardNets x = new GuardNets();
        int[] bad = {-1, 2, MAX, MIN};
        String[] names = {"image ", "differ ", "from "};
        for (String name : names) for (int i : bad) Rows.refused("45 to 47", Houses.common(), name + i, BAD);
        Rows.refused("46 none was kept", x, "differ 0", NO);
        Rows.refused("46 none was kept", x, "differ 1", NO);
        Rows.refused("47 none was kept", x, "from 0", NO);
        Rows.refused("47 none was kept", x, "from 1", NO);
        Rows.due("45 one by itself", x, "image 1 = 1", "differ 1 = 0", "from 1 = 1", "differ 0 = -3", "from 0 = -3", "image 0 = 1", "differ 0 = 0", "image 0 = 1");
    }

    private static void eachNumberDiffers() {
        int[] steps = {0, 7, 15};
        for (int step : steps) {
            for (int what = 0; what < 5; what++) {
                GuardNets x = new GuardNets();
                x.image(0);
                int[] now = {1, 1, 500, 0, 0};
                now[what]++;
                x.step(step, now[0], now[1], now[2]);
                x.trace(step, now[3], now[4]);
                Due.is("46 number " + what + " of " + step, x.differ(0), 1 << step);
                x.image(1);
                Due.is("47 from", x.from(0), 1);
                Due.is("47 as it was", x.about(step, what), now[what] - 1);
                Rows.due("46", x, "differ 0 = 0", "differ 1 = " + (1 << step), "from 1 = 1", "differ 0 = " + (1 << step), "differ 1 = 0");
                Due.is("47 as it was", x.about(step, what), now[what]);
            }
        }
    }

    private static void fromAnImage() {
        GuardNets x = Houses.full();
        for (int s = 0; s < 16; s++) {
            x.step(s, 1000 - s, 50 - s, 1000 - s);
            x.trace(s, 255 - s, 7 - s % 8);
        }
        Rows.due("46 all differ", x, "differ 0 = 65535", "differ 1 = 65535", "image 0 = 1", "from 1 = 1", "differ 0 = 65535", "differ 1 = 0", "about 15 0 = 1000",
            "about 15 1 = 50", "about 15 2 = 1000", "about 15 3 = 255", "about 15 4 = 7", "about 0 0 = 1", "about 0 2 = 500", "from 0 = 1", "about 15 0 = 985",
            "about 0 4 = 7", "differ 1 = 65535");
        Rows.due("47 only steps", x, "count 0 = 80", "count 1 = 250", "count 3 = 10", "count 6 = 40", "home 0 = 12");
    }

    private static void countsAtTheirEnds() {
        int[] full = {80, 250, 8, 10, 6, 6, 40};
        GuardNets x = Houses.full();
        GuardNets y = new GuardNets();
        for (int what = 0; what < 7; what++) {
            Due.is("48 of all", x.count(what), full[what]);
            Due.is("48 of none", y.count(what), 0);
        }
        int[] bad = {-1, 7, MAX, MIN};
        for (int what : bad) Rows.refused("48", x, "count " + what, BAD);
        y.write('a');
        for (int net = 0; net < 10; net++) {
            y.make(net);
            Due.is("48 nets that are there", y.count(2), net + 1);
        }
        Rows.due("48 none twice", y, "make 0 = 0", "count 2 = 10", "count 1 = 11", "clear = 11", "count 2 = 0", "count 1 = 0");
    }

    /** The digest wraps; a slow second telling of the document wraps with it. */
    private static void digestsAtTheirEnds() {
        PlainGuardNets plain = new PlainGuardNets();
        GuardNets x = new GuardNets();
        Rows.alike("49 new", x, plain, "digest");
        for (String row : Houses.fullRows()) Rows.alike("49", x, plain, row);
        Rows.alike("49 full", x, plain, "digest");
        String[] parts = {"erase", "rest", "home 0", "home 1", "home 2", "home 3", "clear"};
        for (String row : parts) {
            Rows.alike("49", x, plain, row);
            Rows.alike("49 behind " + row, x, plain, "digest");
        }
    }

    private static void whatIsRefused() {
        String[] names = {"may N 0 0", "ask N 0 0", "reached N 0"};
        int[] bad = {-1, 10, MAX, MIN};
        for (String name : names) {
            for (int net : bad) Rows.refused("33 to 38", Houses.spent(), name.replace("N", "" + net), BAD);
            Rows.refused("33 to 38 not there", Houses.spent(), name.replace("N", "9"), NO);
        }
        Rows.refused("33 spent", Houses.spent(), "may 0 0 0", SPENT);
        Rows.refused("34 spent", Houses.spent(), "ask 0 0 0", SPENT);
    }
}
