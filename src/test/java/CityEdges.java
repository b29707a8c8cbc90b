/** Promises 1 to 5: a new object, and the city. */
final class CityEdges {
    private static final int BAD = City.BAD, NOT = City.NOT, FULL = City.FULL, VOID = City.VOID;

    private CityEdges() {
    }

    static void run() {
        nothingAtFirst();
        noMenAtFirst();
        noLoadsAtFirst();
        noLawsAtFirst();
        byListAtFirst();
        ownMemory();
        placeX();
        placeStairs();
        placesAreFull();
        tideSpan();
        tidePlace();
        tideNoneAtFirst();
        tideLastMinuteNot();
        tideEachDay();
        tideOfItsPlaceAlone();
        rainFromNow();
        rainToALaterOne();
        rainLastMinuteNot();
        rainIsFull();
        wayFar();
        wayUp();
        wayMinutes();
        wayInRain();
        wayBad();
    }

    private static void due(String call, long got, long want) {
        Check.due(call, got, want);
    }

    // ---- 1

    private static void nothingAtFirst() {
        Check.sentence(1, "MINUTE 0, no places");
        PorterTurns x = new PorterTurns();
        due("MINUTE", x.count(4), 0);
        due("rain from MINUTE 0", x.rain(0, 1), 1);
        due("PLACES", x.count(0), 0);
        due("tide", x.tide(0, 0, 0), BAD);
        due("way", x.way(0, 1, 0), BAD);
        due("a house", x.man(0, 1, 16, 0), BAD);
        due("a LOAD", x.load(1001, 1, 0, 0), BAD);
        due("the first PLACE", x.place(0, 0), 0);
    }

    private static void noMenAtFirst() {
        Check.sentence(1, "no men");
        PorterTurns x = new PorterTurns();
        due("MEN", x.count(1), 0);
        due("join", x.join(0), BAD);
        due("leave", x.leave(0), BAD);
        due("gone", x.gone(0), BAD);
        due("says", x.says(0, 0, -1, 0), VOID);
        for (int what = 0; what <= 9; what++) {
            due("about " + what, x.about(0, what), -2);
        }
        for (int f = 0; f <= 3; f++) {
            due("turn of " + f, x.turn(f, 0), BAD);
            due("foretold of " + f, x.foretold(f), NOT);
            for (int what = 0; what <= 2; what++) {
                due("fund of " + f, x.fund(f, what), 0);
            }
        }
    }

    private static void noLoadsAtFirst() {
        Check.sentence(1, "no loads");
        PorterTurns x = new PorterTurns();
        for (int what : new int[] {2, 5, 6, 7, 8, 10, 11}) {
            due("count " + what, x.count(what), 0);
        }
        due("whose", x.whose(0), BAD);
        due("why", x.why(0, 0), BAD);
        due("send", x.send(0, 0), BAD);
        due("off", x.off(0), BAD);
        due("fall", x.fall(0, -1, 0), BAD);
        due("gang", x.gang(0, 0), BAD);
        due("judged", x.judged(0, 0, 1, 0), BAD);
        due("says", x.says(0, 0, 0, -1), VOID);
        for (int what = 0; what <= 12; what++) {
            due("told " + what, x.told(0, what), -2);
        }
    }

    private static void noLawsAtFirst() {
        Check.sentence(1, "no by-laws");
        PorterTurns x = new PorterTurns();
        due("BY-LAWS", x.count(3), 0);
        due("bytes on THE TAPE", x.count(9), 0);
        int[] without = {0, 0, 1, 0, 5};
        for (int f = 0; f <= 3; f++) {
            for (int use = 0; use <= 4; use++) {
                due("in force", x.inForce(f, use, 0, 0), NOT);
                due("in force", x.inForce(f, use, 166, 166), NOT);
                due("says " + use, x.says(f, use, -1, -1), without[use]);
            }
        }
    }

    private static void byListAtFirst() {
        Check.sentence(1, "TURNS by list.");
        PorterTurns x = City.withMen(10, 10, 10);
        for (int f = 0; f <= 3; f++) {
            due("what they did, of " + f, x.dice(f, 0, 0), 0);
        }
        PorterTurns y = City.withMen(10, 10, 10);
        for (int man = 0; man < 3; man++) {
            due("the first one is next", y.gang(City.sent(y, 0, 1), 0), man);
        }
    }

    private static void ownMemory() {
        Check.sentence(1, "All memory is the class's own.");
        PorterTurns x = City.withMen(10);
        PorterTurns y = new PorterTurns();
        x.minutes(7);
        x.feed(0, 0, 0, 0, 0);
        x.dice(0, 1, 5);
        x.rain(7, 8);
        x.rates(0, 1, 1);
        City.sent(x, 0, 1);
        for (int what = 0; what <= 11; what++) {
            due("count " + what + " of another object", y.count(what), 0);
        }
        due("dice of another object", y.dice(0, 0, 0), 0);
        due("rain of another object", y.rain(0, 1), 1);
        due("row of another object", y.turn(0, 0), BAD);
        y.place(1, 1);
        due("PLACES of the first", x.count(0), 4);
    }

    // ---- 2

    private static void placeX() {
        Check.sentence(2, "x (0 .. 99)");
        PorterTurns x = new PorterTurns();
        due("x -1", x.place(-1, 5), BAD);
        due("x 100", x.place(100, 5), BAD);
        for (int far : City.FAR_OFF) {
            due("x " + far, x.place(far, 5), BAD);
        }
        due("x 0", x.place(0, 5), 0);
        due("x 99", x.place(99, 5), 1);
        due("both are kept", x.way(0, 1, 0), 99);
    }

    private static void placeStairs() {
        Check.sentence(2, "STAIRS (0 .. 99)");
        PorterTurns x = new PorterTurns();
        due("STAIRS -1", x.place(5, -1), BAD);
        due("STAIRS 100", x.place(5, 100), BAD);
        for (int far : City.FAR_OFF) {
            due("STAIRS " + far, x.place(5, far), BAD);
        }
        due("STAIRS 0", x.place(5, 0), 0);
        due("STAIRS 99", x.place(5, 99), 1);
        due("both are kept", x.way(0, 1, 1), 99);
    }

    private static void placesAreFull() {
        Check.sentence(2, "PLACES 0 .. 19, as they were made");
        PorterTurns x = new PorterTurns();
        for (int i = 0; i < 20; i++) {
            due("its number", x.place(i, 0), i);
        }
        due("the 21st", x.place(0, 0), FULL);
        due("how many", x.count(0), 20);
        due("the last one is there", x.way(0, 19, 0), 19);
        due("none behind it", x.way(0, 20, 0), BAD);
        Check.sentence(2, "Answers, of several the one named first");
        due("x and FULL", x.place(100, 0), BAD);
        due("STAIRS and FULL", x.place(0, -1), BAD);
    }

    // ---- 3

    private static void tideSpan() {
        Check.sentence(3, "(0 <= from <= to <= 600)");
        PorterTurns x = City.plain();
        due("0 to 0", x.tide(0, 0, 0), 1);
        due("0 to 600", x.tide(0, 0, 600), 1);
        due("600 to 600", x.tide(0, 600, 600), 1);
        due("300 to 300", x.tide(0, 300, 300), 1);
        due("from below 0", x.tide(0, -1, 5), BAD);
        due("both below 0", x.tide(0, -2, -1), BAD);
        due("to above 600", x.tide(0, 0, 601), BAD);
        due("both above 600", x.tide(0, 601, 601), BAD);
        due("from one above to", x.tide(0, 301, 300), BAD);
        due("from far above to", x.tide(0, 600, 0), BAD);
        due("from the least int", x.tide(0, Integer.MIN_VALUE, 600), BAD);
        due("to the greatest int", x.tide(0, 0, Integer.MAX_VALUE), BAD);
    }

    private static void tidePlace() {
        Check.sentence(3, "BAD (-1): no such place");
        PorterTurns x = City.plain();
        due("the first", x.tide(0, 0, 1), 1);
        due("the last", x.tide(3, 0, 1), 1);
        due("one behind it", x.tide(4, 0, 1), BAD);
        due("below 0", x.tide(-1, 0, 1), BAD);
        for (int far : City.FAR_OFF) {
            due("place " + far, x.tide(far, 0, 1), BAD);
        }
    }

    private static void tideNoneAtFirst() {
        Check.sentence(3, "none at first");
        PorterTurns x = City.withMen(10);
        City.coal(x, 1);
        due("at MINUTE 0", x.why(0, 0), 0);
        x.minutes(599);
        due("at MINUTE 599", x.why(0, 0), 0);
    }

    private static void tideLastMinuteNot() {
        Check.sentence(3, "(told; the last one not; none at first)");
        PorterTurns x = City.withMen(10);
        City.coal(x, 1);
        x.tide(0, 3, 5);
        int[] why = {0, 0, 0, 4, 4, 0, 0};
        for (int minute = 0; minute < why.length; minute++) {
            due("at MINUTE " + minute, x.why(0, 0), why[minute]);
            x.minutes(1);
        }
        x.tide(0, 7, 7);
        due("from it to itself: never", x.why(0, 0), 0);
        x.tide(0, 7, 8);
        due("one MINUTE", x.why(0, 0), 4);
        x.tide(0, 0, 7);
        due("told anew: the former one no more", x.why(0, 0), 0);
        x.tide(0, 0, 600);
        due("all the DAY", x.why(0, 0), 4);
        x.tide(0, 600, 600);
        due("600 to 600: never", x.why(0, 0), 0);
    }

    private static void tideEachDay() {
        Check.sentence(3, "in the minutes of each DAY");
        PorterTurns x = City.withMen(10);
        City.coal(x, 1);
        x.tide(0, 599, 600);
        int[] minutes = {0, 598, 599, 600, 1198, 1199, 1200, 99599, 99600, 99999};
        int[] why = {0, 0, 4, 0, 0, 4, 0, 4, 0, 0};
        for (int i = 0; i < minutes.length; i++) {
            Check.passTo(x, minutes[i]);
            due("at MINUTE " + minutes[i], x.why(0, 0), why[i]);
        }
        x.tide(0, 399, 400);
        due("on the last DAY", x.why(0, 0), 4);
        x.tide(0, 0, 399);
        due("on the last DAY, behind it", x.why(0, 0), 0);
    }

    private static void tideOfItsPlaceAlone() {
        Check.sentence(3, "4 its PLACE is under water now");
        PorterTurns x = City.withMen(10);
        x.tide(1, 0, 600);
        x.load(1001, 1, 0, 0);
        x.load(1001, 100, 0, 0);
        x.load(1001, 200, 0, 0);
        due("under water is where it goes", x.why(0, 0), 0);
        due("under water is where it lies", x.why(0, 1), 4);
        due("under water is another one", x.why(0, 2), 0);
    }

    // ---- 4

    private static void rainFromNow() {
        Check.sentence(4, "RAIN from a MINUTE (that now, or later)");
        PorterTurns x = City.plain();
        due("below 0", x.rain(-1, 5), BAD);
        due("the least int", x.rain(Integer.MIN_VALUE, 5), BAD);
        due("now", x.rain(0, 5), 1);
        x.minutes(10);
        due("one MINUTE ago", x.rain(9, 20), BAD);
        due("now", x.rain(10, 20), 2);
        due("later", x.rain(11, 20), 3);
    }

    private static void rainToALaterOne() {
        Check.sentence(4, "to a later one (at most 100000)");
        PorterTurns x = City.plain();
        due("the same", x.rain(5, 5), BAD);
        due("one less", x.rain(5, 4), BAD);
        due("far less", x.rain(500, 0), BAD);
        due("one more", x.rain(5, 6), 1);
        due("100000", x.rain(5, 100000), 2);
        due("100001", x.rain(5, 100001), BAD);
        due("the greatest int", x.rain(5, Integer.MAX_VALUE), BAD);
        due("the last MINUTE", x.rain(99999, 100000), 3);
        due("behind the last MINUTE", x.rain(100000, 100000), BAD);
        due("behind the last MINUTE", x.rain(100000, 100001), BAD);
        due("the greatest from", x.rain(Integer.MAX_VALUE, 100000), BAD);
    }

    private static void rainLastMinuteNot() {
        Check.sentence(4, "(from one to another one, the last one not; at most 20)");
        PorterTurns x = City.plain();
        x.rain(2, 4);
        x.rain(5, 6);
        x.rain(6, 8);
        x.rain(5, 7);
        int[] minutes = {15, 15, 22, 22, 15, 22, 22, 22, 15};
        for (int minute = 0; minute < minutes.length; minute++) {
            due("the way at MINUTE " + minute, x.way(0, 1, 2), minutes[minute]);
            due("the NAME rain at MINUTE " + minute, City.giving(x, "rain", -1, -1), minutes[minute] > 15 ? 1 : 0);
            x.minutes(1);
        }
        PorterTurns y = City.plain();
        y.rain(99999, 100000);
        Check.passTo(y, 99998);
        due("the way at MINUTE 99998", y.way(0, 1, 2), 15);
        y.minutes(1);
        due("the way at MINUTE 99999", y.way(0, 1, 2), 22);
    }

    private static void rainIsFull() {
        Check.sentence(4, "how many spans were told");
        PorterTurns x = City.plain();
        for (int i = 1; i <= 20; i++) {
            due("spans", x.rain(i, i + 1), i);
        }
        due("the 21st", x.rain(30, 31), FULL);
        x.minutes(20);
        due("the 20th counts", x.way(0, 1, 2), 22);
        x.minutes(10);
        due("the 21st does not", x.way(0, 1, 2), 15);
        due("spans that are over count", x.rain(30, 31), FULL);
        Check.sentence(4, "Answers, of several the one named first");
        due("from and FULL", x.rain(29, 31), BAD);
        due("to and FULL", x.rain(30, 30), BAD);
    }

    // ---- 5

    private static PorterTurns hill() {
        PorterTurns x = new PorterTurns();
        x.place(50, 7);
        x.place(20, 8);
        x.place(20, 9);
        x.place(0, 10);
        x.place(99, 0);
        x.place(0, 99);
        x.place(20, 8);
        return x;
    }

    private static void wayFar() {
        Check.sentence(5, "FAR from one to another is the difference of x");
        PorterTurns x = hill();
        due("down in x", x.way(0, 1, 0), 30);
        due("up in x", x.way(1, 0, 0), 30);
        due("none", x.way(1, 2, 0), 0);
        due("the most", x.way(3, 4, 0), 99);
        due("the most, back", x.way(4, 3, 0), 99);
    }

    private static void wayUp() {
        Check.sentence(5, "UP that of STAIRS if it goes up, half of it (the rest away) if it goes down");
        PorterTurns x = hill();
        due("1 up", x.way(0, 1, 1), 1);
        due("1 down", x.way(1, 0, 1), 0);
        due("2 up", x.way(0, 2, 1), 2);
        due("2 down", x.way(2, 0, 1), 1);
        due("3 up", x.way(0, 3, 1), 3);
        due("3 down", x.way(3, 0, 1), 1);
        due("none", x.way(1, 6, 1), 0);
        due("the most", x.way(4, 5, 1), 99);
        due("the most, down", x.way(5, 4, 1), 49);
    }

    private static void wayMinutes() {
        Check.sentence(5, "The way's minutes: FAR, 2 for each UP, and 5");
        PorterTurns x = hill();
        due("the least", x.way(1, 6, 2), 5);
        due("up", x.way(0, 3, 2), 50 + 2 * 3 + 5);
        due("down", x.way(3, 0, 2), 50 + 2 + 5);
        due("the most", x.way(4, 5, 2), 99 + 2 * 99 + 5);
        due("the most, down", x.way(5, 4, 2), 99 + 2 * 49 + 5);
    }

    private static void wayInRain() {
        Check.sentence(5, "half of all that (the rest away) besides, if it RAINS now");
        PorterTurns x = hill();
        x.rain(0, 1);
        due("5 and 2", x.way(1, 6, 2), 7);
        due("61 and 30", x.way(0, 3, 2), 91);
        due("302 and 151", x.way(4, 5, 2), 453);
        due("FAR stays", x.way(4, 5, 0), 99);
        due("UP stays", x.way(4, 5, 1), 99);
        x.minutes(1);
        due("rain is over", x.way(1, 6, 2), 5);
    }

    private static void wayBad() {
        Check.sentence(5, "BAD (also to itself)");
        PorterTurns x = City.plain();
        for (int what = 0; what <= 2; what++) {
            due("to itself, " + what, x.way(0, 0, what), BAD);
            due("to itself, " + what, x.way(3, 3, what), BAD);
            due("from the last, " + what, x.way(3, 2, what) >= 0 ? 1 : 0, 1);
            for (int no : new int[] {-1, 4, Integer.MIN_VALUE, Integer.MAX_VALUE}) {
                due("from " + no, x.way(no, 0, what), BAD);
                due("to " + no, x.way(0, no, what), BAD);
                due("both " + no, x.way(no, no, what), BAD);
            }
        }
        due("what -1", x.way(0, 1, -1), BAD);
        due("what 3", x.way(0, 1, 3), BAD);
        for (int far : City.FAR_OFF) {
            due("what " + far, x.way(0, 1, far), BAD);
        }
    }
}
