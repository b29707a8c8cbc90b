/** Promises 13 to 17: THE TAPE, by-laws, when they are in force, what they say. */
final class LawEdges {
    private static final int BAD = City.BAD, NOT = City.NOT, FULL = City.FULL, VOID = City.VOID;
    private static final int CLAIM = City.CLAIM, PRICE = City.PRICE, GANG = City.GANG, SHARE = City.SHARE;
    private static final int BLANKS = 0x20202020;

    private LawEdges() {
    }

    static void run() {
        feedOrder();
        feedFull();
        endKeeps();
        endBad();
        lawNumbers();
        lawIsFull();
        lawBad();
        lawEmptiesTheTape();
        lawStaysOnTheTape();
        lawOrderOfAnswers();
        inForceKnown();
        inForceFromADay();
        inForcePassedLast();
        inForceOfItsOwn();
        inForceOnTheLastDay();
        inForceBad();
        saysWithout();
        saysToday();
        saysBad();
        nameOfALoad();
        nameHour();
        nameDay();
        nameRain();
        nameLate();
        nameMen();
        nameOfAMan();
        namesWithout();
    }

    private static void due(String call, long got, long want) {
        Check.due(call, got, want);
    }

    // ---- 13

    private static void feedOrder() {
        Check.sentence(13, "Twenty bytes more come to THE TAPE, the highest of each number first");
        PorterTurns x = new PorterTurns();
        // "9+1*" "10+2" "*100" "+3*1" "000 "
        due("feed", x.feed(0x392b312a, 0x31302b32, 0x2a313030, 0x2b332a31, 0x30303020), 20);
        due("law", x.law(0, CLAIM, 0), 0);
        due("what it gives", x.says(0, CLAIM, -1, -1), 9 + 10 + 200 + 3000);
        for (int byteAt = 0; byteAt < 20; byteAt++) {
            int[] five = {BLANKS, BLANKS, BLANKS, BLANKS, BLANKS};
            int shift = 24 - byteAt % 4 * 8;
            five[byteAt / 4] = five[byteAt / 4] & ~(255 << shift) | 0xff << shift;
            x.feed(five[0], five[1], five[2], five[3], five[4]);
            due("a byte 255 at " + byteAt, x.law(0, CLAIM, 0), -100 - byteAt);
        }
        due("numbers below 0", x.feed(-1, -1, -1, -1, -1), 20);
        due("numbers below 0", x.law(0, CLAIM, 0), -100);
    }

    private static void feedFull() {
        Check.sentence(13, "THE TAPE (at most 200 bytes)");
        PorterTurns x = new PorterTurns();
        for (int i = 1; i <= 10; i++) {
            due("how many it has", x.feed(BLANKS, BLANKS, BLANKS, BLANKS, BLANKS), 20 * i);
            due("how many it has", x.count(9), 20 * i);
        }
        for (int kept : new int[] {200, 199, 190, 181}) {
            x.end(kept);
            due("20 more than " + kept, x.feed(1, 1, 1, 1, 1), FULL);
            due("as many as ahead", x.count(9), kept);
        }
        x.end(180);
        due("20 more than 180", x.feed(BLANKS, BLANKS, BLANKS, BLANKS, 0x20202037), 200);
        due("the 200th byte counts", x.law(0, CLAIM, 0), 0);
        due("the 200th byte counts", x.says(0, CLAIM, -1, -1), 7);
    }

    // ---- 14

    private static void endKeeps() {
        Check.sentence(14, "THE TAPE keeps its first n bytes: n.");
        PorterTurns x = new PorterTurns();
        due("0 of 0", x.end(0), 0);
        x.feed(0x31323334, 0x35202020, BLANKS, BLANKS, BLANKS);
        due("all", x.end(20), 20);
        due("all are there", x.count(9), 20);
        due("all but one", x.end(19), 19);
        due("3", x.end(3), 3);
        due("3 are there", x.count(9), 3);
        due("what comes then comes behind these", x.feed(0x39202020, BLANKS, BLANKS, BLANKS, BLANKS), 23);
        due("law", x.law(0, CLAIM, 0), 0);
        due("1239", x.says(0, CLAIM, -1, -1), 1239);
        x.feed(0x31313131, 0x31313131, 0x31313131, 0x31313131, 0x31313131);
        due("none", x.end(0), 0);
        due("none is there", x.law(0, CLAIM, 0), -100);
    }

    private static void endBad() {
        Check.sentence(14, "keeps its first n bytes: n. BAD.");
        PorterTurns x = new PorterTurns();
        due("1 of 0", x.end(1), BAD);
        due("-1 of 0", x.end(-1), BAD);
        x.feed(BLANKS, BLANKS, BLANKS, BLANKS, BLANKS);
        for (int no : new int[] {-1, 21, 200, 201, Integer.MIN_VALUE, Integer.MAX_VALUE}) {
            due(no + " of 20", x.end(no), BAD);
        }
        due("all are there", x.count(9), 20);
        x.end(5);
        due("6 of 5", x.end(6), BAD);
    }

    // ---- 15

    private static void lawNumbers() {
        Check.sentence(15, "its number (0 .. 39, of all)");
        PorterTurns x = new PorterTurns();
        for (int i = 0; i < 40; i++) {
            if (i == 20) {
                due("a FAULT has no number", Check.law(x, 0, 0, 0, "+"), -100);
            }
            due("its number", Check.law(x, i % 4, i % 5, 0, String.valueOf(i)), i);
        }
        due("how many", x.count(3), 40);
        due("the last one", x.inForce(3, 4, 0, 0), 39);
        due("the last one", x.says(3, 4, -1, -1), 39);
    }

    private static PorterTurns fullOfLaws() {
        PorterTurns x = new PorterTurns();
        for (int i = 0; i < 40; i++) {
            Check.law(x, 0, CLAIM, 0, "1");
        }
        return x;
    }

    private static void lawIsFull() {
        Check.sentence(15, "BAD; FULL (it stays).");
        PorterTurns x = fullOfLaws();
        due("the 41st", Check.law(x, 0, CLAIM, 0, "234"), FULL);
        due("THE TAPE stays", x.count(9), 3);
        due("how many", x.count(3), 40);
        due("the 40th is in force", x.inForce(0, CLAIM, 0, 0), 39);
        due("of another FELLOWSHIP too", x.law(3, SHARE, 0), FULL);
    }

    private static void lawBad() {
        Check.sentence(15, "in force from a DAY (0 .. 166) on");
        PorterTurns x = new PorterTurns();
        due("DAY 0", Check.law(x, 0, CLAIM, 0, "1"), 0);
        due("DAY 166", Check.law(x, 0, CLAIM, 166, "1"), 1);
        due("DAY -1", Check.law(x, 0, CLAIM, -1, "1"), BAD);
        due("DAY 167", Check.law(x, 0, CLAIM, 167, "1"), BAD);
        due("the least DAY", x.law(0, CLAIM, Integer.MIN_VALUE), BAD);
        due("the greatest DAY", x.law(0, CLAIM, Integer.MAX_VALUE), BAD);
        Check.sentence(15, "a TEXT of a FELLOWSHIP and a USE: 0 CLAIM");
        due("USE 4", Check.law(x, 0, 4, 0, "1"), 2);
        due("USE -1", Check.law(x, 0, -1, 0, "1"), BAD);
        due("USE 5", x.law(0, 5, 0), BAD);
        due("FELLOWSHIP -1", x.law(-1, 0, 0), BAD);
        due("FELLOWSHIP 4", x.law(4, 0, 0), BAD);
        for (int far : City.FAR_OFF) {
            due("USE " + far, x.law(0, far, 0), BAD);
            due("FELLOWSHIP " + far, x.law(far, 0, 0), BAD);
        }
        due("FELLOWSHIP 3", x.law(3, 0, 0), 3);
    }

    private static void lawEmptiesTheTape() {
        Check.sentence(15, "-100 less its FAULT; THE TAPE is empty then.");
        PorterTurns x = new PorterTurns();
        due("an empty THE TAPE", x.law(0, 0, 0), -100);
        Check.law(x, 0, 0, 0, "123");
        due("passed: it is empty", x.count(9), 0);
        due("nothing can be passed again", x.law(0, 0, 0), -100);
        due("a FAULT at 2", Check.law(x, 0, 0, 0, "1 2"), -102);
        due("a FAULT: it is empty", x.count(9), 0);
        due("a FAULT is no BY-LAW", x.count(3), 1);
        due("the one ahead is in force", x.inForce(0, 0, 0, 0), 0);
        due("the last FAULT of 200 bytes", Check.law(x, 0, 0, 0, " ".repeat(199) + ")"), -299);
        due("200 bytes that end too early", Check.law(x, 0, 0, 0, "1+".repeat(100)), -300);
        due("200 blanks", Check.law(x, 0, 0, 0, " ".repeat(200)), -300);
    }

    private static void lawStaysOnTheTape() {
        Check.sentence(15, "What is answered so changes nothing.");
        PorterTurns x = new PorterTurns();
        Check.tape(x, "77");
        due("BAD", x.law(4, 0, 0), BAD);
        due("BAD", x.law(0, 5, 0), BAD);
        due("BAD", x.law(0, 0, 167), BAD);
        due("its bytes are there", x.count(9), 2);
        due("it may be passed now", x.law(0, 0, 0), 0);
        due("it may be passed now", x.says(0, 0, -1, -1), 77);
    }

    private static void lawOrderOfAnswers() {
        Check.sentence(15, "Answers, of several the one named first");
        PorterTurns x = new PorterTurns();
        due("BAD and a FAULT", Check.law(x, 0, 0, 167, "+"), BAD);
        due("THE TAPE stays", x.count(9), 1);
        x = fullOfLaws();
        due("FULL and a FAULT", Check.law(x, 0, 0, 0, "+"), FULL);
        due("THE TAPE stays", x.count(9), 1);
        due("BAD and FULL", x.law(4, 0, 0), BAD);
        due("BAD and FULL", x.law(0, -1, 0), BAD);
        due("BAD and FULL", x.law(0, 0, -1), BAD);
    }

    // ---- 16

    private static void inForceKnown() {
        Check.sentence(16, "of its FELLOWSHIP and USE those passed on DAY k or ahead");
        PorterTurns x = new PorterTurns();
        x.minutes(599);
        Check.law(x, 0, 0, 0, "1");
        x.minutes(1);
        Check.law(x, 0, 0, 0, "1");
        x.minutes(600);
        Check.law(x, 0, 0, 0, "1");
        int[] known = {0, 1, 2, 2};
        for (int k = 0; k < known.length; k++) {
            due("AS KNOWN on " + k, x.inForce(0, 0, 166, k), known[k]);
            due("on DAY 0 too", x.inForce(0, 0, 0, k), known[k]);
        }
        due("AS KNOWN on 166", x.inForce(0, 0, 0, 166), 2);
        PorterTurns y = new PorterTurns();
        y.minutes(600);
        Check.law(y, 0, 0, 0, "1");
        due("not yet known", y.inForce(0, 0, 166, 0), NOT);
        due("known", y.inForce(0, 0, 0, 1), 0);
    }

    private static void inForceFromADay() {
        Check.sentence(16, "in force from that DAY or an earlier one");
        PorterTurns x = new PorterTurns();
        Check.law(x, 0, 0, 5, "1");
        due("the DAY ahead", x.inForce(0, 0, 4, 166), NOT);
        due("that DAY", x.inForce(0, 0, 5, 0), 0);
        due("the DAY behind", x.inForce(0, 0, 6, 0), 0);
        due("the last DAY", x.inForce(0, 0, 166, 0), 0);
        Check.law(x, 0, 1, 166, "1");
        due("of the last DAY, ahead of it", x.inForce(0, 1, 165, 166), NOT);
        due("of the last DAY", x.inForce(0, 1, 166, 0), 1);
        Check.law(x, 0, 2, 0, "1");
        due("of DAY 0", x.inForce(0, 2, 0, 0), 2);
    }

    private static void inForcePassedLast() {
        Check.sentence(16, "the one passed last");
        PorterTurns x = new PorterTurns();
        Check.law(x, 0, 0, 3, "1");
        Check.law(x, 0, 0, 2, "1");
        Check.law(x, 0, 0, 4, "1");
        int[] inForce = {NOT, NOT, 1, 1, 2, 2};
        for (int day = 0; day < inForce.length; day++) {
            due("on DAY " + day, x.inForce(0, 0, day, 0), inForce[day]);
        }
        Check.law(x, 0, 0, 0, "1");
        due("of one DAY the later one", x.inForce(0, 0, 4, 0), 3);
    }

    private static void inForceOfItsOwn() {
        Check.sentence(16, "The BY-LAW in force on a DAY AS KNOWN on DAY k; NOT: none.");
        PorterTurns x = new PorterTurns();
        Check.law(x, 1, 2, 0, "1");
        for (int f = 0; f <= 3; f++) {
            for (int use = 0; use <= 4; use++) {
                due("of " + f + ", USE " + use, x.inForce(f, use, 0, 0), f == 1 && use == 2 ? 0 : NOT);
            }
        }
    }

    private static void inForceOnTheLastDay() {
        Check.sentence(16, "Passed on a DAY, in force from a DAY on");
        PorterTurns x = new PorterTurns();
        Check.passTo(x, 99599);
        Check.law(x, 0, 0, 166, "1");
        x.minutes(1);
        Check.law(x, 0, 0, 166, "2");
        Check.passTo(x, 99999);
        Check.law(x, 0, 0, 166, "3");
        due("AS KNOWN on 164", x.inForce(0, 0, 166, 164), NOT);
        due("AS KNOWN on 165", x.inForce(0, 0, 166, 165), 0);
        due("AS KNOWN on 166", x.inForce(0, 0, 166, 166), 2);
        due("on DAY 165", x.inForce(0, 0, 165, 166), NOT);
    }

    private static void inForceBad() {
        Check.sentence(16, "NOT: none. BAD.");
        PorterTurns x = new PorterTurns();
        for (int no : new int[] {-1, 4, Integer.MIN_VALUE, Integer.MAX_VALUE}) {
            due("FELLOWSHIP " + no, x.inForce(no, 0, 0, 0), BAD);
        }
        for (int no : new int[] {-1, 5, Integer.MIN_VALUE, Integer.MAX_VALUE}) {
            due("USE " + no, x.inForce(0, no, 0, 0), BAD);
        }
        for (int no : new int[] {-1, 167, Integer.MIN_VALUE, Integer.MAX_VALUE}) {
            due("DAY " + no, x.inForce(0, 0, no, 0), BAD);
            due("k " + no, x.inForce(0, 0, 0, no), BAD);
        }
        due("the last of all", x.inForce(3, 4, 166, 166), NOT);
    }

    // ---- 17

    private static void saysWithout() {
        Check.sentence(17, "Without any: CLAIM 0, PRICE WEIGHT (0 without a LOAD), GANG 1, FINE 0, SHARE 5.");
        PorterTurns x = City.withMen(10);
        x.load(4999, 1, 7, 7);
        x.load(1, 1, 7, 7);
        int[] without = {0, 999, 1, 0, 5};
        for (int f = 0; f <= 3; f++) {
            for (int use = 0; use <= 4; use++) {
                due("USE " + use, x.says(f, use, 0, -1), without[use]);
                due("USE " + use + " and a man", x.says(f, use, 0, 0), without[use]);
                due("USE " + use + " without a LOAD", x.says(f, use, -1, -1), use == PRICE ? 0 : without[use]);
                due("USE " + use + " of a man alone", x.says(f, use, -1, 0), use == PRICE ? 0 : without[use]);
            }
            due("PRICE of the least", x.says(f, PRICE, 1, -1), 1);
        }
    }

    private static void saysToday() {
        Check.sentence(17, "What a FELLOWSHIP's USE says now");
        PorterTurns x = City.plain();
        Check.law(x, 0, GANG, 1, "7");
        due("on DAY 0", x.says(0, GANG, -1, -1), 1);
        x.minutes(599);
        due("at its last MINUTE", x.says(0, GANG, -1, -1), 1);
        x.minutes(1);
        due("on DAY 1", x.says(0, GANG, -1, -1), 7);
        due("of another FELLOWSHIP", x.says(1, GANG, -1, -1), 1);
        due("of another USE", x.says(0, SHARE, -1, -1), 5);
        Check.law(x, 0, GANG, 0, "8");
        due("the one passed last", x.says(0, GANG, -1, -1), 8);
        Check.law(x, 0, GANG, 2, "9");
        due("not in force yet", x.says(0, GANG, -1, -1), 8);
        Check.law(x, 0, PRICE, 0, "32768 * 65536");
        due("any int", x.says(0, PRICE, -1, -1), Integer.MIN_VALUE);
        Check.law(x, 0, PRICE, 0, "0 - 20000 * 99999 - 20000");
        due("one that is VOID's number", x.says(0, PRICE, -1, -1), VOID);
    }

    private static void saysBad() {
        Check.sentence(17, "of a LOAD (-1: without) and a man (-1: without). VOID: BAD.");
        PorterTurns x = City.withMen(10, 10);
        City.coal(x, 5);
        City.coal(x, 6);
        due("the last LOAD and man", x.says(0, PRICE, 1, 1), 6);
        for (int no : new int[] {-2, 2, 200, Integer.MIN_VALUE, Integer.MAX_VALUE}) {
            due("LOAD " + no, x.says(0, PRICE, no, -1), VOID);
            due("LOAD " + no + " and a man", x.says(0, PRICE, no, 0), VOID);
            due("man " + no, x.says(0, PRICE, -1, no), VOID);
            due("man " + no + " and a LOAD", x.says(0, PRICE, 0, no), VOID);
        }
        for (int no : new int[] {-1, 4, Integer.MIN_VALUE, Integer.MAX_VALUE}) {
            due("FELLOWSHIP " + no, x.says(no, PRICE, 0, 0), VOID);
        }
        for (int no : new int[] {-1, 5, Integer.MIN_VALUE, Integer.MAX_VALUE}) {
            due("USE " + no, x.says(0, no, 0, 0), VOID);
        }
        due("a man of another FELLOWSHIP", x.says(3, PRICE, 0, 0), 5);
    }

    // ---- 17: NAMES

    private static void nameOfALoad() {
        Check.sentence(17, "NAMES: kind, weight, far, up, value");
        PorterTurns x = City.plain();
        x.load(4999, 302, 9999, 0);
        x.load(1, 203, 0, 0);
        String[] names = {"kind", "weight", "far", "up", "value"};
        int[] ofTheFirst = {4, 999, 99, 44, 9999};
        int[] ofTheSecond = {0, 1, 99, 89, 0};
        for (int i = 0; i < names.length; i++) {
            due(names[i], City.giving(x, names[i], 0, -1), ofTheFirst[i]);
            due(names[i] + " of another LOAD", x.says(3, City.FINE, 1, -1), ofTheSecond[i]);
        }
        x.off(0);
        due("of one taken off", City.giving(x, "weight", 0, -1), 999);
    }

    private static void nameHour() {
        Check.sentence(17, "hour (the MINUTE in its DAY, / 60)");
        PorterTurns x = City.plain();
        Check.law(x, 0, CLAIM, 0, "hour");
        int[] minutes = {0, 59, 60, 119, 120, 539, 540, 599, 600, 659, 660, 99659, 99660, 99999};
        int[] hours = {0, 0, 1, 1, 2, 8, 9, 9, 0, 0, 1, 0, 1, 6};
        for (int i = 0; i < minutes.length; i++) {
            Check.passTo(x, minutes[i]);
            due("at MINUTE " + minutes[i], x.says(0, CLAIM, -1, -1), hours[i]);
        }
    }

    private static void nameDay() {
        Check.sentence(17, "a DAY has 600 of them (DAYS 0 ..");
        PorterTurns x = City.plain();
        Check.law(x, 0, CLAIM, 0, "day");
        int[] minutes = {0, 599, 600, 1199, 1200, 99599, 99600, 99999};
        int[] days = {0, 0, 1, 1, 2, 165, 166, 166};
        for (int i = 0; i < minutes.length; i++) {
            Check.passTo(x, minutes[i]);
            due("at MINUTE " + minutes[i], x.says(0, CLAIM, -1, -1), days[i]);
        }
    }

    private static void nameRain() {
        Check.sentence(17, "rain (1, 0)");
        PorterTurns x = City.plain();
        Check.law(x, 0, CLAIM, 0, "rain");
        x.rain(1, 2);
        due("ahead", x.says(0, CLAIM, -1, -1), 0);
        x.minutes(1);
        due("in it", x.says(0, CLAIM, -1, -1), 1);
        x.rain(1, 2);
        due("in two of them", x.says(0, CLAIM, -1, -1), 1);
        x.minutes(1);
        due("behind", x.says(0, CLAIM, -1, -1), 0);
    }

    private static void nameLate() {
        Check.sentence(17, "late (MINUTES beyond DUE now, 0 at least)");
        PorterTurns x = City.plain();
        Check.law(x, 0, CLAIM, 0, "late");
        x.load(1001, 1, 0, 600);
        x.load(1001, 1, 0, 0);
        x.load(1001, 1, 0, 200000);
        int[] minutes = {0, 599, 600, 601, 1201, 99999};
        int[] late = {0, 0, 0, 1, 601, 99399};
        for (int i = 0; i < minutes.length; i++) {
            Check.passTo(x, minutes[i]);
            due("DUE 600 at MINUTE " + minutes[i], x.says(0, CLAIM, 0, -1), late[i]);
            due("DUE 0 at MINUTE " + minutes[i], x.says(0, CLAIM, 1, -1), minutes[i]);
            due("DUE 200000 at MINUTE " + minutes[i], x.says(0, CLAIM, 2, -1), 0);
        }
        due("without a LOAD", x.says(0, CLAIM, -1, -1), 0);
    }

    private static void nameMen() {
        Check.sentence(17, "men (how many of the FELLOWSHIP are FREE by now, not HURT, not gone)");
        PorterTurns x = City.plain();
        for (int f = 0; f <= 3; f++) {
            Check.law(x, f, SHARE, 0, "men");
        }
        due("none", x.says(0, SHARE, -1, -1), 0);
        City.man(x, 0, 10, 30);
        City.man(x, 0, 10, 30);
        x.man(0, 10, 30, 0);
        City.man(x, 1, 10, 30);
        due("in the row or not", x.says(0, SHARE, -1, -1), 3);
        due("of another FELLOWSHIP", x.says(1, SHARE, -1, -1), 1);
        due("of one without men", x.says(2, SHARE, -1, -1), 0);
        x.gone(2);
        due("gone", x.says(0, SHARE, -1, -1), 2);
        City.hurt(x, 0, 17);
        int[] minutes = {0, 14, 15, 16, 17};
        int[] men = {1, 1, 1, 1, 2};
        for (int i = 0; i < minutes.length; i++) {
            Check.passTo(x, minutes[i]);
            due("one HURT up to 17, at MINUTE " + minutes[i], x.says(0, SHARE, -1, -1), men[i]);
        }
        City.sent(x, 1, 1);
        due("on the way", x.says(1, SHARE, -1, -1), 0);
        x.minutes(14);
        due("a MINUTE ahead", x.says(1, SHARE, -1, -1), 0);
        x.minutes(1);
        due("FREE by now", x.says(1, SHARE, -1, -1), 1);
        due("of a man of another FELLOWSHIP", x.says(1, SHARE, -1, 0), 1);
    }

    private static void nameOfAMan() {
        Check.sentence(17, "age, strength, worked (HOURS)");
        PorterTurns x = City.plain();
        City.man(x, 0, 99, 16);
        City.man(x, 1, 1, 90);
        City.sent(x, 0, 1);
        due("age", City.giving(x, "age", -1, 0), 16);
        due("age of another one", x.says(3, City.FINE, -1, 1), 90);
        due("strength", City.giving(x, "strength", -1, 0), 99);
        due("strength of another one", x.says(3, City.FINE, -1, 1), 1);
        due("worked", City.giving(x, "worked", -1, 0), 15);
        due("worked of another one", x.says(3, City.FINE, -1, 1), 0);
        x.minutes(599);
        due("worked on this DAY", x.says(3, City.FINE, -1, 0), 15);
        x.minutes(1);
        due("worked on the next DAY", x.says(3, City.FINE, -1, 0), 0);
    }

    private static void namesWithout() {
        Check.sentence(17, "Of a USE where there is no LOAD, or no man, these NAMES give 0.");
        PorterTurns x = City.withMen(10);
        x.minutes(5);
        x.load(4999, 3, 9999, 0);
        City.sent(x, 0, 1);
        String ofALoad = "kind + weight + far + up + value + late";
        String ofAMan = "age + strength + worked";
        due("of the LOAD", City.giving(x, ofALoad, 0, -1), 4 + 999 + 99 + 99 + 9999 + 5);
        due("without a LOAD", x.says(3, City.FINE, -1, -1), 0);
        due("of a man alone", x.says(3, City.FINE, -1, 0), 0);
        due("of the man", City.giving(x, ofAMan, -1, 0), 30 + 10 + 15);
        due("without a man", x.says(3, City.FINE, -1, -1), 0);
        due("of a LOAD alone", x.says(3, City.FINE, 0, -1), 0);
    }
}
