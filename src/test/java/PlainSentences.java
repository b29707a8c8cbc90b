/** What the Edges leave of the document, from its first line to its last: sentences that name no boundary. */
final class PlainSentences {
    private static final int BAD = City.BAD, NOT = City.NOT, FULL = City.FULL, VOID = City.VOID;
    private static final int CLAIM = City.CLAIM, PRICE = City.PRICE, GANG = City.GANG, FINE = City.FINE,
            SHARE = City.SHARE;

    private PlainSentences() {
    }

    static void run() {
        theCity();
        theMen();
        theLoads();
        theByLaws();
        theTexts();
        turnsAndPower();
        sending();
        theFund();
        judging();
        answers();
        promisesOfTheCity();
        promisesOfMen();
        promisesOfByLaws();
        promisesOfLoads();
        promisesOfTheFund();
    }

    private static void due(String call, long got, long want) {
        Check.due(call, got, want);
    }

    // ---- Terms, 1

    private static void theCity() {
        // The document's "(DAYS 0 .." ends here.
        Check.sentence(4, "166). RAIN: spans of MINUTES told");
        PorterTurns x = City.plain();
        x.rain(1, 2);
        x.rain(4, 6);
        x.rain(5, 7);
        int[] way = {15, 22, 15, 15, 22, 22, 22, 15};
        for (int minute = 0; minute < way.length; minute++) {
            due("the way at MINUTE " + minute, x.way(0, 1, 2), way[minute]);
            x.minutes(1);
        }

        Check.sentence(2, "x (0 .. 99) and STAIRS (0 .. 99) on the hill");
        x = new PorterTurns();
        x.place(30, 7);
        x.place(12, 20);
        due("x", x.way(0, 1, 0), 18);
        due("x", x.way(1, 0, 0), 18);
        due("STAIRS, up", x.way(0, 1, 1), 13);
        due("STAIRS, down", x.way(1, 0, 1), 6);

        Check.sentence(3, "A PLACE may be under WATER in the minutes of each DAY from one to another one");
        x = City.withMen(99);
        City.coal(x, 1);
        x.load(1001, 100, 0, 0);
        x.tide(0, 100, 200);
        for (int day = 0; day < 3; day++) {
            due("ahead of it, DAY " + day, x.why(0, 0), 0);
            x.minutes(150);
            due("in it, DAY " + day, x.why(0, 0), 4);
            due("another PLACE, DAY " + day, x.why(0, 1), 0);
            x.minutes(150);
            due("behind it, DAY " + day, x.why(0, 0), 0);
            x.minutes(300);
        }
    }

    private static void theMen() {
        Check.sentence(6, "MEN 0 .. 59, as they were made: a FELLOWSHIP, a STRENGTH (1 .. 99), an AGE in years"
                + " (16 .. 90; it does not grow), a house.");
        PorterTurns x = City.plain();
        due("a man", x.man(2, 33, 44, 3), 0);
        due("another one", x.man(1, 34, 45, 0), 1);
        for (int days = 0; days < 2; days++) {
            due("FELLOWSHIP", x.about(0, 0), 2);
            due("STRENGTH", x.about(0, 1), 33);
            due("AGE", x.about(0, 2), 44);
            due("FELLOWSHIP of the other one", x.about(1, 0), 1);
            due("STRENGTH of the other one", x.about(1, 1), 34);
            due("AGE of the other one", x.about(1, 2), 45);
            Check.pass(x, 20 * 600);
        }

        Check.sentence(10, "he may be HURT up to a MINUTE, or gone for ever");
        x = City.withMen(10, 10);
        int hurt = City.hurt(x, 0, 777);
        due("HURT up to", x.about(hurt, 6), 777);
        due("he is not gone", x.about(hurt, 8), 0);
        x.minutes(15);
        due("gone", x.gone(1), 1);
        Check.pass(x, 1200);
        due("gone for ever", x.about(1, 8), 1);
        due("he can't come back", x.join(1), NOT);
        due("never HURT", x.about(1, 6), 0);
    }

    // ---- Terms, 2

    private static void theLoads() {
        Check.sentence(18, "from a PLACE to another one, a VALUE (0 .. 9999), an owner's DUE MINUTE"
                + " (up to which it should be there)");
        PorterTurns x = City.withMen(10, 10);
        x.load(2010, 1, 123, 14);
        x.load(3011, 1, 456, 15);
        int[] both = {2, 0, 1, 123, 14, 3, 0, 1, 456, 15};
        int[] what = {0, 2, 3, 4, 5};
        for (int i = 0; i < both.length; i++) {
            due("told(" + i / 5 + ", " + what[i % 5] + ")", x.told(i / 5, what[i % 5]), both[i]);
        }
        x.send(0, 0);
        x.send(0, 1);
        x.minutes(15);
        due("beyond DUE", x.told(0, 10), 5);
        due("at DUE", x.told(1, 10), 11);
    }

    private static void theByLaws() {
        Check.sentence(15, "A BY-LAW is a TEXT of a FELLOWSHIP and a USE");
        PorterTurns x = City.plain();
        for (int i = 0; i < 20; i++) {
            due("it is passed", Check.law(x, i / 5, i % 5, 0, String.valueOf(100 + i)), i);
        }
        for (int i = 0; i < 20; i++) {
            due("FELLOWSHIP " + i / 5 + ", USE " + i % 5, x.says(i / 5, i % 5, -1, -1), 100 + i);
        }

        Check.sentence(19, "0 CLAIM (what it gives: not 0: the LOAD is that FELLOWSHIP's to carry)");
        x = City.withMen(99);
        City.man(x, 1, 99, 30);
        City.coal(x, 1);
        Check.law(x, 1, CLAIM, 0, "0-7");
        due("it gives less than 0", x.whose(0), 1);
        due("another one's", x.why(0, 0), 3);
        due("its", x.why(1, 0), 0);
        Check.law(x, 1, CLAIM, 0, "0");
        due("it gives 0", x.whose(0), 4);

        Check.sentence(21, "1 PRICE (coins), 2 GANG (how many men at least), 3 FINE (of a man),"
                + " 4 SHARE (of the price, in hundredths, for THE FUND).");
        x = City.withMen(99, 99, 99);
        Check.law(x, 0, PRICE, 0, "200");
        Check.law(x, 0, GANG, 0, "2");
        Check.law(x, 0, FINE, 0, "strength-90");
        Check.law(x, 0, SHARE, 0, "25");
        due("GANG", x.send(0, City.coal(x, 1)), 2);
        x.minutes(15);
        due("PRICE", x.told(0, 10), 200);
        due("SHARE", x.fund(0, 0), 50);
        due("the first one's part", x.about(0, 3), 75);
        due("the second one's part", x.about(1, 3), 75);
        City.sent(x, 0, 1);
        due("one of those that go has no coins", x.gang(1, 0), 2);
        due("FINE", x.fall(1, -1, 0), 9);

        Check.sentence(16, "in force on a DAY AS KNOWN on DAY k: of its FELLOWSHIP and USE those passed on DAY k or"
                + " ahead, in force from that DAY or an earlier one: the one passed last");
        x = City.plain();
        Check.law(x, 0, PRICE, 5, "1");
        Check.law(x, 0, PRICE, 3, "2");
        Check.pass(x, 1200);
        Check.law(x, 0, PRICE, 4, "3");
        int[] knownAtFirst = {NOT, NOT, NOT, 1, 1, 1};
        int[] knownLater = {NOT, NOT, NOT, 1, 2, 2};
        for (int day = 0; day < 6; day++) {
            due("on DAY " + day + " as known on DAY 0", x.inForce(0, PRICE, day, 0), knownAtFirst[day]);
            due("on DAY " + day + " as known on DAY 1", x.inForce(0, PRICE, day, 1), knownAtFirst[day]);
            due("on DAY " + day + " as known on DAY 2", x.inForce(0, PRICE, day, 2), knownLater[day]);
        }
    }

    private static void theTexts() {
        Check.sentence(15, "TEXT: THE TAPE (at most 200 bytes), words (a .. z), numbers (1 to 5 digits), signs;");
        PorterTurns x = City.plain();
        due("all that a TEXT may have", Check.law(x, 0, PRICE, 0,
                "1 if kind and not(up>0)or 7<3;max(99999,min(12,3)*2-4/2)=5+0"), 0);
        for (char sign : "!#$%&'.:?@[]^_`{|}~\"\\".toCharArray()) {
            due("a strange sign " + sign, Check.law(x, 0, PRICE, 0, "1" + sign + "2"), -101);
        }

        Check.sentence(17, "men (how many of the FELLOWSHIP are FREE by now, not HURT, not gone), day, age,");
        x = City.withMen(1, 2, 3);
        x.man(1, 1, 20, 0);
        Check.law(x, 0, FINE, 0, "day*10000+men*100+age");
        due("men and age, DAY 0", x.says(0, FINE, -1, 1), 330);
        x.leave(2);
        due("in no row", x.says(0, FINE, -1, 1), 330);
        x.gone(2);
        due("one is gone", x.says(0, FINE, -1, 1), 230);
        City.hurt(x, 0, 700);
        due("one is on the way", x.says(0, FINE, -1, 1), 130);
        x.minutes(600);
        due("he is HURT, DAY 1", x.says(0, FINE, -1, 1), 10130);
        x.minutes(100);
        due("and no more", x.says(0, FINE, -1, -1), 10200);

        Check.sentence(15, "FAULT: the place (from 0) of the first byte of the first word, number");
        due("at the first byte of all", Check.law(x, 0, PRICE, 0, "foo"), -100);
        due("of two the first", Check.law(x, 0, PRICE, 0, "1 +  foo + bar"), -105);
    }

    // ---- Terms, 3

    private static void turnsAndPower() {
        Check.sentence(19, "WHOSE a LOAD is now: the FELLOWSHIPS whose CLAIM is not 0: one alone: its;");
        PorterTurns x = City.plain();
        City.coal(x, 1);
        for (int fellowship = 0; fellowship < 4; fellowship++) {
            Check.law(x, fellowship, CLAIM, 0, "1");
            due("FELLOWSHIP " + fellowship, x.whose(0), fellowship);
            Check.law(x, fellowship, CLAIM, 0, "0");
        }

        Check.sentence(11, "TURNS of a FELLOWSHIP: a row of its MEN (each once at most), in the order in which they"
                + " came; BY LIST: the first one is next.");
        x = City.withMen(50, 50, 50);
        City.man(x, 1, 50, 30);
        x.leave(0);
        x.join(0);
        int[] row = {1, 2, 0, BAD};
        for (int i = 0; i < row.length; i++) {
            due("turn(0, " + i + ")", x.turn(0, i), row[i]);
        }
        due("of another FELLOWSHIP", x.turn(1, 0), 3);
        due("he is in it", x.join(1), NOT);
        int first = City.sent(x, 0, 1);
        due("the first one goes", x.gang(first, 0), 1);
        due("the next one is first", x.turn(0, 0), 2);

        Check.sentence(21, "(an int): of those that may go the one at place (z >>> 8) % how many there are");
        x = City.withMen(50, 50, 50, 50, 50);
        x.dice(0, 1, -123456789);
        int z = -123456789;
        int[] left = {0, 1, 2, 3, 4};
        for (int many = 5; many > 0; many--) {
            z = z * 1103515245 + 12345;
            int at = (z >>> 8) % many;
            due("of " + many, x.gang(City.sent(x, 0, 1), 0), left[at]);
            System.arraycopy(left, at + 1, left, at, many - 1 - at);
        }

        Check.sentence(21, "A man MAY GO with a LOAD if he is in the row, FREE by now, not HURT, and HOURS and the"
                + " way's minutes are at most 480");
        x = City.withMen(50);
        due("he may", x.why(0, City.coal(x, 1)), 0);
        x.leave(0);
        due("he is in no row", x.why(0, 0), 6);
        x.join(0);
        due("he is again", x.why(0, 0), 0);

        Check.sentence(21, "POWER of a GANG: all STRENGTHS together. It is enough if 4 times POWER is not below WEIGHT"
                + " and UP together (UP counted once); and it is at least as many MEN as GANG says");
        x = City.withMen(10, 20, 30, 40);
        due("10", x.send(0, City.coal(x, 40)), 1);
        due("20 and 30", x.send(0, City.coal(x, 200)), 2);
        due("40 is not enough", x.send(0, City.coal(x, 161)), -16);
        Check.law(x, 0, GANG, 0, "2");
        due("one man is not enough", x.send(0, City.coal(x, 1)), -16);
    }

    private static void sending() {
        Check.sentence(21, "TO SEND a FELLOWSHIP for a LOAD now.");
        PorterTurns x = City.withMen(10, 10);
        City.man(x, 1, 10, 30);
        x.minutes(7);
        due("one man of it goes", x.send(1, City.coal(x, 1)), 1);
        due("the FELLOWSHIP", x.told(0, 7), 1);
        due("now", x.told(0, 12), 22);

        Check.sentence(20, "6 MEN that MAY GO are taken in TURNS (BY LIST or DICE), one after the other");
        x = City.withMen(5, 5, 99);
        x.dice(0, 1, 1);
        City.coal(x, 396);
        due("BY LIST three are enough", x.why(0, 0), 0);
        due("BY DICE they are, too", x.send(0, 0) > 0 ? 1 : 0, 1);
        x = City.withMen(5, 5);
        due("both are not enough", x.why(0, City.coal(x, 41)), 6);

        Check.sentence(21, "The LOAD is CARRIED, and THERE at that MINUTE, by MINUTES.");
        x = City.withMen(10);
        City.sent(x, 0, 1);
        for (int minute = 0; minute < 15; minute++) {
            due("CARRIED at MINUTE " + minute, x.told(0, 6), 1);
            x.minutes(1);
        }
        due("THERE", x.told(0, 6), 2);

        Check.sentence(26, "When it is THERE: if it is beyond DUE, half of PRICE (the rest away) is paid, else all."
                + " Of it SHARE hundredths (the rest away) go to THE FUND of the FELLOWSHIP");
        x = City.withMen(10);
        x.load(1033, 1, 0, 0);
        x.send(0, 0);
        x.minutes(14);
        due("nothing ahead", x.count(11), 0);
        x.minutes(1);
        due("half of 33", x.told(0, 10), 16);
        due("nothing of 16 for THE FUND", x.fund(0, 0), 0);
        due("all for the man", x.about(0, 3), 16);

        Check.sentence(21, "PRICE (0 at least, 100000 at most) and SHARE (0 at least, 100 at most) are found when it is"
                + " sent.");
        x = City.withMen(10);
        Check.law(x, 0, PRICE, 0, "200 if hour = 0; 300");
        Check.law(x, 0, SHARE, 0, "10 if hour = 0; 20");
        x.minutes(50);
        City.sent(x, 0, 1);
        due("PRICE at MINUTE 50", x.told(0, 9), 200);
        x.minutes(15);
        due("PRICE at MINUTE 65", x.told(0, 10), 200);
        due("SHARE at MINUTE 65", x.fund(0, 0), 20);
        due("the next one's PRICE", x.told(City.sent(x, 0, 1), 9), 300);

        Check.sentence(23, "(they are FREE as told), and each pays his FINE (0 at least) as far as he has coins, to THE"
                + " FUND, in the order in which they were taken. One man of the GANG may be HURT");
        x = City.withMen(10, 10);
        City.sent(x, 0, 100 - 20);
        x.minutes(15);
        Check.law(x, 0, FINE, 0, "1000");
        City.sent(x, 0, 80);
        due("all that both have", x.fall(1, 0, 100), 76);
        due("it is in THE FUND", x.fund(0, 0), 80);
        due("FREE as told", x.about(0, 5), 30);
        due("the one is HURT", x.about(0, 6), 100);
        due("the other one is not", x.about(1, 6), 0);
    }

    // ---- Terms, 4

    private static void theFund() {
        Check.sentence(29, "FORETOLD: the first DAY, of the next 400, on which someone would not be paid whole,");
        PorterTurns x = City.plain();
        City.man(x, 0, 10, 30);
        City.man(x, 0, 10, 70);
        City.fill(x, 0, 30);
        x.rates(0, 0, 10);
        due("30 coins, 10 each DAY", x.foretold(0), 4);
        x.rates(0, 0, 31);
        due("31 the first DAY", x.foretold(0), 1);

        Check.sentence(24, "WAITING of a LOAD: from its coming till it is sent");
        x = City.withMen(10);
        x.minutes(3);
        City.coal(x, 1);
        x.minutes(4);
        due("on the BOARD", x.told(0, 11), 4);
        x.send(0, 0);
        x.minutes(50);
        due("sent", x.told(0, 11), 4);
    }

    private static void judging() {
        Check.sentence(27, "JUDGED: a DISPUTE of a LOAD between two FELLOWSHIPS that both CLAIM it on the DAY on which"
                + " it came, AS KNOWN on DAY k");
        PorterTurns x = City.plain();
        Check.law(x, 2, CLAIM, 0, "weight");
        Check.law(x, 3, CLAIM, 0, "50");
        City.coal(x, 49);
        City.coal(x, 50);
        City.coal(x, 51);
        due("a DISPUTE", x.whose(0), 5);
        due("the second one gives more", x.judged(0, 2, 3, 0), 3);
        due("like ones", x.judged(1, 3, 2, 0), 2);
        due("the first one gives more", x.judged(2, 3, 2, 0), 2);
    }

    private static void answers() {
        Check.sentence(1, "NOT (-2): as told; FULL (-3); WHY: -10 less WHY. VOID is -2000000000.");
        due("BAD", PorterTurns.BAD, -1);
        due("NOT", PorterTurns.NOT, -2);
        due("FULL", PorterTurns.FULL, -3);
        due("VOID", PorterTurns.VOID, -2000000000);
        due("nothing in a new object", new PorterTurns().says(0, 0, 0, 0), VOID);
        PorterTurns x = City.withMen(10);
        City.sent(x, 0, 1);
        due("WHY 1", x.send(0, 0), -11);
        due("NOT", x.off(0), NOT);
    }

    // ---- the promises' own words

    private static void promisesOfTheCity() {
        Check.sentence(2, "A new PLACE: its number. BAD, FULL.");
        PorterTurns x = new PorterTurns();
        due("x is BAD", x.place(100, 0), BAD);
        for (int i = 0; i < 20; i++) {
            due("its number", x.place(i, i), i);
        }
        due("FULL", x.place(1, 1), FULL);
        due("BAD is named first", x.place(1, 100), BAD);

        Check.sentence(3, "A PLACE is under water from a minute of each DAY to another one"
                + " (0 <= from <= to <= 600): 1. BAD.");
        due("told", x.tide(19, 0, 600), 1);
        due("no such PLACE", x.tide(20, 0, 600), BAD);

        Check.sentence(4, "how many spans were told. BAD, FULL.");
        for (int i = 1; i <= 20; i++) {
            due("spans", x.rain(i, i + 1), i);
        }
        due("FULL", x.rain(1, 2), FULL);
        due("BAD is named first", x.rain(2, 1), BAD);

        Check.sentence(5, "FAR (what 0), UP (1) from a PLACE to another one, minutes of the way now (2).");
        due("FAR", x.way(3, 9, 0), 6);
        due("UP", x.way(3, 9, 1), 6);
        due("minutes", x.way(3, 9, 2), 23);
        x.minutes(1);
        due("in RAIN now", x.way(3, 9, 2), 34);
    }

    private static void promisesOfMen() {
        Check.sentence(6, "A new man: his number (he is in no row); house: a PLACE. BAD, FULL.");
        PorterTurns x = City.plain();
        due("no such house", x.man(0, 1, 20, 4), BAD);
        for (int i = 0; i < 60; i++) {
            due("his number", x.man(i % 4, 1 + i, 20, i % 4), i);
            due("he is in no row", x.about(i, 7), -1);
        }
        due("FULL", x.man(0, 1, 20, 0), FULL);
        due("BAD is named first", x.man(0, 100, 20, 0), BAD);

        Check.sentence(7, "how many are in it. BAD; NOT: he is in it, not FREE by now, or gone.");
        due("no such man", x.join(60), BAD);
        due("one", x.join(4), 1);
        due("two", x.join(8), 2);
        due("of another FELLOWSHIP", x.join(5), 1);
        due("he is in it", x.join(8), NOT);

        Check.sentence(9, "(and leaves the row): 1. BAD; NOT: he is gone, or not FREE by now.");
        due("no such man", x.gone(-1), BAD);
        due("gone", x.gone(4), 1);
        due("he is gone", x.gone(4), NOT);
        due("the row", x.turn(0, 0), 8);
        City.sent(x, 0, 1);
        due("on the way", x.gone(8), NOT);

        Check.sentence(10, "Of a man: 0 FELLOWSHIP, 1 STRENGTH, 2 AGE, 3 coins, 4 HOURS, 5 the MINUTE from which he is"
                + " FREE, 6 up to which he is HURT (0: never), 7 his place in the row (-1), 8 whether gone, 9 the LOAD");
        int[] underWay = {0, 9, 20, 0, 15, 15, 0, -1, 0, 0};
        int[] waiting = {1, 6, 20, 0, 0, 0, 0, 0, 0, -1};
        int[] gone = {0, 5, 20, 0, 0, 0, 0, -1, 1, -1};
        for (int what = 0; what < 10; what++) {
            due("about one on the way, " + what, x.about(8, what), underWay[what]);
            due("about one in a row, " + what, x.about(5, what), waiting[what]);
            due("about one that is gone, " + what, x.about(4, what), gone[what]);
        }

        Check.sentence(12, "what they did. BAD.");
        due("no such FELLOWSHIP", x.dice(4, 1, 0), BAD);
        due("BY LIST at first", x.dice(2, 1, 5), 0);
        due("BY DICE then", x.dice(2, 0, 5), 1);
        due("BY LIST again", x.dice(2, 0, 5), 0);
    }

    private static void promisesOfByLaws() {
        Check.sentence(13, "the highest of each number first: how many it has. FULL.");
        PorterTurns x = City.plain();
        due("20 bytes", x.feed('1' << 24 | '2' << 16 | '3' << 8 | '4', '+' << 24 | '5' << 16 | 0x2020, 0x20202020,
                0x20202020, 0x20202020), 20);
        due("20 more", x.feed(0x20202020, 0x20202020, 0x20202020, 0x20202020, 0x2020202a), 40);
        due("the sign stands last", x.law(0, PRICE, 0), -140);
        x.feed('1' << 24 | '2' << 16 | '3' << 8 | '4', '+' << 24 | '5' << 16 | 0x2020, 0x20202020, 0x20202020,
                0x20202020);
        due("it is passed", x.law(0, PRICE, 0), 0);
        due("in this order", x.says(0, PRICE, -1, -1), 1239);

        Check.sentence(15, "THE TAPE is passed as a BY-LAW, TODAY, in force from a DAY (0 .. 166) on: its number");
        Check.pass(x, 1200);
        due("passed on DAY 2", Check.law(x, 0, PRICE, 0, "7"), 1);
        due("not known on DAY 1", x.inForce(0, PRICE, 2, 1), 0);
        due("known on DAY 2, from DAY 0 on", x.inForce(0, PRICE, 0, 2), 1);
        due("it says so", x.says(0, PRICE, -1, -1), 7);
    }

    private static void promisesOfLoads() {
        Check.sentence(18, "A LOAD: its number. what: 1000 times KIND, and WEIGHT; places: 100 times from, and to"
                + " (another one); due 0 .. 200000. BAD, FULL.");
        PorterTurns x = City.withMen(99, 99);
        for (int i = 0; i < 200; i++) {
            due("its number", x.load(4321, 302, 5, 6), i);
        }
        int[] told = {4, 321, 3, 2, 5, 6, 0, -1, 0, 0, 0, 0, -1};
        for (int what = 0; what < told.length; what++) {
            due("told(199, " + what + ")", x.told(199, what), told[what]);
        }
        due("FULL", x.load(1001, 1, 0, 0), FULL);
        due("BAD is named first", x.load(1000, 1, 0, 0), BAD);

        Check.sentence(19, "WHOSE a LOAD is now: a FELLOWSHIP; 4: anybody's; 5: a DISPUTE. BAD.");
        due("no such LOAD", x.whose(200), BAD);
        due("anybody's", x.whose(0), 4);
        Check.law(x, 3, CLAIM, 0, "1");
        due("a FELLOWSHIP", x.whose(0), 3);
        Check.law(x, 0, CLAIM, 0, "hour < 1");
        due("a DISPUTE", x.whose(0), 5);
        x.minutes(60);
        due("no more", x.whose(0), 3);
        Check.law(x, 3, CLAIM, 0, "0");

        Check.sentence(20, "WHY a FELLOWSHIP may not be SENT for a LOAD now; 0: it may. BAD.");
        due("no such LOAD", x.why(0, 200), BAD);
        due("no such FELLOWSHIP", x.why(4, 0), BAD);
        due("it may", x.why(0, 0), 0);
        due("it may not", x.why(1, 0), 6);
        due("nothing has changed", x.told(0, 6), 0);

        Check.sentence(21, "TO SEND: how many men go. BAD, WHY.");
        due("no such LOAD", x.send(0, 200), BAD);
        due("no such FELLOWSHIP", x.send(-1, 0), BAD);
        due("WHY 6", x.send(1, 0), -16);
        due("321 and 4 are below 4 times 99", x.send(0, 0), 1);

        Check.sentence(24, "Of a LOAD: 0 KIND, 1 WEIGHT, 2 from, 3 to, 4 VALUE, 5 DUE, 6 STATE, 7 FELLOWSHIP that"
                + " carries, carried it (-1), 8 how many men, 9 PRICE (0 ahead), 10 what was paid, 11 WAITING, 12 the");
        int way = x.way(3, 2, 2);
        due("the way is long", way, 99 + 2 * 44 + 5);
        int[] carried = {4, 321, 3, 2, 5, 6, 1, 0, 1, 321, 0, 60, 60 + way};
        int[] there = {4, 321, 3, 2, 5, 6, 2, 0, 1, 321, 160, 60, 60 + way};
        for (int what = 0; what < told.length; what++) {
            due("CARRIED, told(0, " + what + ")", x.told(0, what), carried[what]);
        }
        x.minutes(way);
        for (int what = 0; what < told.length; what++) {
            due("THERE, told(0, " + what + ")", x.told(0, what), there[what]);
        }

        Check.sentence(27, "JUDGED: the FELLOWSHIP. BAD (also a is b). NOT: they do not both CLAIM it.");
        due("a is b", x.judged(0, 1, 1, 0), BAD);
        due("one does not, on DAY 0", x.judged(0, 0, 3, 0), NOT);
        Check.law(x, 3, CLAIM, 0, "1");
        due("both do", x.judged(0, 3, 0, 0), 0);
    }

    private static void promisesOfTheFund() {
        Check.sentence(31, "How many: 0 PLACES, 1 MEN, 2 LOADS, 3 BY-LAWS, 4 MINUTE, 5 on the BOARD, 6 CARRIED,"
                + " 7 THERE, 8 FALLEN, 9 bytes on THE TAPE, 10 all WAITING of LOADS, 11 coins that were paid for LOADS.");
        PorterTurns x = City.withMen(10, 10, 10);
        x.minutes(2);
        City.sent(x, 0, 20);
        x.minutes(15);
        City.sent(x, 0, 21);
        City.sent(x, 0, 22);
        x.fall(2, -1, 0);
        City.coal(x, 23);
        City.coal(x, 24);
        City.coal(x, 25);
        x.minutes(4);
        x.off(5);
        Check.law(x, 3, SHARE, 0, "1");
        Check.law(x, 3, SHARE, 0, "2");
        Check.tape(x, "12345");
        x.minutes(1);
        int[] counted = {4, 3, 6, 2, 22, 2, 1, 1, 1, 5, 5 + 5 + 4, 20};
        for (int what = 0; what < counted.length; what++) {
            due("count(" + what + ")", x.count(what), counted[what]);
        }
    }
}
