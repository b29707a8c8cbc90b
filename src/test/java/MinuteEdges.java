/** Promises 23 and 26: a LOAD falls, MINUTES go by. */
final class MinuteEdges {
    private static final int BAD = City.BAD, NOT = City.NOT;
    private static final int PRICE = City.PRICE, GANG = City.GANG, FINE = City.FINE, SHARE = City.SHARE;

    private MinuteEdges() {
    }

    static void run() {
        fallWhileCarried();
        fallNot();
        fallHurt();
        fallUntil();
        fallOrderOfAnswers();
        fallNothingIsPaid();
        fallGangGoesOn();
        fallFineAtLeast();
        fallFineAsFarAsCoins();
        fallFineOfEach();
        fallFineToday();
        fallToItsFund();
        minutesMany();
        minutesBeyond();
        minutesDayBegins();
        minutesFundAheadOfLoads();
        minutesLoadsByNumbers();
        minutesOneByOne();
    }

    private static void due(String call, long got, long want) {
        Check.due(call, got, want);
    }

    /** Men of FELLOWSHIP 0, of STRENGTH 10, with coins each that came by LOAD 0; MINUTE is 15. */
    private static PorterTurns rich(int men, int coins, String fine) {
        PorterTurns x = City.plain();
        for (int man = 0; man < men; man++) {
            City.man(x, 0, 10, 30);
        }
        Check.law(x, 0, PRICE, 0, String.valueOf(men * coins));
        Check.law(x, 0, SHARE, 0, "0");
        Check.law(x, 0, GANG, 0, String.valueOf(men));
        Check.law(x, 0, FINE, 0, fine);
        City.sent(x, 0, 1);
        x.minutes(15);
        return x;
    }

    // ---- 23

    private static void fallWhileCarried() {
        Check.sentence(23, "A LOAD may FALL while it is CARRIED (told): it is FALLEN");
        PorterTurns x = City.withMen(10, 10);
        City.sent(x, 0, 1);
        due("just sent", x.fall(0, -1, 0), 0);
        due("STATE", x.told(0, 6), 3);
        City.sent(x, 0, 1);
        x.minutes(14);
        due("a MINUTE ahead of its coming", x.fall(1, -1, 0), 0);
        due("STATE", x.told(1, 6), 3);
        due("FALLEN", x.count(8), 2);
        due("CARRIED", x.count(6), 0);
    }

    private static void fallNot() {
        Check.sentence(23, "NOT: it is not CARRIED");
        PorterTurns x = City.withMen(10);
        City.coal(x, 1);
        due("on the BOARD", x.fall(0, -1, 0), NOT);
        x.send(0, 0);
        x.minutes(15);
        due("THERE", x.fall(0, -1, 0), NOT);
        due("THERE, one of its GANG", x.fall(0, 0, 0), NOT);
        City.sent(x, 0, 1);
        x.fall(1, -1, 0);
        due("FALLEN", x.fall(1, -1, 0), NOT);
        due("FALLEN, one of its GANG", x.fall(1, 0, 900), NOT);
        due("he is not HURT", x.about(0, 6), 0);
        City.coal(x, 1);
        x.off(2);
        due("taken off", x.fall(2, -1, 0), NOT);
    }

    private static void fallHurt() {
        Check.sentence(23, "hurt: a man of its GANG (-1: none; until does not count then)");
        PorterTurns x = City.withMen(10, 10, 10, 10);
        City.sent(x, 0, 80);
        City.sent(x, 0, 1);
        for (int no : new int[] {2, 3, 4, -2, 60, Integer.MIN_VALUE, Integer.MAX_VALUE}) {
            due("man " + no, x.fall(0, no, 100), BAD);
        }
        due("CARRIED, all the while", x.told(0, 6), 1);
        due("the last of its GANG", x.fall(0, 1, 100), 0);
        due("he is HURT", x.about(1, 6), 100);
        due("the other one is not", x.about(0, 6), 0);
        for (int until : new int[] {-1, 200001, Integer.MIN_VALUE, Integer.MAX_VALUE}) {
            PorterTurns y = City.withMen(10);
            City.sent(y, 0, 1);
            due("none, until " + until, y.fall(0, -1, until), 0);
            due("none is HURT", y.about(0, 6), 0);
        }
    }

    private static void fallUntil() {
        Check.sentence(23, "until: a MINUTE 0 .. 200000");
        PorterTurns x = City.withMen(10);
        City.sent(x, 0, 1);
        due("-1", x.fall(0, 0, -1), BAD);
        due("200001", x.fall(0, 0, 200001), BAD);
        due("the least int", x.fall(0, 0, Integer.MIN_VALUE), BAD);
        due("the greatest int", x.fall(0, 0, Integer.MAX_VALUE), BAD);
        due("CARRIED, all the while", x.told(0, 6), 1);
        due("200000", x.fall(0, 0, 200000), 0);
        due("HURT up to it", x.about(0, 6), 200000);
        PorterTurns y = City.withMen(10);
        City.sent(y, 0, 1);
        due("0", y.fall(0, 0, 0), 0);
        due("never HURT", y.about(0, 6), 0);
        Check.sentence(23, "One man of the GANG may be HURT up to a MINUTE (that one not).");
        PorterTurns z = City.withMen(10);
        City.hurt(z, 0, 20);
        City.coal(z, 1);
        z.minutes(19);
        due("the MINUTE ahead", z.why(0, 1), 6);
        z.minutes(1);
        due("that one not", z.why(0, 1), 0);
    }

    private static void fallOrderOfAnswers() {
        Check.sentence(23, "BAD (also he is none of it); NOT: it is not CARRIED");
        PorterTurns x = City.withMen(10, 10);
        City.coal(x, 1);
        due("on the BOARD, none of it", x.fall(0, 0, 5), BAD);
        x.send(0, 0);
        x.minutes(15);
        due("THERE, none of it", x.fall(0, 1, 5), BAD);
        due("THERE, one of it, until", x.fall(0, 0, 200001), BAD);
        due("THERE, one of it", x.fall(0, 0, 5), NOT);
    }

    private static void fallNothingIsPaid() {
        Check.sentence(23, "it is FALLEN; nothing is paid");
        PorterTurns x = City.withMen(10);
        City.sent(x, 0, 40);
        x.fall(0, -1, 0);
        x.minutes(30);
        due("paid", x.told(0, 10), 0);
        due("coins", x.about(0, 3), 0);
        due("THE FUND", x.fund(0, 1), 0);
        due("paid for LOADS", x.count(11), 0);
        due("STATE", x.told(0, 6), 3);
    }

    private static void fallGangGoesOn() {
        Check.sentence(23, "the GANG goes on as if it came (they are FREE as told)");
        PorterTurns x = City.withMen(10, 10, 10);
        City.sent(x, 0, 80);
        x.minutes(3);
        x.fall(0, 1, 900);
        for (int man = 0; man < 2; man++) {
            due("FREE, " + man, x.about(man, 5), 15);
            due("HOURS, " + man, x.about(man, 4), 15);
            due("on the way, " + man, x.about(man, 9), 0);
            due("row, " + man, x.about(man, 7), -1);
        }
        x.minutes(11);
        due("a MINUTE ahead", x.turn(0, 1), BAD);
        x.minutes(1);
        due("the first that was taken", x.turn(0, 1), 0);
        due("the HURT one too", x.turn(0, 2), 1);
    }

    private static void fallFineAtLeast() {
        Check.sentence(23, "each pays his FINE (0 at least)");
        String[] fines = {"0 - 1", "0", "1", "32768 * 65536", "32768 * 65536 - 1"};
        int[] paid = {0, 0, 1, 0, 50};
        for (int i = 0; i < fines.length; i++) {
            PorterTurns x = rich(1, 50, fines[i]);
            due("FINE " + fines[i], x.fall(City.sent(x, 0, 1), -1, 0), paid[i]);
            due("coins", x.about(0, 3), 50 - paid[i]);
            due("THE FUND", x.fund(0, 0), paid[i]);
        }
        PorterTurns y = City.withMen(10);
        due("without a BY-LAW", y.fall(City.sent(y, 0, 1), -1, 0), 0);
    }

    private static void fallFineAsFarAsCoins() {
        Check.sentence(23, "as far as he has coins, to THE FUND, in the order in which they were taken");
        int[] fines = {49, 50, 51, 99999};
        for (int fine : fines) {
            PorterTurns x = rich(2, 50, String.valueOf(fine));
            int each = Math.min(fine, 50);
            due("all FINES of " + fine, x.fall(City.sent(x, 0, 1), -1, 0), 2 * each);
            due("coins", x.about(0, 3), 50 - each);
            due("coins", x.about(1, 3), 50 - each);
            due("THE FUND", x.fund(0, 0), 2 * each);
            due("THE FUND, came in", x.fund(0, 1), 2 * each);
        }
        PorterTurns y = rich(1, 50, "30");
        City.man(y, 0, 10, 30);
        Check.law(y, 0, GANG, 0, "2");
        due("one has 50, one has none", y.fall(City.sent(y, 0, 1), -1, 0), 30);
        due("who has 50", y.about(0, 3), 20);
        due("who has none", y.about(1, 3), 0);
    }

    private static void fallFineOfEach() {
        Check.sentence(23, "3 FINE (of a man)");
        PorterTurns x = City.plain();
        City.man(x, 0, 10, 20);
        City.man(x, 0, 13, 47);
        Check.law(x, 0, PRICE, 0, "99999");
        Check.law(x, 0, SHARE, 0, "0");
        Check.law(x, 0, GANG, 0, "2");
        Check.law(x, 0, FINE, 0, "age * 100 + strength + (worked - 30) * 9999 + weight");
        City.sent(x, 0, 1);
        x.minutes(15);
        int load = City.sent(x, 0, 5);
        due("of both", x.fall(load, -1, 0), 2010 + 5 + 4713 + 5);
        due("of the first", x.about(0, 3), 50000 - 2015);
        due("of the second", x.about(1, 3), 49999 - 4718);
    }

    private static void fallFineToday() {
        Check.sentence(23, "A LOAD FALLS: all FINES that were paid.");
        PorterTurns x = rich(1, 50, "3");
        Check.law(x, 0, FINE, 1, "4");
        x.minutes(575);
        int load = City.sent(x, 0, 1);
        x.minutes(9);
        due("at the last MINUTE of the DAY", x.count(4), 599);
        x.minutes(1);
        due("of the DAY on which it fell", x.fall(load, -1, 0), 4);
        PorterTurns y = rich(1, 50, "3");
        Check.law(y, 1, FINE, 0, "9");
        due("of the FELLOWSHIP that carries", y.fall(City.sent(y, 0, 1), -1, 0), 3);
    }

    private static void fallToItsFund() {
        Check.sentence(23, "to THE FUND, in the order in which they were taken");
        PorterTurns x = City.plain();
        City.man(x, 3, 10, 30);
        Check.law(x, 3, PRICE, 0, "80");
        Check.law(x, 3, SHARE, 0, "0");
        Check.law(x, 3, FINE, 0, "7");
        City.sent(x, 3, 1);
        x.minutes(15);
        due("FINES", x.fall(City.sent(x, 3, 1), -1, 0), 7);
        for (int f = 0; f <= 3; f++) {
            due("in THE FUND of " + f, x.fund(f, 0), f == 3 ? 7 : 0);
            due("came into that of " + f, x.fund(f, 1), f == 3 ? 7 : 0);
        }
        due("paid for LOADS: no FINE", x.count(11), 80);
    }

    // ---- 26

    private static void minutesMany() {
        Check.sentence(26, "n (1 .. 600) MINUTES go by: MINUTE.");
        PorterTurns x = new PorterTurns();
        for (int no : new int[] {0, -1, 601, Integer.MIN_VALUE, Integer.MAX_VALUE}) {
            due("n " + no, x.minutes(no), BAD);
        }
        due("MINUTE as it was", x.count(4), 0);
        due("1", x.minutes(1), 1);
        due("600", x.minutes(600), 601);
        due("2", x.minutes(2), 603);
        due("599", x.minutes(599), 1202);
    }

    private static void minutesBeyond() {
        Check.sentence(26, "BAD (also beyond 99999)");
        PorterTurns x = new PorterTurns();
        Check.passTo(x, 99400);
        due("100000", x.minutes(600), BAD);
        due("MINUTE as it was", x.count(4), 99400);
        due("99999", x.minutes(599), 99999);
        due("one more", x.minutes(1), BAD);
        due("600 more", x.minutes(600), BAD);
        due("MINUTE as it was", x.count(4), 99999);
        Check.sentence(26, "MINUTE is a count, 0 at first, at most 99999");
        due("a LOAD may come at the last MINUTE", x.place(0, 0) + x.place(1, 0) + x.load(1001, 1, 0, 0), 1);
    }

    private static void minutesDayBegins() {
        Check.sentence(26, "if a DAY begins: HOURS of all are 0");
        PorterTurns x = City.plain();
        for (int f = 0; f <= 3; f++) {
            City.man(x, f, 10, 30);
            City.sent(x, f, 1);
        }
        x.gone(0);
        x.minutes(15);
        x.leave(1);
        x.gone(2);
        x.minutes(584);
        for (int man = 0; man <= 3; man++) {
            due("at MINUTE 599, " + man, x.about(man, 4), 15);
        }
        x.minutes(1);
        for (int man = 0; man <= 3; man++) {
            due("at MINUTE 600, " + man, x.about(man, 4), 0);
        }
        City.sent(x, 3, 1);
        x.minutes(599);
        due("at MINUTE 1199", x.about(3, 4), 15);
        x.minutes(1);
        due("at MINUTE 1200", x.about(3, 4), 0);
    }

    private static void minutesFundAheadOfLoads() {
        Check.sentence(26, "and THE FUND of each FELLOWSHIP pays; then LOADS are THERE, by numbers");
        PorterTurns x = City.withMen(10);
        x.man(0, 10, 70, 0);
        x.rates(0, 0, 5);
        Check.law(x, 0, PRICE, 0, "50");
        Check.law(x, 0, SHARE, 0, "100");
        x.minutes(585);
        City.sent(x, 0, 1);
        x.minutes(15);
        due("THERE as the DAY begins", x.told(0, 6), 2);
        due("it came too late for this DAY", x.about(1, 3), 0);
        due("THE FUND", x.fund(0, 0), 50);
        x.minutes(600);
        due("it is there on the next DAY", x.about(1, 3), 5);
        PorterTurns y = City.withMen(10);
        y.man(0, 10, 70, 0);
        y.rates(0, 0, 5);
        Check.law(y, 0, PRICE, 0, "50");
        Check.law(y, 0, SHARE, 0, "100");
        y.minutes(584);
        City.sent(y, 0, 1);
        y.minutes(16);
        due("THERE a MINUTE ahead of the DAY", y.about(1, 3), 5);
    }

    private static void minutesLoadsByNumbers() {
        Check.sentence(26, "then LOADS are THERE, by numbers");
        PorterTurns x = City.withMen(10, 10);
        City.coal(x, 1);
        City.coal(x, 1);
        x.send(0, 1);
        x.send(0, 0);
        x.minutes(600);
        due("the lesser LOAD's man is first", x.turn(0, 0), 1);
        due("the other one's is next", x.turn(0, 1), 0);
        due("both are THERE", x.count(7), 2);
    }

    /** However MINUTES go by, in ones or in many, all is as it was. */
    private static void minutesOneByOne() {
        Check.sentence(26, "MINUTE by MINUTE: MINUTE is one more");
        PorterTurns ones = busy();
        PorterTurns many = busy();
        for (int i = 0; i < 60; i++) {
            ones.minutes(1);
        }
        many.minutes(60);
        due("MINUTE", ones.count(4), many.count(4));
        for (int man = 0; man < 6; man++) {
            for (int what = 3; what <= 9; what++) {
                due("about " + man + ", " + what, ones.about(man, what), many.about(man, what));
            }
            due("row, " + man, ones.turn(0, man), many.turn(0, man));
        }
        for (int load = 0; load < 4; load++) {
            due("told " + load, ones.told(load, 10), many.told(load, 10));
        }
        due("THE FUND: 4 came in ahead of the DAY, 3 were paid, 1 came in as it began", many.fund(0, 0), 2);
        due("THE FUND", ones.fund(0, 0), 2);
    }

    /** At MINUTE 575, with LOADS that come at 576, 590 and 600, and one FALLEN whose GANG comes at 580. */
    private static PorterTurns busy() {
        PorterTurns x = City.withMen(10, 10, 10, 10, 10);
        x.man(0, 10, 70, 0);
        x.rates(0, 1, 2);
        x.minutes(561);
        City.sent(x, 0, 40);
        x.minutes(4);
        x.fall(City.sent(x, 0, 40), 1, 700);
        x.minutes(10);
        x.send(0, x.load(1030, 2, 0, City.NEVER_LATE));
        City.sent(x, 0, 40);
        return x;
    }
}
