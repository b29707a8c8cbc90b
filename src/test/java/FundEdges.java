/** Promises 28 to 31: rates, what is foretold, the fund, counts. */
final class FundEdges {
    private static final int BAD = City.BAD, NOT = City.NOT;
    private static final int PRICE = City.PRICE, SHARE = City.SHARE, FINE = City.FINE;

    private FundEdges() {
    }

    static void run() {
        ratesHelp();
        ratesPension();
        ratesAtFirst();
        ratesFellowship();
        helpOfTheHurt();
        helpOfTheGone();
        pensionAge();
        pensionOfTheGone();
        helpAheadOfPension();
        wholeOrNothing();
        byNumbers();
        ofEachFellowship();
        foretoldNone();
        foretoldFirstDay();
        foretoldOf400();
        foretoldMean();
        foretoldMeanOfDaysThatAreOver();
        foretoldHurt();
        foretoldHurtAsTheyAreNow();
        foretoldGone();
        foretoldIsAboutTheFellowship();
        foretoldGreatSums();
        fundCoins();
        fundBad();
        countAll();
        countStates();
        countBad();
    }

    private static void due(String call, long got, long want) {
        Check.due(call, got, want);
    }

    // ---- 28

    private static void ratesHelp() {
        Check.sentence(28, "THE FUND pays HELP (0 .. 99, told; 0 at first)");
        PorterTurns x = City.withMen(10, 10);
        for (int no : new int[] {-1, 100, Integer.MIN_VALUE, Integer.MAX_VALUE}) {
            due("HELP " + no, x.rates(0, no, 5), BAD);
        }
        due("HELP 0", x.rates(0, 0, 0), 1);
        due("HELP 99", x.rates(0, 99, 0), 1);
        City.fill(x, 0, 150);
        int man = City.hurt(x, 0, 5000);
        x.minutes(600);
        due("99 are paid", x.about(man, 3), 99);
        x.rates(0, 0, 0);
        x.minutes(600);
        due("nothing is paid", x.about(man, 3), 99);
    }

    private static void ratesPension() {
        Check.sentence(28, "then PENSION (0 .. 99, told; 0 at first)");
        PorterTurns x = City.withMen(10);
        int old = x.man(0, 10, 70, 0);
        for (int no : new int[] {-1, 100, Integer.MIN_VALUE, Integer.MAX_VALUE}) {
            due("PENSION " + no, x.rates(0, 5, no), BAD);
        }
        due("PENSION 0", x.rates(0, 0, 0), 1);
        due("PENSION 99", x.rates(0, 0, 99), 1);
        City.fill(x, 0, 150);
        x.minutes(600);
        due("99 are paid", x.about(old, 3), 99);
        x.rates(0, 0, 0);
        x.minutes(600);
        due("nothing is paid", x.about(old, 3), 99);
    }

    private static void ratesAtFirst() {
        Check.sentence(28, "told; 0 at first");
        PorterTurns x = City.withMen(10, 10);
        int old = x.man(0, 10, 70, 0);
        City.fill(x, 0, 150);
        int man = City.hurt(x, 0, 5000);
        x.minutes(600);
        due("no HELP", x.about(man, 3), 0);
        due("no PENSION", x.about(old, 3), 0);
        due("THE FUND", x.fund(0, 0), 150);
    }

    private static void ratesFellowship() {
        Check.sentence(28, "HELP and PENSION of a FELLOWSHIP: 1. BAD.");
        PorterTurns x = City.plain();
        for (int no : new int[] {-1, 4, Integer.MIN_VALUE, Integer.MAX_VALUE}) {
            due("FELLOWSHIP " + no, x.rates(no, 1, 1), BAD);
        }
        for (int f = 0; f <= 3; f++) {
            due("FELLOWSHIP " + f, x.rates(f, 1, 1), 1);
        }
    }

    private static void helpOfTheHurt() {
        Check.sentence(28, "to each of its HURT men (gone ones not), by numbers");
        int[] untils = {0, 599, 600, 601, 1200, 1201, 200000};
        for (int until : untils) {
            PorterTurns x = City.withMen(10, 10, 10);
            City.fill(x, 0, 1000);
            x.rates(0, 7, 0);
            int man = City.hurt(x, 0, until);
            x.minutes(584);
            due("HURT up to " + until + ", at MINUTE 599", x.about(man, 3), 0);
            x.minutes(1);
            due("HURT up to " + until + ", at MINUTE 600", x.about(man, 3), until > 600 ? 7 : 0);
            x.minutes(600);
            int all = until > 1200 ? 14 : until > 600 ? 7 : 0;
            due("HURT up to " + until + ", at MINUTE 1200", x.about(man, 3), all);
            due("what it paid", x.fund(0, 2), all);
        }
        PorterTurns y = City.withMen(10, 10);
        City.fill(y, 0, 1000);
        y.rates(0, 7, 0);
        y.minutes(575);
        int away = City.hurt(y, 0, 5000);
        y.minutes(10);
        due("HURT on the way", y.about(away, 3), 7);
        due("not HURT", y.about(0, 3) + y.about(1, 3), 7);
    }

    private static void helpOfTheGone() {
        Check.sentence(28, "HURT men (gone ones not)");
        PorterTurns x = City.withMen(10, 10);
        City.fill(x, 0, 1000);
        x.rates(0, 7, 0);
        int man = City.hurt(x, 0, 5000);
        x.minutes(15);
        x.gone(man);
        x.minutes(600);
        due("HURT, but gone", x.about(man, 3), 0);
        due("what it paid", x.fund(0, 2), 0);
    }

    private static void pensionAge() {
        Check.sentence(28, "to each of its MEN of AGE 70 or more (gone ones not), by numbers");
        PorterTurns x = City.withMen(10);
        int[] ages = {16, 60, 69, 70, 71, 90};
        for (int age : ages) {
            x.man(0, 10, age, 0);
        }
        City.fill(x, 0, 1000);
        x.rates(0, 0, 7);
        x.minutes(600);
        for (int i = 0; i < ages.length; i++) {
            due("AGE " + ages[i], x.about(i + 1, 3), ages[i] >= 70 ? 7 : 0);
        }
        due("what it paid", x.fund(0, 2), 21);
    }

    private static void pensionOfTheGone() {
        Check.sentence(28, "AGE 70 or more (gone ones not)");
        PorterTurns x = City.withMen(10);
        x.man(0, 10, 80, 0);
        City.fill(x, 0, 1000);
        x.rates(0, 0, 7);
        x.minutes(584);
        x.gone(1);
        x.minutes(1);
        due("gone a MINUTE ahead", x.about(1, 3), 0);
        due("what it paid", x.fund(0, 2), 0);
    }

    private static void helpAheadOfPension() {
        Check.sentence(28, "by numbers, then PENSION");
        PorterTurns x = City.plain();
        int old = City.man(x, 0, 10, 70);
        City.man(x, 0, 10, 30);
        City.fill(x, 0, 10);
        x.rates(0, 10, 10);
        int man = City.hurt(x, 0, 5000);
        due("the younger one is HURT", man, 1);
        x.minutes(600);
        due("HELP, though his number is higher", x.about(man, 3), 10);
        due("no PENSION is left", x.about(old, 3), 0);
        PorterTurns y = City.plain();
        City.man(y, 0, 10, 70);
        City.fill(y, 0, 100);
        y.rates(0, 10, 3);
        City.hurt(y, 0, 5000);
        y.minutes(600);
        due("both to one man", y.about(0, 3), 13);
    }

    private static void wholeOrNothing() {
        Check.sentence(28, "each as far as it goes whole; who can't be paid whole gets nothing");
        int[] coins = {0, 9, 10, 11, 12, 19, 20, 22, 23, 24, 26};
        int[] first = {0, 0, 10, 10, 10, 10, 10, 10, 10, 10, 10};
        int[] second = {0, 0, 0, 0, 0, 0, 10, 10, 10, 10, 10};
        int[] old = {0, 3, 0, 0, 0, 3, 0, 0, 3, 3, 3};
        int[] older = {0, 3, 0, 0, 0, 3, 0, 0, 0, 0, 3};
        for (int i = 0; i < coins.length; i++) {
            PorterTurns x = City.withMen(10, 10, 10);
            x.man(0, 10, 70, 0);
            x.man(0, 10, 70, 0);
            City.fill(x, 0, coins[i]);
            x.rates(0, 10, 3);
            City.hurt(x, 0, 5000);
            City.hurt(x, 0, 5000);
            x.minutes(600);
            String of = "of " + coins[i] + " coins, ";
            due(of + "the first HURT one", x.about(1, 3), first[i]);
            due(of + "the second HURT one", x.about(2, 3), second[i]);
            due(of + "the first old one", x.about(3, 3), old[i]);
            due(of + "the second old one", x.about(4, 3), older[i]);
            int paid = first[i] + second[i] + old[i] + older[i];
            due(of + "what is left", x.fund(0, 0), coins[i] - paid);
            due(of + "what it paid", x.fund(0, 2), paid);
        }
    }

    private static void byNumbers() {
        Check.sentence(28, "(gone ones not), by numbers");
        PorterTurns x = City.withMen(10, 10, 10);
        City.fill(x, 0, 10);
        x.rates(0, 10, 0);
        // The row is 1, 2, 0: the HURT are 2 first, then 0.
        x.leave(1);
        due("HURT first", City.hurt(x, 0, 5000), 2);
        due("HURT next", City.hurt(x, 0, 5000), 0);
        x.minutes(600);
        due("the lesser number", x.about(0, 3), 10);
        due("the greater number", x.about(2, 3), 0);
        PorterTurns y = City.plain();
        y.man(0, 10, 70, 0);
        y.man(0, 10, 90, 0);
        City.man(y, 0, 10, 30);
        City.fill(y, 0, 10);
        y.rates(0, 0, 10);
        y.minutes(600);
        due("the lesser number of the old", y.about(0, 3), 10);
        due("the greater number of the old", y.about(1, 3), 0);
    }

    private static void ofEachFellowship() {
        Check.sentence(28, "THE FUND of each FELLOWSHIP pays");
        PorterTurns x = City.plain();
        for (int f = 0; f <= 3; f++) {
            City.man(x, f, 10, 30);
            x.man(f, 10, 70, 0);
            x.rates(f, 0, f + 1);
            City.fill(x, f, 100);
        }
        x.rates(3, 0, 0);
        x.minutes(600);
        for (int f = 0; f <= 3; f++) {
            int pension = f == 3 ? 0 : f + 1;
            due("coins, FELLOWSHIP " + f, x.about(2 * f + 1, 3), pension);
            due("THE FUND of " + f, x.fund(f, 0), 100 - pension);
            due("paid by that of " + f, x.fund(f, 2), pension);
        }
    }

    // ---- 29

    /** FELLOWSHIP 0 with man 0 and coins in its FUND, and one old man; MINUTE 15. */
    private static PorterTurns funded(int coins, int pension) {
        PorterTurns x = City.withMen(10);
        x.man(0, 10, 70, 0);
        City.fill(x, 0, coins);
        x.rates(0, 0, pension);
        return x;
    }

    private static void foretoldNone() {
        Check.sentence(29, "NOT: none.");
        PorterTurns x = City.withMen(10);
        for (int f = 0; f <= 3; f++) {
            due("nobody to pay, " + f, x.foretold(f), NOT);
        }
        x.rates(0, 99, 99);
        due("nobody HURT or old", x.foretold(0), NOT);
        x.man(0, 10, 70, 0);
        due("one old man", x.foretold(0), 1);
        x.rates(0, 99, 0);
        due("a PENSION of 0 is paid whole", x.foretold(0), NOT);
        City.hurt(x, 0, 5000);
        due("one HURT man", x.foretold(0), 1);
        x.rates(0, 0, 0);
        due("HELP of 0 is paid whole", x.foretold(0), NOT);
        Check.sentence(29, "FORETOLD. BAD, NOT.");
        for (int no : new int[] {-1, 4, Integer.MIN_VALUE, Integer.MAX_VALUE}) {
            due("FELLOWSHIP " + no, x.foretold(no), BAD);
        }
    }

    private static void foretoldFirstDay() {
        Check.sentence(29, "on which someone would not be paid whole");
        int[] coins = {0, 1, 9, 10, 11, 19, 20, 29, 30};
        int[] day = {1, 1, 1, 2, 2, 2, 3, 3, 4};
        for (int i = 0; i < coins.length; i++) {
            PorterTurns x = funded(coins[i], 10);
            due("of " + coins[i] + " coins, 10 each DAY", x.foretold(0), day[i]);
            due("nothing is paid by asking", x.fund(0, 0), coins[i]);
        }
        PorterTurns y = funded(25, 10);
        y.man(0, 10, 80, 0);
        due("two old men, and 25 coins", y.foretold(0), 2);
        y.minutes(600);
        due("both are paid on DAY 1", y.fund(0, 2), 20);
        y.minutes(600);
        due("neither is on DAY 2", y.fund(0, 2), 20);
    }

    private static void foretoldOf400() {
        Check.sentence(29, "the first DAY, of the next 400");
        due("398 coins, one each DAY", funded(398, 1).foretold(0), 399);
        due("399 coins, one each DAY", funded(399, 1).foretold(0), 400);
        due("400 coins, one each DAY", funded(400, 1).foretold(0), NOT);
        PorterTurns x = funded(402, 1);
        x.minutes(600);
        x.minutes(600);
        x.minutes(600);
        // 399 are left, 134 of the mean come in each DAY.
        due("with a mean", x.foretold(0), NOT);
        PorterTurns y = City.withMen(10);
        y.man(0, 10, 70, 0);
        y.rates(0, 0, 1);
        Check.passTo(y, 99999);
        City.fill(y, 0, 399);
        due("at the last MINUTE nothing comes in any more", y.foretold(0), 167);
    }

    private static void foretoldMean() {
        Check.sentence(29, "the mean of what came in on the DAYS 0 .. TODAY - 1 (the rest away; 0 on DAY 0)");
        PorterTurns x = funded(29, 0);
        x.rates(0, 0, 10);
        due("DAY 0: no mean", x.foretold(0), 3);
        x.rates(0, 0, 0);
        x.minutes(600);
        x.rates(0, 0, 30);
        // DAY 1: 29 in THE FUND, 29 each DAY.
        due("DAY 1: the mean is 29", x.foretold(0), 1 + 30);
        x.rates(0, 0, 29);
        due("DAY 1: the mean is enough", x.foretold(0), NOT);
        x.rates(0, 0, 0);
        x.minutes(600);
        // DAY 2: 29 in THE FUND, 14 each DAY, the rest away.
        x.rates(0, 0, 14);
        due("DAY 2: the mean is 14", x.foretold(0), NOT);
        x.rates(0, 0, 15);
        due("DAY 2: the mean is 14", x.foretold(0), 2 + 30);
        x.rates(0, 0, 43);
        due("ahead of paying", x.foretold(0), 4);
        x.rates(0, 0, 44);
        due("ahead of paying", x.foretold(0), 3);
        PorterTurns y = funded(29, 0);
        Check.passTo(y, 600 * 30);
        y.rates(0, 0, 1);
        due("DAY 30: a mean below 1 is 0", y.foretold(0), 30 + 30);
    }

    private static void foretoldMeanOfDaysThatAreOver() {
        Check.sentence(29, "what came in on the DAYS 0 .. TODAY - 1");
        PorterTurns x = City.withMen(10);
        x.man(0, 10, 70, 0);
        Check.law(x, 0, PRICE, 0, "100");
        Check.law(x, 0, SHARE, 0, "100");
        x.minutes(585);
        City.sent(x, 0, 1);
        x.minutes(15);
        x.rates(0, 0, 50);
        // It came at MINUTE 600, which is of DAY 1: nothing came in on DAY 0.
        due("at MINUTE 600", x.foretold(0), 1 + 3);
        x.minutes(599);
        due("at MINUTE 1199", x.foretold(0), 1 + 3);
        x.minutes(1);
        due("DAY 2: 50 are left, 50 each DAY", x.foretold(0), NOT);
        PorterTurns y = City.withMen(10);
        y.man(0, 10, 70, 0);
        Check.law(y, 0, PRICE, 0, "100");
        Check.law(y, 0, SHARE, 0, "100");
        y.minutes(584);
        City.sent(y, 0, 1);
        y.minutes(16);
        y.rates(0, 0, 100);
        due("it came at MINUTE 599", y.foretold(0), NOT);
        foretoldMeanOfFines();
    }

    private static void foretoldMeanOfFines() {
        PorterTurns x = City.withMen(10);
        x.man(0, 10, 70, 0);
        Check.law(x, 0, PRICE, 0, "100");
        Check.law(x, 0, SHARE, 0, "0");
        Check.law(x, 0, FINE, 0, "40");
        City.sent(x, 0, 1);
        x.minutes(15);
        x.fall(City.sent(x, 0, 1), -1, 0);
        x.minutes(585);
        x.rates(0, 0, 40);
        due("FINES came in too", x.foretold(0), NOT);
        x.rates(0, 0, 41);
        due("FINES came in too", x.foretold(0), 1 + 41);
    }

    private static void foretoldHurt() {
        Check.sentence(29, "and only up to their MINUTE");
        int[] untils = {600, 601, 1200, 1201, 1800, 1801, 200000};
        int[] day = {NOT, NOT, NOT, NOT, NOT, 3, 3};
        for (int i = 0; i < untils.length; i++) {
            PorterTurns x = City.withMen(10, 10);
            City.fill(x, 0, 20);
            x.rates(0, 10, 0);
            City.hurt(x, 0, untils[i]);
            due("20 coins, HURT up to " + untils[i], x.foretold(0), day[i]);
        }
        PorterTurns y = City.withMen(10, 10);
        City.fill(y, 0, 0);
        y.rates(0, 10, 0);
        City.hurt(y, 0, 600);
        due("no coins, HURT up to the DAY's begin", y.foretold(0), NOT);
        PorterTurns z = City.withMen(10, 10, 10);
        City.fill(z, 0, 20);
        z.rates(0, 10, 0);
        City.hurt(z, 0, 601);
        City.hurt(z, 0, 1201);
        due("two HURT ones", z.foretold(0), 2);
    }

    private static void foretoldHurtAsTheyAreNow() {
        Check.sentence(29, "HURT as they are now");
        PorterTurns x = City.withMen(10, 10, 10);
        City.fill(x, 0, 1);
        x.rates(0, 10, 0);
        City.sent(x, 0, 41);
        due("nobody is HURT", x.foretold(0), NOT);
        x.fall(1, -1, 0);
        due("one fell, nobody is HURT", x.foretold(0), NOT);
        x.minutes(15);
        City.sent(x, 0, 1);
        due("men that MAY GO are not HURT", x.foretold(0), NOT);
        x.fall(2, x.gang(2, 0), 700);
        due("one is HURT", x.foretold(0), 1);
    }

    private static void foretoldGone() {
        Check.sentence(29, "someone would not be paid whole");
        PorterTurns x = City.withMen(10, 10);
        int old = x.man(0, 10, 70, 0);
        City.fill(x, 0, 5);
        x.rates(0, 10, 10);
        int man = City.hurt(x, 0, 5000);
        x.minutes(15);
        due("both", x.foretold(0), 1);
        x.gone(old);
        due("the HURT one", x.foretold(0), 1);
        x.gone(man);
        due("neither", x.foretold(0), NOT);
    }

    private static void foretoldIsAboutTheFellowship() {
        Check.sentence(29, "THE FUND of each FELLOWSHIP pays");
        PorterTurns x = City.plain();
        x.man(1, 10, 70, 0);
        for (int f = 0; f <= 3; f++) {
            City.man(x, f, 10, 30);
            x.rates(f, 9, 9);
        }
        due("its own old man", x.foretold(1), 1);
        due("not another one's", x.foretold(0), NOT);
        City.hurt(x, 2, 5000);
        due("its own HURT man", x.foretold(2), 1);
        due("not another one's", x.foretold(3), NOT);
        City.fill(x, 3, 1000);
        due("not out of another FUND", x.foretold(1), 1);
    }

    private static void foretoldGreatSums() {
        Check.sentence(29, "if each DAY there came in, ahead of paying, the mean");
        PorterTurns x = City.plain();
        Check.law(x, 0, PRICE, 0, "99999 + 1");
        Check.law(x, 0, SHARE, 0, "100");
        for (int i = 0; i < 58; i++) {
            City.man(x, 0, 10, 30);
            City.sent(x, 0, 1);
        }
        x.man(0, 10, 70, 0);
        x.rates(0, 0, 99);
        x.minutes(600);
        due("5800000 each DAY, more than an int holds in all", x.foretold(0), NOT);
    }

    // ---- 30

    private static void fundCoins() {
        Check.sentence(30, "Coins: what 0 in THE FUND, 1 that came into it, 2 that it paid.");
        PorterTurns x = funded(100, 30);
        int[][] want = {{100, 100, 0}, {70, 100, 30}, {40, 100, 60}, {10, 100, 90}, {10, 100, 90}};
        for (int day = 0; day < want.length; day++) {
            for (int what = 0; what <= 2; what++) {
                due("what " + what + " on DAY " + day, x.fund(0, what), want[day][what]);
                due("of another FELLOWSHIP", x.fund(1, what), 0);
            }
            x.minutes(600);
        }
    }

    private static void fundBad() {
        Check.sentence(30, "2 that it paid. BAD.");
        PorterTurns x = City.plain();
        for (int no : new int[] {-1, 4, Integer.MIN_VALUE, Integer.MAX_VALUE}) {
            due("FELLOWSHIP " + no, x.fund(no, 0), BAD);
        }
        for (int no : new int[] {-1, 3, Integer.MIN_VALUE, Integer.MAX_VALUE}) {
            due("what " + no, x.fund(0, no), BAD);
        }
        due("the last of all", x.fund(3, 2), 0);
    }

    // ---- 31

    private static void countAll() {
        Check.sentence(31, "0 PLACES, 1 MEN, 2 LOADS, 3 BY-LAWS, 4 MINUTE");
        PorterTurns x = City.withMen(10, 10, 10);
        x.gone(2);
        City.coal(x, 1);
        City.coal(x, 1);
        x.off(0);
        x.minutes(6);
        Check.law(x, 0, PRICE, 0, "1");
        Check.law(x, 0, PRICE, 0, "+");
        Check.tape(x, "12345");
        int[] want = {4, 3, 2, 1, 6};
        for (int what = 0; what < want.length; what++) {
            due("count " + what, x.count(what), want[what]);
        }
        Check.sentence(31, "9 bytes on THE TAPE");
        due("count 9", x.count(9), 5);
    }

    private static void countStates() {
        Check.sentence(31, "5 on the BOARD, 6 CARRIED, 7 THERE, 8 FALLEN");
        PorterTurns x = City.withMen(10, 10, 10, 10, 10, 10);
        for (int load = 0; load < 15; load++) {
            x.load(1030 + load % 2 * 11, 1, 0, 0);
        }
        x.minutes(2);
        x.off(0);
        x.send(0, 2);
        x.send(0, 4);
        x.send(0, 6);
        x.fall(6, -1, 0);
        x.minutes(15);
        x.send(0, 8);
        x.fall(8, -1, 0);
        x.send(0, 10);
        x.send(0, 1);
        x.send(0, 12);
        x.fall(12, -1, 0);
        int[] want = {7, 2, 2, 3};
        for (int i = 0; i < want.length; i++) {
            due("count " + (5 + i), x.count(5 + i), want[i]);
        }
        Check.sentence(31, "10 all WAITING of LOADS, 11 coins that were paid for LOADS");
        due("WAITING", x.count(10), 4 * 2 + 4 * 17 + 7 * 17);
        due("coins, both beyond DUE", x.count(11), 15 + 15);
        x.minutes(15);
        due("WAITING goes on, on the BOARD", x.count(10), 4 * 2 + 4 * 17 + 7 * 32);
        due("coins", x.count(11), 15 + 15 + 15 + 20);
    }

    private static void countBad() {
        Check.sentence(31, "11 coins that were paid for LOADS. BAD.");
        PorterTurns x = City.plain();
        due("what -1", x.count(-1), BAD);
        due("what 12", x.count(12), BAD);
        for (int far : City.FAR_OFF) {
            due("what " + far, x.count(far), BAD);
        }
    }
}
