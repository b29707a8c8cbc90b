/** Promises 18, 19, 22, 24, 25 and 27: loads, whose they are, what is told of them, disputes. */
final class LoadEdges {
    private static final int BAD = City.BAD, NOT = City.NOT, FULL = City.FULL;
    private static final int CLAIM = City.CLAIM, PRICE = City.PRICE;

    private LoadEdges() {
    }

    static void run() {
        loadKind();
        loadWeight();
        loadPlaces();
        loadValue();
        loadDue();
        loadsAreFull();
        whoseNobodyClaims();
        whoseOneClaims();
        whoseSeveralClaim();
        whoseToday();
        offTheBoard();
        offNot();
        noSuchLoad();
        toldOnTheBoard();
        toldCarriedAndThere();
        toldFallen();
        toldTakenOff();
        toldWaiting();
        toldBad();
        gangOrder();
        gangBad();
        judgedMore();
        judgedLikeOnes();
        judgedNot();
        judgedAsKnown();
        judgedOnTheDayOfComing();
        judgedNames();
        judgedBad();
    }

    private static void due(String call, long got, long want) {
        Check.due(call, got, want);
    }

    // ---- 18

    private static void loadKind() {
        Check.sentence(18, "a KIND (0 CORN, 1 COAL, 2 FISH, 3 PACKET, 4 WINE)");
        PorterTurns x = City.plain();
        for (int kind = 0; kind <= 4; kind++) {
            due("KIND " + kind, x.load(1000 * kind + 7, 1, 0, 0), kind);
            due("it is kept", x.told(kind, 0), kind);
        }
        due("KIND 5", x.load(5001, 1, 0, 0), BAD);
        due("KIND 5", x.load(5999, 1, 0, 0), BAD);
        due("below 0", x.load(-1, 1, 0, 0), BAD);
        due("below 0", x.load(-999, 1, 0, 0), BAD);
        due("below 0", x.load(-1001, 1, 0, 0), BAD);
        due("the least int", x.load(Integer.MIN_VALUE, 1, 0, 0), BAD);
        due("the greatest int", x.load(Integer.MAX_VALUE, 1, 0, 0), BAD);
    }

    private static void loadWeight() {
        Check.sentence(18, "a WEIGHT (1 .. 999)");
        PorterTurns x = City.plain();
        for (int kind = 0; kind <= 5; kind++) {
            due("WEIGHT 0", x.load(1000 * kind, 1, 0, 0), BAD);
        }
        due("WEIGHT 1", x.load(1, 1, 0, 0), 0);
        due("WEIGHT 999", x.load(999, 1, 0, 0), 1);
        due("WEIGHT 1 of the last KIND", x.load(4001, 1, 0, 0), 2);
        due("WEIGHT 999 of the last KIND", x.load(4999, 1, 0, 0), 3);
        int[] weights = {1, 999, 1, 999};
        for (int load = 0; load < 4; load++) {
            due("it is kept", x.told(load, 1), weights[load]);
        }
    }

    private static void loadPlaces() {
        Check.sentence(18, "places: 100 times from, and to (another one)");
        PorterTurns x = new PorterTurns();
        for (int i = 0; i < 20; i++) {
            x.place(i, 0);
        }
        int[] good = {1, 100, 19, 1900, 1918, 1819, 1900 + 1};
        for (int i = 0; i < good.length; i++) {
            due("places " + good[i], x.load(1001, good[i], 0, 0), i);
            due("from", x.told(i, 2), good[i] / 100);
            due("to", x.told(i, 3), good[i] % 100);
        }
        int[] bad = {0, 101, 1919, 20, 99, 120, 1920, 1999, 2000, 2019, 10000, -1, -100, -101, -1918, Integer.MIN_VALUE,
            Integer.MAX_VALUE};
        for (int places : bad) {
            due("places " + places, x.load(1001, places, 0, 0), BAD);
        }
    }

    private static void loadValue() {
        Check.sentence(18, "a VALUE (0 .. 9999)");
        PorterTurns x = City.plain();
        due("-1", x.load(1001, 1, -1, 0), BAD);
        due("10000", x.load(1001, 1, 10000, 0), BAD);
        due("the least int", x.load(1001, 1, Integer.MIN_VALUE, 0), BAD);
        due("the greatest int", x.load(1001, 1, Integer.MAX_VALUE, 0), BAD);
        due("0", x.load(1001, 1, 0, 0), 0);
        due("9999", x.load(1001, 1, 9999, 0), 1);
        due("0 is kept", x.told(0, 4), 0);
        due("9999 is kept", x.told(1, 4), 9999);
    }

    private static void loadDue() {
        Check.sentence(18, "due 0 .. 200000");
        PorterTurns x = City.plain();
        due("-1", x.load(1001, 1, 0, -1), BAD);
        due("200001", x.load(1001, 1, 0, 200001), BAD);
        due("the least int", x.load(1001, 1, 0, Integer.MIN_VALUE), BAD);
        due("the greatest int", x.load(1001, 1, 0, Integer.MAX_VALUE), BAD);
        due("0", x.load(1001, 1, 0, 0), 0);
        due("200000", x.load(1001, 1, 0, 200000), 1);
        due("0 is kept", x.told(0, 5), 0);
        due("200000 is kept", x.told(1, 5), 200000);
        x.minutes(9);
        due("a DUE that is over", x.load(1001, 1, 0, 8), 2);
    }

    private static void loadsAreFull() {
        Check.sentence(18, "LOADS 0 .. 199, as they came (MINUTE)");
        PorterTurns x = City.plain();
        for (int i = 0; i < 200; i++) {
            due("its number", x.load(1001 + i, 1, 0, 0), i);
        }
        due("the 201st", x.load(1001, 1, 0, 0), FULL);
        due("how many", x.count(2), 200);
        due("the last one is there", x.told(199, 1), 200);
        due("none behind it", x.told(200, 1), -2);
        x.off(0);
        due("one taken off counts", x.load(1001, 1, 0, 0), FULL);
        Check.sentence(18, "Answers, of several the one named first");
        due("what and FULL", x.load(1000, 1, 0, 0), BAD);
        due("places and FULL", x.load(1001, 0, 0, 0), BAD);
        due("VALUE and FULL", x.load(1001, 1, 10000, 0), BAD);
        due("DUE and FULL", x.load(1001, 1, 0, -1), BAD);
    }

    // ---- 19

    private static void whoseNobodyClaims() {
        Check.sentence(19, "none: anybody's");
        PorterTurns x = City.plain();
        City.coal(x, 1);
        due("without BY-LAWS", x.whose(0), 4);
        for (int f = 0; f <= 3; f++) {
            Check.law(x, f, CLAIM, 0, "0");
            due("with a CLAIM that gives 0", x.whose(0), 4);
        }
        Check.law(x, 0, PRICE, 0, "1");
        due("another USE is no CLAIM", x.whose(0), 4);
    }

    private static void whoseOneClaims() {
        Check.sentence(19, "one alone: its");
        String[] claims = {"1", "0 - 1", "99999", "32768 * 65536"};
        for (int f = 0; f <= 3; f++) {
            for (String claim : claims) {
                PorterTurns x = City.plain();
                City.coal(x, 1);
                Check.law(x, f, CLAIM, 0, claim);
                due("CLAIM " + claim + " of " + f, x.whose(0), f);
            }
        }
        PorterTurns y = City.plain();
        y.load(2001, 1, 0, 0);
        y.load(3001, 1, 0, 0);
        Check.law(y, 1, CLAIM, 0, "kind = 2");
        due("what it claims", y.whose(0), 1);
        due("what it does not claim", y.whose(1), 4);
    }

    private static void whoseSeveralClaim() {
        Check.sentence(19, "several: a DISPUTE (nobody's)");
        for (int a = 0; a <= 3; a++) {
            for (int b = 0; b <= 3; b++) {
                PorterTurns x = City.plain();
                City.coal(x, 1);
                Check.law(x, a, CLAIM, 0, "1");
                Check.law(x, b, CLAIM, 0, "2");
                due(a + " and " + b, x.whose(0), a == b ? a : 5);
            }
        }
        PorterTurns y = City.plain();
        City.coal(y, 1);
        for (int f = 0; f <= 3; f++) {
            Check.law(y, f, CLAIM, 0, "1");
        }
        due("four of them", y.whose(0), 5);
    }

    private static void whoseToday() {
        Check.sentence(19, "(CLAIM, PRICE, GANG, SHARE are in force TODAY, AS KNOWN TODAY.)");
        PorterTurns x = City.plain();
        City.coal(x, 1);
        Check.law(x, 2, CLAIM, 1, "1");
        due("on DAY 0", x.whose(0), 4);
        x.minutes(599);
        due("at its last MINUTE", x.whose(0), 4);
        x.minutes(1);
        due("on DAY 1", x.whose(0), 2);
        Check.law(x, 2, CLAIM, 0, "0");
        due("passed TODAY", x.whose(0), 4);
        Check.law(x, 1, CLAIM, 0, "late");
        x.load(1001, 1, 0, 600);
        due("not late by now", x.whose(1), 4);
        x.minutes(1);
        due("late by now", x.whose(1), 1);
        x.off(1);
        due("of one taken off too", x.whose(1), 1);
    }

    // ---- 22

    private static void offTheBoard() {
        Check.sentence(22, "A LOAD is taken off the BOARD: 1.");
        PorterTurns x = City.withMen(10);
        City.coal(x, 1);
        City.coal(x, 1);
        due("off", x.off(0), 1);
        due("STATE", x.told(0, 6), 4);
        due("another one stays", x.told(1, 6), 0);
        due("on the BOARD", x.count(5), 1);
        due("none may be sent for it", x.send(0, 0), -11);
    }

    private static void offNot() {
        Check.sentence(22, "A LOAD is taken off the BOARD: 1. BAD, NOT.");
        PorterTurns x = City.withMen(10, 10);
        City.coal(x, 1);
        x.off(0);
        due("taken off", x.off(0), NOT);
        City.sent(x, 0, 1);
        due("CARRIED", x.off(1), NOT);
        x.minutes(15);
        due("THERE", x.off(1), NOT);
        City.sent(x, 0, 1);
        x.fall(2, -1, 0);
        due("FALLEN", x.off(2), NOT);
        int[] states = {4, 2, 3};
        for (int load = 0; load < 3; load++) {
            due("STATE as it was", x.told(load, 6), states[load]);
        }
    }

    private static void noSuchLoad() {
        PorterTurns x = City.withMen(10);
        City.coal(x, 1);
        int[] none = {-1, 1, 199, 200, Integer.MIN_VALUE, Integer.MAX_VALUE};
        for (int promise : new int[] {19, 20, 21, 22, 23, 25, 27}) {
            Check.sentence(promise, "no such place, man, load, fellowship, or a number is not as said");
            for (int no : none) {
                due("LOAD " + no, askOf(x, promise, no), BAD);
            }
        }
    }

    private static int askOf(PorterTurns x, int promise, int load) {
        switch (promise) {
            case 19: return x.whose(load);
            case 20: return x.why(0, load);
            case 21: return x.send(0, load);
            case 22: return x.off(load);
            case 23: return x.fall(load, -1, 0);
            case 25: return x.gang(load, 0);
            default: return x.judged(load, 0, 1, 0);
        }
    }

    // ---- 24

    private static void tellAll(PorterTurns x, int load, int... want) {
        for (int what = 0; what < want.length; what++) {
            due("told " + load + ", " + what, x.told(load, what), want[what]);
        }
    }

    private static void toldOnTheBoard() {
        Check.sentence(24, "7 FELLOWSHIP that carries, carried it (-1), 8 how many men, 9 PRICE (0 ahead)");
        PorterTurns x = City.plain();
        x.minutes(3);
        x.load(4080, 203, 55, 66);
        tellAll(x, 0, 4, 80, 2, 3, 55, 66, 0, -1, 0, 0, 0, 0, -1);
        x.minutes(4);
        tellAll(x, 0, 4, 80, 2, 3, 55, 66, 0, -1, 0, 0, 0, 4, -1);
    }

    private static void toldCarriedAndThere() {
        Check.sentence(24, "12 the MINUTE when it comes, came THERE (CARRIED, THERE; else -1)");
        PorterTurns x = City.plain();
        City.man(x, 3, 10, 30);
        City.man(x, 3, 10, 30);
        x.load(4080, 1, 55, 66);
        x.minutes(7);
        x.send(3, 0);
        tellAll(x, 0, 4, 80, 0, 1, 55, 66, 1, 3, 2, 80, 0, 7, 22);
        x.minutes(14);
        tellAll(x, 0, 4, 80, 0, 1, 55, 66, 1, 3, 2, 80, 0, 7, 22);
        x.minutes(1);
        tellAll(x, 0, 4, 80, 0, 1, 55, 66, 2, 3, 2, 80, 80, 7, 22);
        x.minutes(600);
        tellAll(x, 0, 4, 80, 0, 1, 55, 66, 2, 3, 2, 80, 80, 7, 22);
    }

    private static void toldFallen() {
        Check.sentence(24, "10 what was paid");
        PorterTurns x = City.plain();
        City.man(x, 2, 10, 30);
        x.load(4040, 1, 55, 66);
        x.minutes(7);
        x.send(2, 0);
        x.minutes(1);
        x.fall(0, -1, 0);
        tellAll(x, 0, 4, 40, 0, 1, 55, 66, 3, 2, 1, 40, 0, 7, -1);
        x.minutes(14);
        tellAll(x, 0, 4, 40, 0, 1, 55, 66, 3, 2, 1, 40, 0, 7, -1);
    }

    private static void toldTakenOff() {
        Check.sentence(24, "STATES: 0 on the BOARD, 1 CARRIED, 2 THERE, 3 FALLEN (broken), 4 taken off.");
        PorterTurns x = City.plain();
        x.load(4040, 1, 55, 66);
        x.minutes(7);
        x.off(0);
        x.minutes(5);
        tellAll(x, 0, 4, 40, 0, 1, 55, 66, 4, -1, 0, 0, 0, 7, -1);
    }

    private static void toldWaiting() {
        Check.sentence(24, "from its coming till it is sent (till now, on the BOARD; of one taken off till then)");
        PorterTurns x = City.withMen(10);
        x.minutes(5);
        for (int load = 0; load < 3; load++) {
            City.coal(x, 1);
            due("just come", x.told(load, 11), 0);
        }
        x.send(0, 0);
        due("sent at once", x.told(0, 11), 0);
        x.minutes(1);
        x.off(1);
        x.minutes(594);
        due("sent", x.told(0, 11), 0);
        due("taken off", x.told(1, 11), 1);
        due("till now", x.told(2, 11), 595);
        due("all of them", x.count(10), 596);
        Check.passTo(x, 99999);
        due("till the last MINUTE", x.told(2, 11), 99994);
    }

    private static void toldBad() {
        Check.sentence(24, "else -1). -2 is BAD here.");
        PorterTurns x = City.plain();
        City.coal(x, 1);
        due("what -1", x.told(0, -1), -2);
        due("what 13", x.told(0, 13), -2);
        for (int far : City.FAR_OFF) {
            due("what " + far, x.told(0, far), -2);
        }
        for (int no : new int[] {-1, 1, 200, Integer.MIN_VALUE, Integer.MAX_VALUE}) {
            for (int what = 0; what <= 12; what++) {
                due("LOAD " + no + ", " + what, x.told(no, what), -2);
            }
        }
    }

    // ---- 25

    private static void gangOrder() {
        Check.sentence(25, "Man i of the GANG of a LOAD, in the order in which they were taken.");
        PorterTurns x = City.withMen(1, 1, 1, 1, 1, 1, 1, 1, 1);
        x.leave(0);
        x.join(0);
        City.sent(x, 0, 32);
        int[] taken = {1, 2, 3, 4, 5, 6, 7, 8};
        for (int i = 0; i < 8; i++) {
            due("man " + i, x.gang(0, i), taken[i]);
        }
        due("no ninth", x.gang(0, 8), BAD);
        x.fall(0, -1, 0);
        due("of one FALLEN", x.gang(0, 7), 8);
        x.minutes(15);
        due("when they came", x.gang(0, 0), 1);
        City.sent(x, 0, 1);
        due("of the next LOAD", x.gang(1, 0), 0);
    }

    private static void gangBad() {
        Check.sentence(25, "in the order in which they were taken. BAD.");
        PorterTurns x = City.withMen(10, 10);
        City.coal(x, 1);
        due("on the BOARD", x.gang(0, 0), BAD);
        x.off(0);
        due("taken off", x.gang(0, 0), BAD);
        City.sent(x, 0, 80);
        for (int no : new int[] {-1, 2, 3, 8, Integer.MIN_VALUE, Integer.MAX_VALUE}) {
            due("i " + no, x.gang(1, no), BAD);
        }
        due("the last", x.gang(1, 1), 1);
    }

    // ---- 27

    /** One LOAD of weight 50, come at MINUTE 0, and CLAIMS of the FELLOWSHIPS 0, 1 .., in that order. */
    private static PorterTurns claimed(String... claims) {
        PorterTurns x = City.plain();
        City.coal(x, 50);
        for (int f = 0; f < claims.length; f++) {
            Check.law(x, f, CLAIM, 0, claims[f]);
        }
        return x;
    }

    private static void judgedMore() {
        Check.sentence(27, "it is the one's whose CLAIM gives more");
        PorterTurns x = claimed("1", "2", "0 - 3", "0 - 2");
        int[][] winner = {{-1, 1, 0, 0}, {1, -1, 1, 1}, {0, 1, -1, 3}, {0, 1, 3, -1}};
        for (int a = 0; a <= 3; a++) {
            for (int b = 0; b <= 3; b++) {
                due(a + " and " + b, x.judged(0, a, b, 0), winner[a][b]);
            }
        }
        PorterTurns y = claimed("32768 * 65536", "32768 * 65536 - 1");
        due("the least and the greatest int", y.judged(0, 0, 1, 0), 1);
        due("the greatest and the least int", y.judged(0, 1, 0, 0), 1);
    }

    private static void judgedLikeOnes() {
        Check.sentence(27, "of like ones the one whose BY-LAW has the lesser number");
        PorterTurns x = City.plain();
        City.coal(x, 50);
        Check.law(x, 2, CLAIM, 0, "weight / 5");
        Check.law(x, 1, CLAIM, 0, "10");
        due("2 and 1", x.judged(0, 2, 1, 0), 2);
        due("1 and 2", x.judged(0, 1, 2, 0), 2);
        Check.law(x, 2, CLAIM, 0, "10");
        due("of the BY-LAW that is in force", x.judged(0, 2, 1, 0), 1);
        due("of the BY-LAW that is in force", x.judged(0, 1, 2, 0), 1);
    }

    private static void judgedNot() {
        Check.sentence(27, "NOT: they do not both CLAIM it.");
        PorterTurns x = claimed("1", "0");
        due("neither", x.judged(0, 2, 3, 0), NOT);
        due("the first alone", x.judged(0, 0, 2, 0), NOT);
        due("the second alone", x.judged(0, 2, 0, 0), NOT);
        due("the second gives 0", x.judged(0, 0, 1, 0), NOT);
        due("the first gives 0", x.judged(0, 1, 0, 0), NOT);
        Check.law(x, 1, CLAIM, 0, "0 - 1");
        due("below 0 it is a CLAIM", x.judged(0, 0, 1, 0), 0);
    }

    private static void judgedAsKnown() {
        Check.sentence(27, "AS KNOWN on DAY k: it is the one's");
        PorterTurns x = claimed("2", "1");
        x.minutes(600);
        Check.law(x, 1, CLAIM, 0, "3");
        Check.law(x, 2, CLAIM, 0, "1");
        due("AS KNOWN on 0", x.judged(0, 0, 1, 0), 0);
        due("AS KNOWN on 1", x.judged(0, 0, 1, 1), 1);
        due("AS KNOWN on 166", x.judged(0, 0, 1, 166), 1);
        due("a CLAIM not known on 0", x.judged(0, 0, 2, 0), NOT);
        due("a CLAIM known on 1", x.judged(0, 0, 2, 1), 0);
        due("k -1", x.judged(0, 0, 1, -1), BAD);
        due("k 167", x.judged(0, 0, 1, 167), BAD);
    }

    private static void judgedOnTheDayOfComing() {
        Check.sentence(27, "that both CLAIM it on the DAY on which it came");
        PorterTurns x = City.plain();
        x.minutes(599);
        City.coal(x, 1);
        x.minutes(1);
        City.coal(x, 1);
        Check.law(x, 0, CLAIM, 1, "1");
        Check.law(x, 1, CLAIM, 0, "1");
        due("came on DAY 0, in force from 1", x.judged(0, 0, 1, 1), NOT);
        due("came on DAY 1, in force from 1", x.judged(1, 0, 1, 1), 0);
        Check.law(x, 0, CLAIM, 2, "2");
        x.minutes(600);
        due("in force TODAY, not when it came", x.judged(1, 1, 0, 2), 0);
        due("in force TODAY, not when it came", x.judged(0, 1, 0, 2), NOT);
    }

    private static void judgedNames() {
        Check.sentence(27, "(NAMES of the LOAD, and of the MINUTE at which it came: hour, rain, day; men and late 0.)");
        PorterTurns x = City.withMen(10);
        x.minutes(600);
        x.minutes(599);
        x.rain(1199, 1200);
        x.load(3456, 302, 789, 1);
        x.minutes(61);
        String[] names = {"kind", "weight", "far", "up", "value", "hour", "rain", "day", "men", "late", "age", "strength",
            "worked"};
        int[] values = {3, 456, 99, 44, 789, 9, 1, 1, 0, 0, 0, 0, 0};
        for (int i = 0; i < names.length; i++) {
            Check.law(x, 0, CLAIM, 0, "1000 + " + names[i]);
            Check.law(x, 1, CLAIM, 0, String.valueOf(1000 + values[i] - 1));
            due(names[i] + " is more than one less", x.judged(0, 0, 1, 166), 0);
            Check.law(x, 1, CLAIM, 0, String.valueOf(1000 + values[i] + 1));
            due(names[i] + " is less than one more", x.judged(0, 0, 1, 166), 1);
        }
        due("of one that is taken off too", x.off(0) + x.judged(0, 0, 1, 166), 2);
    }

    private static void judgedBad() {
        Check.sentence(27, "BAD (also a is b)");
        PorterTurns x = claimed("1", "2", "3", "4");
        for (int f = 0; f <= 3; f++) {
            due("both " + f, x.judged(0, f, f, 0), BAD);
        }
        for (int no : new int[] {-1, 4, Integer.MIN_VALUE, Integer.MAX_VALUE}) {
            due("a " + no, x.judged(0, no, 1, 0), BAD);
            due("b " + no, x.judged(0, 1, no, 0), BAD);
        }
        for (int no : new int[] {-1, 167, Integer.MIN_VALUE, Integer.MAX_VALUE}) {
            due("k " + no, x.judged(0, 0, 1, no), BAD);
        }
        Check.sentence(27, "Answers, of several the one named first");
        PorterTurns y = claimed();
        due("a is b, and no CLAIM", y.judged(0, 1, 1, 0), BAD);
        due("k, and no CLAIM", y.judged(0, 0, 1, 167), BAD);
    }
}
