import java.util.List;

/** Promises 20 and 21: WHY a FELLOWSHIP may not be sent, and what happens when it is. */
final class SendEdges {
    private static final int BAD = City.BAD;
    private static final int CLAIM = City.CLAIM, PRICE = City.PRICE, GANG = City.GANG, SHARE = City.SHARE;

    private SendEdges() {
    }

    static void run() {
        whyOrder();
        whyNotOnTheBoard();
        whyDispute();
        whyAnothers();
        whyWater();
        whyCornInRain();
        whyNotWithEight();
        whyNotWithAll();
        whyAsIfByList();
        fellowshipBad();
        enoughPower();
        enoughWithUp();
        gangAtLeast();
        tillItIsEnough();
        mayGoHours();
        mayGoAge();
        mayGoInRain();
        mayGoHurt();
        mayGoInTheRow();
        refusedDice();
        leaveAndComeBack();
        lesserLoadFirst();
        priceLimits();
        shareLimits();
        foundWhenSent();
        beyondDue();
        fundPart();
        parted();
        partedByDice();
    }

    private static void due(String call, long got, long want) {
        Check.due(call, got, want);
    }

    /** What send answers is what why answers: 0 and men go, or -10 less it. */
    private static void dueWhy(PorterTurns x, int fellowship, int load, String of, int why) {
        due("why, " + of, x.why(fellowship, load), why);
        if (why != 0) {
            due("send, " + of, x.send(fellowship, load), -10 - why);
        } else {
            due("men go, " + of, x.send(fellowship, load) > 0 ? 1 : 0, 1);
        }
    }

    // ---- 20: WHY

    private static void whyOrder() {
        Check.sentence(20, "WHY it may not be, the first of");
        PorterTurns x = City.plain();
        x.load(1, 1, 0, 0);
        x.load(1, 1, 0, 0);
        x.off(1);
        x.rain(0, 5);
        x.tide(0, 0, 4);
        Check.law(x, 1, CLAIM, 0, "hour < 1 if late < 3");
        Check.law(x, 2, CLAIM, 0, "1 if late < 2");
        int[] why = {2, 2, 3, 4, 5, 6};
        for (int minute = 0; minute < why.length; minute++) {
            dueWhy(x, 0, 0, "at MINUTE " + minute, why[minute]);
            dueWhy(x, 0, 1, "taken off, at MINUTE " + minute, 1);
            x.minutes(1);
        }
        City.man(x, 0, 99, 30);
        dueWhy(x, 0, 0, "a man is there", 0);
        Check.sentence(21, "WHY: -10 less WHY");
        due("it is CARRIED", x.send(0, 0), -11);
    }

    private static void whyNotOnTheBoard() {
        Check.sentence(20, "1 it is not on the BOARD");
        PorterTurns x = City.withMen(10, 10, 10);
        City.coal(x, 1);
        due("on the BOARD", x.why(0, 0), 0);
        City.sent(x, 0, 1);
        dueWhy(x, 0, 1, "CARRIED", 1);
        x.fall(1, -1, 0);
        dueWhy(x, 0, 1, "FALLEN", 1);
        City.sent(x, 0, 1);
        x.minutes(15);
        dueWhy(x, 0, 2, "THERE", 1);
        dueWhy(x, 1, 2, "THERE, another FELLOWSHIP", 1);
        x.off(0);
        dueWhy(x, 0, 0, "taken off", 1);
    }

    private static void whyDispute() {
        Check.sentence(20, "2 it is a DISPUTE");
        PorterTurns x = City.plain();
        for (int f = 0; f <= 3; f++) {
            City.man(x, f, 10, 30);
        }
        City.coal(x, 1);
        Check.law(x, 0, CLAIM, 0, "1");
        Check.law(x, 1, CLAIM, 0, "9");
        for (int f = 0; f <= 3; f++) {
            dueWhy(x, f, 0, "FELLOWSHIP " + f, 2);
        }
    }

    private static void whyAnothers() {
        Check.sentence(20, "3 it is another one's");
        PorterTurns x = City.plain();
        for (int f = 0; f <= 3; f++) {
            City.man(x, f, 10, 30);
        }
        City.coal(x, 1);
        City.coal(x, 1);
        Check.law(x, 2, CLAIM, 0, "1");
        for (int f : new int[] {0, 1, 3}) {
            dueWhy(x, f, 0, "FELLOWSHIP " + f, 3);
        }
        dueWhy(x, 2, 0, "its own", 0);
        Check.law(x, 2, CLAIM, 0, "0");
        dueWhy(x, 0, 1, "anybody's", 0);
    }

    private static void whyWater() {
        Check.sentence(20, "4 its PLACE is under water now");
        PorterTurns x = City.withMen(10);
        City.coal(x, 1);
        x.tide(0, 0, 1);
        dueWhy(x, 0, 0, "at its last MINUTE", 4);
        x.minutes(1);
        dueWhy(x, 0, 0, "behind it", 0);
    }

    private static void whyCornInRain() {
        Check.sentence(20, "5 it is CORN and it RAINS");
        PorterTurns x = City.withMen(10, 10, 10, 10, 10, 10);
        x.rain(1, 2);
        for (int load = 0; load < 7; load++) {
            x.load(load < 5 ? 1000 * load + 1 : 1, 1, 0, 0);
        }
        dueWhy(x, 0, 5, "CORN ahead of rain", 0);
        x.minutes(1);
        for (int kind = 0; kind <= 4; kind++) {
            dueWhy(x, 0, kind, "KIND " + kind + " in rain", kind == 0 ? 5 : 0);
        }
        City.man(x, 0, 10, 30);
        x.minutes(1);
        dueWhy(x, 0, 6, "CORN behind rain", 0);
    }

    private static void whyNotWithEight() {
        Check.sentence(20, "till it is enough, and it is not with 8, or with all there are");
        PorterTurns x = City.withMen(1, 1, 1, 1, 1, 1, 1, 1, 99);
        dueWhy(x, 0, City.coal(x, 33), "the ninth would be enough", 6);
        due("nobody left", x.turn(0, 8), 8);
        dueWhy(x, 0, City.coal(x, 32), "the eighth is enough", 0);
        due("eight went", x.told(1, 8), 8);
    }

    private static void whyNotWithAll() {
        Check.sentence(20, "or with all there are");
        PorterTurns x = City.withMen(10, 10);
        dueWhy(x, 0, City.coal(x, 81), "all are not enough", 6);
        dueWhy(x, 1, City.coal(x, 1), "an empty row", 6);
        dueWhy(x, 0, City.coal(x, 80), "all are enough", 0);
        due("all went", x.turn(0, 0), BAD);
        dueWhy(x, 0, 1, "nobody is left", 6);
    }

    private static void whyAsIfByList() {
        Check.sentence(20, "(No dice are thrown by this: 6 is asked as if BY LIST.)");
        int apart = 0;
        for (int z = 0; z < 40; z++) {
            PorterTurns x = City.withMen(1, 1, 1, 1, 1, 1, 1, 1, 99);
            x.dice(0, 1, z);
            City.coal(x, 33);
            due("the first eight are not enough", x.why(0, 0), 6);
            due("asked again", x.why(0, 0), 6);
            // By dice the strong one may well be among the eight.
            apart += x.send(0, 0) > 0 ? 1 : 0;
        }
        due("some were sent by dice all the same", apart > 0 ? 1 : 0, 1);
        PorterTurns y = City.withMen(1, 1, 1, 1, 1, 1, 1, 1, 99);
        y.dice(0, 1, 5);
        City.coal(y, 1);
        y.why(0, 0);
        y.send(0, 0);
        due("z as it was", y.gang(0, 0), ((5 * 1103515245 + 12345) >>> 8) % 9);
    }

    private static void fellowshipBad() {
        PorterTurns x = City.withMen(10);
        City.coal(x, 1);
        City.coal(x, 1);
        x.off(1);
        for (int promise = 20; promise <= 21; promise++) {
            Check.sentence(promise, "FELLOWSHIPS 0 .. 3");
            for (int no : new int[] {-1, 4, Integer.MIN_VALUE, Integer.MAX_VALUE}) {
                due("FELLOWSHIP " + no, promise == 20 ? x.why(no, 0) : x.send(no, 0), BAD);
            }
            due("the last one", promise == 20 ? x.why(3, 0) : x.send(3, 0), promise == 20 ? 6 : -16);
            Check.sentence(promise, "Answers, of several the one named first");
            due("no such FELLOWSHIP, and WHY 1", promise == 20 ? x.why(4, 1) : x.send(4, 1), BAD);
        }
    }

    // ---- 21: it is enough

    private static void enoughPower() {
        Check.sentence(21, "It is enough if 4 times POWER is not below WEIGHT and UP together");
        int[] weights = {1, 4, 5, 8, 9, 396, 397};
        int[] strengths = {1, 1, 1, 2, 2, 99, 99};
        int[] why = {0, 0, 6, 0, 6, 0, 6};
        for (int i = 0; i < weights.length; i++) {
            PorterTurns x = City.withMen(strengths[i]);
            dueWhy(x, 0, City.coal(x, weights[i]), "WEIGHT " + weights[i] + " for " + strengths[i], why[i]);
        }
        PorterTurns y = City.withMen(50, 99, 99, 2);
        due("all STRENGTHS together", y.send(0, City.coal(y, 999)), 4);
        PorterTurns z = City.withMen(50, 99, 99, 1);
        due("one less", z.send(0, City.coal(z, 999)), -16);
    }

    private static void enoughWithUp() {
        Check.sentence(21, "(UP counted once)");
        PorterTurns x = City.withMen(10);
        dueWhy(x, 0, x.load(1031, 2, 0, 0), "31 and 10 up", 6);
        dueWhy(x, 0, x.load(1030, 2, 0, 0), "30 and 10 up", 0);
        PorterTurns y = City.withMen(10);
        dueWhy(y, 0, y.load(1036, 200, 0, 0), "36 and 5 down", 6);
        dueWhy(y, 0, y.load(1035, 200, 0, 0), "35 and 5 down", 0);
        PorterTurns z = City.withMen(20, 20);
        due("once for both men", z.send(0, z.load(1150, 2, 0, 0)), 2);
    }

    private static void gangAtLeast() {
        Check.sentence(21, "at least as many MEN as GANG says (1 at least, 8 at most)");
        String[] gangs = {"0 - 1", "0", "1", "2", "7", "8", "9", "99999", "32768 * 65536", "32768 * 65536 - 1"};
        int[] go = {1, 1, 1, 2, 7, 8, 8, 8, 1, 8};
        for (int i = 0; i < gangs.length; i++) {
            PorterTurns x = City.withMen(10, 10, 10, 10, 10, 10, 10, 10, 10);
            Check.law(x, 0, GANG, 0, gangs[i]);
            City.coal(x, 1);
            due("why, GANG " + gangs[i], x.why(0, 0), 0);
            due("send, GANG " + gangs[i], x.send(0, 0), go[i]);
        }
        PorterTurns y = City.withMen(10, 10, 10, 10, 10, 10, 10);
        Check.law(y, 0, GANG, 0, "8");
        dueWhy(y, 0, City.coal(y, 1), "8, and 7 are there", 6);
        Check.law(y, 0, GANG, 0, "7");
        dueWhy(y, 0, 0, "7, and 7 are there", 0);
        PorterTurns z = City.plain();
        Check.law(z, 0, GANG, 0, "0");
        dueWhy(z, 0, City.coal(z, 1), "0, and nobody is there", 6);
    }

    private static void tillItIsEnough() {
        Check.sentence(21, "are taken in TURNS (BY LIST or DICE), one after the other, till it is enough");
        PorterTurns x = City.withMen(10, 20, 30, 40);
        due("one", x.send(0, City.coal(x, 40)), 1);
        x.minutes(15);
        due("two", x.send(0, City.coal(x, 81)), 2);
        due("the first one", x.gang(1, 0), 1);
        due("the second one", x.gang(1, 1), 2);
        due("two are left", x.turn(0, 0), 3);
        due("two are left", x.turn(0, 1), 0);
        PorterTurns y = City.withMen(10, 20, 30, 40);
        Check.law(y, 0, GANG, 0, "weight");
        due("more by GANG than by POWER", y.send(0, City.coal(y, 3)), 3);
    }

    // ---- 21: who MAY GO

    /** PLACES: 0, and ways from it of 240, 241, 160 and 161 minutes. */
    private static PorterTurns longWays() {
        PorterTurns x = new PorterTurns();
        x.place(0, 0);
        x.place(99, 68);
        x.place(98, 69);
        x.place(99, 28);
        x.place(98, 29);
        return x;
    }

    private static void mayGoHours() {
        Check.sentence(21, "HOURS and the way's minutes are at most 480, or 240 if AGE is 60 or more");
        PorterTurns x = longWays();
        City.man(x, 0, 99, 30);
        City.man(x, 1, 99, 60);
        x.load(1001, 1, 0, 0);
        x.load(1001, 1, 0, 0);
        x.load(1001, 2, 0, 0);
        x.load(1001, 1, 0, 0);
        due("the ways", x.way(0, 1, 2) * 1000 + x.way(0, 2, 2), 240241);
        dueWhy(x, 1, 2, "0 and 241 for one of 60", 6);
        dueWhy(x, 1, 0, "0 and 240 for one of 60", 0);
        dueWhy(x, 0, 1, "0 and 240 for one of 30", 0);
        x.minutes(240);
        dueWhy(x, 0, 2, "240 and 241 for one of 30", 6);
        dueWhy(x, 1, 3, "240 and 240 for one of 60", 6);
        dueWhy(x, 0, 3, "240 and 240 for one of 30", 0);
        due("HOURS", x.about(0, 4), 480);
        x.minutes(240);
        dueWhy(x, 0, 2, "480 are worked", 6);
        x.minutes(119);
        dueWhy(x, 0, 2, "at the last MINUTE of the DAY", 6);
        x.minutes(1);
        dueWhy(x, 0, 2, "a DAY begins", 0);
    }

    private static void mayGoAge() {
        Check.sentence(21, "240 if AGE is 60 or more");
        int[] ages = {16, 59, 60, 61, 69, 70, 90};
        for (int age : ages) {
            PorterTurns x = longWays();
            City.man(x, 0, 99, age);
            x.load(1001, 2, 0, 0);
            x.load(1001, 1, 0, 0);
            due("241 for one of " + age, x.why(0, 0), age < 60 ? 0 : 6);
            due("240 for one of " + age, x.why(0, 1), 0);
        }
    }

    private static void mayGoInRain() {
        Check.sentence(21, "and half of all that (the rest away) besides, if it RAINS now");
        PorterTurns x = longWays();
        City.man(x, 0, 99, 60);
        x.rain(0, 1);
        x.load(1001, 4, 0, 0);
        x.load(1001, 3, 0, 0);
        due("the ways", x.way(0, 3, 2) * 1000 + x.way(0, 4, 2), 240241);
        dueWhy(x, 0, 0, "241 in rain", 6);
        dueWhy(x, 0, 1, "240 in rain", 0);
        due("FREE", x.about(0, 5), 240);
        due("HOURS", x.about(0, 4), 240);
        due("THERE", x.told(1, 12), 240);
        x.minutes(239);
        due("a MINUTE ahead, though it is dry", x.told(1, 6), 1);
        x.minutes(1);
        due("at that MINUTE", x.told(1, 6), 2);
    }

    private static void mayGoHurt() {
        Check.sentence(21, "FREE by now, not HURT");
        PorterTurns x = City.withMen(10, 10);
        x.leave(1);
        City.hurt(x, 0, 17);
        City.coal(x, 1);
        int[] minutes = {14, 15, 16, 17};
        int[] why = {6, 6, 6, 0};
        for (int i = 0; i < minutes.length; i++) {
            Check.passTo(x, minutes[i]);
            dueWhy(x, 0, 1, "HURT up to 17, at MINUTE " + minutes[i], why[i]);
        }
        PorterTurns y = City.withMen(10, 10);
        City.hurt(y, 0, 900);
        y.minutes(15);
        y.leave(1);
        y.join(1);
        City.sent(y, 0, 1);
        due("the HURT one is passed over", y.gang(1, 0), 1);
        due("and stays in the row", y.turn(0, 0), 0);
        PorterTurns z = City.withMen(10);
        City.hurt(z, 0, 15);
        z.minutes(15);
        dueWhy(z, 0, City.coal(z, 1), "HURT up to the MINUTE at which he came", 0);
    }

    private static void mayGoInTheRow() {
        Check.sentence(21, "A man MAY GO with a LOAD if he is in the row");
        PorterTurns x = City.withMen(10, 10, 10);
        City.coal(x, 1);
        x.leave(0);
        x.gone(1);
        due("the third goes", x.send(0, 0), 1);
        due("the third goes", x.gang(0, 0), 2);
        dueWhy(x, 0, City.coal(x, 1), "none in the row", 6);
    }

    private static void refusedDice() {
        Check.sentence(21, "(Where it is refused by 6, z stays as it was.)");
        PorterTurns x = City.withMen(10, 10, 10);
        x.dice(0, 1, 77);
        due("refused", x.send(0, City.coal(x, 121)), -16);
        due("refused again", x.send(0, 0), -16);
        due("sent", x.send(0, City.coal(x, 1)), 1);
        int z = 77 * 1103515245 + 12345;
        due("z as it was", x.gang(1, 0), (z >>> 8) % 3);
    }

    // ---- 21: the way and the row

    private static void leaveAndComeBack() {
        Check.sentence(21, "Else those taken leave the row; are FREE from MINUTE and the way's minutes on; HOURS more by "
                + "these; they come to the row's end at that MINUTE, in the order in which they were taken");
        PorterTurns x = City.withMen(10, 10, 10, 10);
        x.minutes(5);
        City.sent(x, 0, 80);
        for (int man = 0; man < 4; man++) {
            boolean away = man < 2;
            due("row, " + man, x.about(man, 7), away ? -1 : man - 2);
            due("FREE, " + man, x.about(man, 5), away ? 20 : 0);
            due("HOURS, " + man, x.about(man, 4), away ? 15 : 0);
        }
        x.minutes(14);
        due("a MINUTE ahead", x.turn(0, 2), BAD);
        x.minutes(1);
        int[] row = {2, 3, 0, 1};
        for (int i = 0; i < 4; i++) {
            due("row at that MINUTE", x.turn(0, i), row[i]);
        }
        City.sent(x, 0, 120);
        due("HOURS more", x.about(0, 4), 30);
        due("HOURS of one that stood", x.about(3, 4), 15);
    }

    private static void lesserLoadFirst() {
        Check.sentence(21, "(of several LOADS at one MINUTE the lesser LOAD's first; also of one that has FALLEN)");
        for (int fallen = -1; fallen <= 2; fallen++) {
            PorterTurns x = City.withMen(10, 10, 10, 10);
            for (int load = 0; load < 3; load++) {
                City.coal(x, 1);
            }
            x.send(0, 2);
            x.send(0, 0);
            x.send(0, 1);
            x.fall(fallen, -1, 0);
            x.minutes(15);
            int[] row = {3, 1, 2, 0};
            for (int i = 0; i < 4; i++) {
                due("place " + i + ", fallen " + fallen, x.turn(0, i), row[i]);
            }
        }
        PorterTurns y = City.withMen(10, 10);
        City.coal(y, 1);
        City.sent(y, 0, 1);
        y.minutes(1);
        y.send(0, 0);
        y.minutes(15);
        due("at two MINUTES the one that comes first", y.turn(0, 0), 0);
        due("at two MINUTES the one that comes last", y.turn(0, 1), 1);
    }

    // ---- 21: what is paid

    private static void priceLimits() {
        Check.sentence(21, "PRICE (0 at least, 100000 at most)");
        String[] texts = {"32768 * 65536", "0 - 1", "0", "1", "99999", "99999 + 1", "99999 + 2", "32768 * 65536 - 1"};
        int[] prices = {0, 0, 0, 1, 99999, 100000, 100000, 100000};
        for (int i = 0; i < texts.length; i++) {
            PorterTurns x = City.withMen(10);
            Check.law(x, 0, PRICE, 0, texts[i]);
            Check.law(x, 0, SHARE, 0, "0");
            City.coal(x, 1);
            due("ahead", x.told(0, 9), 0);
            x.send(0, 0);
            due("PRICE of " + texts[i], x.told(0, 9), prices[i]);
            x.minutes(15);
            due("paid of " + texts[i], x.told(0, 10), prices[i]);
            due("coins of " + texts[i], x.about(0, 3), prices[i]);
        }
    }

    private static void shareLimits() {
        Check.sentence(21, "SHARE (0 at least, 100 at most)");
        String[] texts = {"32768 * 65536", "0 - 1", "0", "1", "99", "100", "101", "32768 * 65536 - 1"};
        int[] kept = {0, 0, 0, 2, 198, 200, 200, 200};
        for (int i = 0; i < texts.length; i++) {
            PorterTurns x = City.withMen(10);
            Check.law(x, 0, PRICE, 0, "200");
            Check.law(x, 0, SHARE, 0, texts[i]);
            City.sent(x, 0, 1);
            x.minutes(15);
            due("THE FUND of " + texts[i], x.fund(0, 0), kept[i]);
            due("coins of " + texts[i], x.about(0, 3), 200 - kept[i]);
        }
        PorterTurns y = City.withMen(10);
        Check.law(y, 0, PRICE, 0, "99999 + 1");
        Check.law(y, 0, SHARE, 0, "100");
        City.sent(y, 0, 1);
        y.minutes(15);
        due("the most of both", y.fund(0, 0), 100000);
    }

    private static void foundWhenSent() {
        Check.sentence(21, "are found when it is sent");
        PorterTurns x = City.withMen(10);
        x.minutes(590);
        Check.law(x, 0, PRICE, 0, "100 + late");
        Check.law(x, 0, SHARE, 0, "10");
        Check.law(x, 0, PRICE, 1, "900");
        Check.law(x, 0, SHARE, 1, "90");
        x.load(1001, 1, 0, 595);
        x.send(0, 0);
        due("PRICE", x.told(0, 9), 100);
        x.minutes(15);
        due("PRICE of the DAY on which it was sent", x.told(0, 9), 100);
        due("it is beyond DUE", x.told(0, 10), 50);
        due("SHARE of the DAY on which it was sent", x.fund(0, 0), 5);
        Check.law(x, 1, PRICE, 0, "7");
        City.man(x, 1, 10, 30);
        City.sent(x, 1, 1);
        due("PRICE of the FELLOWSHIP that is sent", x.told(1, 9), 7);
    }

    private static void beyondDue() {
        Check.sentence(21, "if it is beyond DUE, half of PRICE (the rest away) is paid, else all");
        int[] dues = {0, 13, 14, 15, 16, 200000};
        for (int dueMinute : dues) {
            for (int price : new int[] {0, 1, 2, 101}) {
                PorterTurns x = City.withMen(10);
                Check.law(x, 0, PRICE, 0, String.valueOf(price));
                Check.law(x, 0, SHARE, 0, "0");
                x.load(1001, 1, 0, dueMinute);
                x.send(0, 0);
                x.minutes(20);
                int paid = dueMinute < 15 ? price / 2 : price;
                due("paid, DUE " + dueMinute + ", PRICE " + price, x.told(0, 10), paid);
                due("coins, DUE " + dueMinute + ", PRICE " + price, x.about(0, 3), paid);
                due("PRICE stays", x.told(0, 9), price);
            }
        }
    }

    private static void fundPart() {
        Check.sentence(21, "Of it SHARE hundredths (the rest away) go to THE FUND of the FELLOWSHIP");
        int[] prices = {99, 100, 101, 199, 200, 3, 150, 0};
        int[] shares = {1, 1, 1, 1, 1, 50, 33, 100};
        int[] kept = {0, 1, 1, 1, 2, 1, 49, 0};
        for (int i = 0; i < prices.length; i++) {
            PorterTurns x = City.plain();
            City.man(x, 2, 10, 30);
            Check.law(x, 2, PRICE, 0, String.valueOf(prices[i]));
            Check.law(x, 2, SHARE, 0, String.valueOf(shares[i]));
            City.sent(x, 2, 1);
            x.minutes(15);
            String of = shares[i] + " of " + prices[i];
            due(of, x.fund(2, 0), kept[i]);
            due(of + ", came in", x.fund(2, 1), kept[i]);
            due(of + ", the rest", x.about(0, 3), prices[i] - kept[i]);
            due(of + ", another FUND", x.fund(0, 1) + x.fund(1, 1) + x.fund(3, 1), 0);
        }
        PorterTurns y = City.withMen(10);
        Check.law(y, 0, PRICE, 0, "99");
        Check.law(y, 0, SHARE, 0, "10");
        y.load(1001, 1, 0, 0);
        y.send(0, 0);
        y.minutes(15);
        due("of what is paid: 49", y.fund(0, 0), 4);
        due("of what is paid: 49", y.about(0, 3), 45);
    }

    private static void parted() {
        Check.sentence(21, "the rest is parted among the GANG: each the same, what is left over to the one taken first");
        int[] rests = {0, 1, 2, 3, 4, 5, 100};
        for (int rest : rests) {
            PorterTurns x = City.withMen(10, 10, 10);
            Check.law(x, 0, PRICE, 0, String.valueOf(rest));
            Check.law(x, 0, SHARE, 0, "0");
            Check.law(x, 0, GANG, 0, "3");
            x.leave(0);
            x.join(0);
            City.sent(x, 0, 1);
            x.minutes(15);
            due(rest + ", the one taken first", x.about(1, 3), rest / 3 + rest % 3);
            due(rest + ", the second", x.about(2, 3), rest / 3);
            due(rest + ", the third", x.about(0, 3), rest / 3);
        }
    }

    private static void partedByDice() {
        Check.sentence(21, "what is left over to the one taken first");
        for (int z : List.of(1, 2, 3, 4, 5)) {
            PorterTurns x = City.withMen(10, 10, 10);
            Check.law(x, 0, PRICE, 0, "5");
            Check.law(x, 0, SHARE, 0, "0");
            Check.law(x, 0, GANG, 0, "3");
            x.dice(0, 1, z);
            City.sent(x, 0, 1);
            x.minutes(15);
            for (int i = 0; i < 3; i++) {
                due("z " + z + ", man " + i + " of the GANG", x.about(x.gang(0, i), 3), i == 0 ? 3 : 1);
                due("z " + z + ", the row", x.turn(0, i), x.gang(0, i));
            }
        }
    }
}
