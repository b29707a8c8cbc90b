import java.util.ArrayList;
import java.util.List;

/** Promises 6 to 12: men, their row and their dice. */
final class MenEdges {
    private static final int BAD = City.BAD, NOT = City.NOT, FULL = City.FULL;

    private MenEdges() {
    }

    static void run() {
        manFellowship();
        manStrength();
        manAge();
        manAgeDoesNotGrow();
        manHouse();
        menAreFull();
        manInNoRow();
        joinEnd();
        joinNot();
        joinNotFree();
        joinOfTheHurt();
        leaveRow();
        leaveNot();
        goneForEver();
        goneNot();
        noSuchMan();
        aboutOfANewMan();
        aboutOnTheWay();
        aboutHurt();
        aboutRow();
        aboutLoad();
        aboutBad();
        turnOfARow();
        turnBad();
        diceAnswers();
        diceBad();
        diceOfAnyNumber();
        diceGoOn();
        diceOfThoseThatMayGo();
        diceOfEachFellowship();
    }

    private static void due(String call, long got, long want) {
        Check.due(call, got, want);
    }

    // ---- 6

    private static void manFellowship() {
        Check.sentence(6, "FELLOWSHIPS 0 .. 3");
        PorterTurns x = City.plain();
        due("-1", x.man(-1, 10, 30, 0), BAD);
        due("4", x.man(4, 10, 30, 0), BAD);
        for (int far : City.FAR_OFF) {
            due("FELLOWSHIP " + far, x.man(far, 10, 30, 0), BAD);
        }
        for (int f = 0; f <= 3; f++) {
            due("FELLOWSHIP " + f, x.man(f, 10, 30, 0), f);
            due("it is kept", x.about(f, 0), f);
        }
    }

    private static void manStrength() {
        Check.sentence(6, "a STRENGTH (1 .. 99)");
        PorterTurns x = City.plain();
        due("0", x.man(0, 0, 30, 0), BAD);
        due("100", x.man(0, 100, 30, 0), BAD);
        for (int far : City.FAR_OFF) {
            due("STRENGTH " + far, x.man(0, far, 30, 0), BAD);
        }
        due("1", x.man(0, 1, 30, 0), 0);
        due("99", x.man(0, 99, 30, 0), 1);
        due("1 is kept", x.about(0, 1), 1);
        due("99 is kept", x.about(1, 1), 99);
    }

    private static void manAge() {
        Check.sentence(6, "an AGE in years (16 .. 90; it does not grow)");
        PorterTurns x = City.plain();
        due("15", x.man(0, 10, 15, 0), BAD);
        due("91", x.man(0, 10, 91, 0), BAD);
        for (int far : City.FAR_OFF) {
            due("AGE " + far, x.man(0, 10, far, 0), BAD);
        }
        due("16", x.man(0, 10, 16, 0), 0);
        due("90", x.man(0, 10, 90, 0), 1);
        due("16 is kept", x.about(0, 2), 16);
        due("90 is kept", x.about(1, 2), 90);
    }

    private static void manAgeDoesNotGrow() {
        Check.sentence(6, "it does not grow");
        PorterTurns x = City.plain();
        x.man(0, 10, 16, 0);
        x.man(0, 10, 90, 0);
        Check.passTo(x, 99999);
        due("16 on the last DAY", x.about(0, 2), 16);
        due("90 on the last DAY", x.about(1, 2), 90);
    }

    private static void manHouse() {
        Check.sentence(6, "house: a PLACE");
        PorterTurns x = City.plain();
        due("-1", x.man(0, 10, 30, -1), BAD);
        due("one behind the last", x.man(0, 10, 30, 4), BAD);
        for (int far : City.FAR_OFF) {
            due("house " + far, x.man(0, 10, 30, far), BAD);
        }
        due("the first", x.man(0, 10, 30, 0), 0);
        due("the last", x.man(0, 10, 30, 3), 1);
    }

    private static void menAreFull() {
        Check.sentence(6, "MEN 0 .. 59, as they were made");
        PorterTurns x = City.plain();
        for (int i = 0; i < 60; i++) {
            due("his number", x.man(i % 4, 10, 30, 0), i);
        }
        due("the 61st", x.man(0, 10, 30, 0), FULL);
        due("how many", x.count(1), 60);
        due("the last one is there", x.about(59, 0), 3);
        due("none behind him", x.about(60, 0), -2);
        x.gone(0);
        due("one that is gone counts", x.man(0, 10, 30, 0), FULL);
        Check.sentence(6, "Answers, of several the one named first");
        due("FELLOWSHIP and FULL", x.man(4, 10, 30, 0), BAD);
        due("STRENGTH and FULL", x.man(0, 100, 30, 0), BAD);
        due("AGE and FULL", x.man(0, 10, 15, 0), BAD);
        due("house and FULL", x.man(0, 10, 30, 4), BAD);
    }

    private static void manInNoRow() {
        Check.sentence(6, "(he is in no row)");
        PorterTurns x = City.plain();
        x.man(0, 10, 30, 0);
        due("about him", x.about(0, 7), -1);
        due("the row", x.turn(0, 0), BAD);
        City.coal(x, 1);
        due("he may not go", x.why(0, 0), 6);
        due("he may join", x.join(0), 1);
    }

    // ---- 7

    private static void joinEnd() {
        Check.sentence(7, "A man comes to the end of his FELLOWSHIP's row: how many are in it.");
        PorterTurns x = City.plain();
        for (int man = 0; man < 60; man++) {
            x.man(man == 30 ? 1 : 0, 10, 30, 0);
        }
        for (int man = 59; man >= 0; man--) {
            int ahead = man > 30 ? 59 - man : 58 - man;
            due("join", x.join(man), man == 30 ? 1 : ahead + 1);
        }
        due("the first that came", x.turn(0, 0), 59);
        due("the last that came", x.turn(0, 58), 0);
        due("of another FELLOWSHIP", x.turn(1, 0), 30);
    }

    private static void joinNot() {
        Check.sentence(7, "NOT: he is in it, not FREE by now, or gone");
        PorterTurns x = City.withMen(10, 10);
        due("the first in it", x.join(0), NOT);
        due("the last in it", x.join(1), NOT);
        due("each once at most", x.turn(0, 2), BAD);
        x.gone(1);
        due("gone", x.join(1), NOT);
        due("no row has him", x.turn(0, 1), BAD);
    }

    private static void joinNotFree() {
        Check.sentence(7, "not FREE by now");
        PorterTurns x = City.withMen(10);
        City.sent(x, 0, 1);
        due("just sent", x.join(0), NOT);
        x.minutes(14);
        due("a MINUTE ahead", x.join(0), NOT);
        due("the row is empty", x.turn(0, 0), BAD);
        x.minutes(1);
        x.leave(0);
        due("at that MINUTE", x.join(0), 1);
    }

    private static void joinOfTheHurt() {
        Check.sentence(7, "he is in it, not FREE by now, or gone");
        PorterTurns x = City.withMen(10);
        City.hurt(x, 0, 1000);
        x.minutes(15);
        due("HURT, he came to the row", x.turn(0, 0), 0);
        x.leave(0);
        due("HURT, he may join", x.join(0), 1);
    }

    // ---- 8

    private static void leaveRow() {
        Check.sentence(8, "He leaves the row: 1.");
        PorterTurns x = City.withMen(1, 2, 3, 4, 5);
        due("from the middle", x.leave(2), 1);
        due("the next one moves up", x.turn(0, 2), 3);
        due("the first", x.leave(0), 1);
        due("the next one moves up", x.turn(0, 0), 1);
        due("the last", x.leave(4), 1);
        due("two are left", x.turn(0, 1), 3);
        due("two are left", x.turn(0, 2), BAD);
        x.leave(1);
        due("the only one", x.leave(3), 1);
        due("an empty row", x.turn(0, 0), BAD);
        due("he may come again", x.join(3), 1);
    }

    private static void leaveNot() {
        Check.sentence(8, "BAD, NOT");
        PorterTurns x = City.withMen(10, 10, 10);
        x.man(0, 10, 30, 0);
        due("never in it", x.leave(3), NOT);
        x.leave(2);
        due("no more in it", x.leave(2), NOT);
        City.sent(x, 0, 1);
        due("on the way", x.leave(0), NOT);
        x.gone(1);
        due("gone", x.leave(1), NOT);
    }

    // ---- 9

    private static void goneForEver() {
        Check.sentence(9, "He is gone for ever (and leaves the row): 1.");
        PorterTurns x = City.withMen(10, 10, 10);
        x.man(0, 10, 30, 0);
        due("in the row", x.gone(1), 1);
        due("the row without him", x.turn(0, 1), 2);
        due("the row without him", x.turn(0, 2), BAD);
        due("in no row", x.gone(3), 1);
        City.hurt(x, 0, 5000);
        x.minutes(15);
        due("HURT", x.gone(0), 1);
        Check.pass(x, 1200);
        for (int man : new int[] {0, 1, 3}) {
            due("for ever", x.about(man, 8), 1);
        }
        due("another one is not", x.about(2, 8), 0);
        due("MEN are as many", x.count(1), 4);
    }

    private static void goneNot() {
        Check.sentence(9, "NOT: he is gone, or not FREE by now");
        PorterTurns x = City.withMen(10, 10);
        x.gone(1);
        due("gone", x.gone(1), NOT);
        City.sent(x, 0, 1);
        due("just sent", x.gone(0), NOT);
        x.minutes(14);
        due("a MINUTE ahead", x.gone(0), NOT);
        x.minutes(1);
        due("at that MINUTE", x.gone(0), 1);
        due("he leaves the row", x.turn(0, 0), BAD);
    }

    private static void noSuchMan() {
        PorterTurns x = City.withMen(10, 10);
        for (int promise = 7; promise <= 9; promise++) {
            Check.sentence(promise, "no such place, man, load, fellowship, or a number is not as said");
            for (int no : new int[] {-1, 2, 59, 60, Integer.MIN_VALUE, Integer.MAX_VALUE}) {
                due("man " + no, promise == 7 ? x.join(no) : promise == 8 ? x.leave(no) : x.gone(no), BAD);
            }
        }
    }

    // ---- 10

    private static void aboutAll(PorterTurns x, int man, int... want) {
        for (int what = 0; what < want.length; what++) {
            due("about " + man + ", " + what, x.about(man, what), want[what]);
        }
    }

    private static void aboutOfANewMan() {
        Check.sentence(10, "Each has coins (0 at first), HOURS (minutes worked this DAY), and is FREE from a MINUTE");
        PorterTurns x = City.plain();
        x.man(3, 33, 44, 2);
        aboutAll(x, 0, 3, 33, 44, 0, 0, 0, 0, -1, 0, -1);
    }

    private static void aboutOnTheWay() {
        Check.sentence(10, "3 coins, 4 HOURS, 5 the MINUTE from which he is FREE");
        PorterTurns x = City.withMen(33);
        x.minutes(580);
        City.sent(x, 0, 100);
        aboutAll(x, 0, 0, 33, 30, 0, 15, 595, 0, -1, 0, 0);
        x.minutes(14);
        aboutAll(x, 0, 0, 33, 30, 0, 15, 595, 0, -1, 0, 0);
        x.minutes(1);
        aboutAll(x, 0, 0, 33, 30, 95, 15, 595, 0, 0, 0, -1);
        x.minutes(4);
        City.sent(x, 0, 100);
        aboutAll(x, 0, 0, 33, 30, 95, 30, 614, 0, -1, 0, 1);
        x.minutes(1);
        due("HOURS as a DAY begins, on the way", x.about(0, 4), 0);
        x.minutes(14);
        due("HOURS when he came", x.about(0, 4), 0);
        due("coins of both", x.about(0, 3), 190);
    }

    private static void aboutHurt() {
        Check.sentence(10, "6 up to which he is HURT (0: never)");
        int[] untils = {0, 1, 14, 15, 600, 199999, 200000};
        for (int until : untils) {
            PorterTurns x = City.withMen(10, 10);
            due("never", x.about(0, 6), 0);
            City.hurt(x, 0, until);
            due("up to " + until, x.about(0, 6), until);
            due("another one", x.about(1, 6), 0);
            x.minutes(600);
            due("up to " + until + ", later", x.about(0, 6), until);
        }
        PorterTurns y = City.withMen(10);
        City.hurt(y, 0, 15);
        y.minutes(15);
        City.hurt(y, 0, 3);
        due("told anew, though it is less", y.about(0, 6), 3);
    }

    private static void aboutRow() {
        Check.sentence(10, "7 his place in the row (-1)");
        PorterTurns x = City.withMen(10, 10, 10);
        for (int man = 0; man < 3; man++) {
            due("his place", x.about(man, 7), man);
        }
        x.leave(0);
        due("who left", x.about(0, 7), -1);
        due("who moved up", x.about(2, 7), 1);
        x.join(0);
        due("who came again", x.about(0, 7), 2);
        City.sent(x, 0, 1);
        due("who was sent", x.about(1, 7), -1);
        x.gone(2);
        due("who is gone", x.about(2, 7), -1);
        due("who is alone", x.about(0, 7), 0);
    }

    private static void aboutLoad() {
        Check.sentence(10, "9 the LOAD with which he is on the way (-1)");
        PorterTurns x = City.withMen(10, 10);
        City.coal(x, 1);
        City.sent(x, 0, 1);
        due("the first goes with LOAD 1", x.about(0, 9), 1);
        x.send(0, 0);
        due("the second goes with LOAD 0", x.about(1, 9), 0);
        x.fall(0, -1, 0);
        x.minutes(14);
        due("a MINUTE ahead", x.about(0, 9), 1);
        due("the GANG of a FALLEN one goes on", x.about(1, 9), 0);
        x.minutes(1);
        due("he came", x.about(0, 9), -1);
        due("he came", x.about(1, 9), -1);
    }

    private static void aboutBad() {
        Check.sentence(10, "-2 is BAD here.");
        PorterTurns x = City.withMen(10);
        due("what -1", x.about(0, -1), -2);
        due("what 10", x.about(0, 10), -2);
        for (int far : City.FAR_OFF) {
            due("what " + far, x.about(0, far), -2);
        }
        for (int no : new int[] {-1, 1, 60, Integer.MIN_VALUE, Integer.MAX_VALUE}) {
            for (int what = 0; what <= 9; what++) {
                due("man " + no + ", " + what, x.about(no, what), -2);
            }
        }
    }

    // ---- 11

    private static void turnOfARow() {
        Check.sentence(11, "Man i in the row of a FELLOWSHIP.");
        PorterTurns x = City.plain();
        for (int man = 0; man < 8; man++) {
            x.man(man % 4, 10, 30, 0);
        }
        for (int man = 7; man >= 0; man--) {
            x.join(man);
        }
        for (int f = 0; f <= 3; f++) {
            due("the first of " + f, x.turn(f, 0), f + 4);
            due("the second of " + f, x.turn(f, 1), f);
            due("no third of " + f, x.turn(f, 2), BAD);
        }
    }

    private static void turnBad() {
        Check.sentence(11, "Man i in the row of a FELLOWSHIP. BAD.");
        PorterTurns x = City.withMen(10, 10);
        for (int no : new int[] {-1, 2, 3, 59, 60, Integer.MIN_VALUE, Integer.MAX_VALUE}) {
            due("i " + no, x.turn(0, no), BAD);
        }
        for (int no : new int[] {-1, 4, Integer.MIN_VALUE, Integer.MAX_VALUE}) {
            due("FELLOWSHIP " + no, x.turn(no, 0), BAD);
        }
        due("an empty row", x.turn(1, 0), BAD);
        x.leave(0);
        x.leave(1);
        due("an emptied row", x.turn(0, 0), BAD);
    }

    // ---- 12

    /** Those that dice from z on take, of these, one after the other. */
    private static List<Integer> thrown(int z, List<Integer> row, int howMany) {
        List<Integer> left = new ArrayList<>(row);
        List<Integer> taken = new ArrayList<>();
        int number = z;
        for (int i = 0; i < howMany; i++) {
            number = number * 1103515245 + 12345;
            taken.add(left.remove((number >>> 8) % left.size()));
        }
        return taken;
    }

    private static void dueGang(PorterTurns x, int load, String which, List<Integer> want) {
        for (int i = 0; i < want.size(); i++) {
            due(which + ", man " + i, x.gang(load, i), want.get(i));
        }
        due(which + ", no more", x.gang(load, want.size()), BAD);
    }

    private static void diceAnswers() {
        Check.sentence(12, "(1; from a number z on) or by list (0; z does not count): what they did");
        PorterTurns x = City.withMen(10, 10, 10);
        due("by list, at first", x.dice(0, 0, 5), 0);
        due("by list, still", x.dice(0, 1, 5), 0);
        due("by dice", x.dice(0, 1, 6), 1);
        due("by dice, told again", x.dice(0, 0, 7), 1);
        due("by list again", x.dice(0, 0, 7), 0);
        due("the first one is next", x.gang(City.sent(x, 0, 1), 0), 0);
        due("the first one is next", x.gang(City.sent(x, 0, 1), 0), 1);
    }

    private static void diceBad() {
        Check.sentence(12, "TURNS of a FELLOWSHIP go by dice");
        PorterTurns x = City.plain();
        for (int no : new int[] {-1, 4, Integer.MIN_VALUE, Integer.MAX_VALUE}) {
            due("FELLOWSHIP " + no, x.dice(no, 1, 0), BAD);
            due("FELLOWSHIP " + no, x.dice(no, 0, 0), BAD);
        }
        for (int no : new int[] {-1, 2, Integer.MIN_VALUE, Integer.MAX_VALUE}) {
            due("is " + no, x.dice(0, no, 0), BAD);
        }
        due("the last FELLOWSHIP", x.dice(3, 1, 0), 0);
        due("by list, all the while", x.dice(0, 0, 0), 0);
    }

    private static void diceOfAnyNumber() {
        Check.sentence(12, "z becomes z * 1103515245 + 12345 (an int): of those that may go the one at place "
                + "(z >>> 8) % how many there are, in the row's order");
        int[] numbers = {0, 1, -1, 7, 255, 256, -256, 123456789, -987654321, Integer.MAX_VALUE, Integer.MIN_VALUE};
        for (int z : numbers) {
            PorterTurns x = City.withMen(10, 10, 10, 10, 10, 10, 10);
            x.dice(0, 1, z);
            due("how many go, z " + z, x.send(0, City.coal(x, 161)), 5);
            dueGang(x, 0, "z " + z, thrown(z, List.of(0, 1, 2, 3, 4, 5, 6), 5));
        }
    }

    private static void diceGoOn() {
        Check.sentence(12, "a number z (told; kept from one to the next)");
        List<Integer> row = List.of(0, 1, 2, 3, 4, 5, 6);
        PorterTurns x = City.withMen(10, 10, 10, 10, 10, 10, 10);
        x.dice(0, 1, 99);
        City.sent(x, 0, 80);
        City.sent(x, 0, 120);
        List<Integer> taken = thrown(99, row, 5);
        dueGang(x, 0, "the first GANG", taken.subList(0, 2));
        dueGang(x, 1, "z goes on", taken.subList(2, 5));
        PorterTurns y = City.withMen(10, 10, 10, 10, 10, 10, 10);
        y.dice(0, 1, 99);
        City.sent(y, 0, 80);
        y.dice(0, 1, 99);
        List<Integer> left = new ArrayList<>(row);
        left.removeAll(thrown(99, row, 2));
        City.sent(y, 0, 120);
        dueGang(y, 1, "z told anew", thrown(99, left, 3));
    }

    private static void diceOfThoseThatMayGo() {
        Check.sentence(12, "of those that may go the one at place");
        for (int z = 0; z < 8; z++) {
            PorterTurns x = City.withMen(10, 10, 10, 10);
            City.hurt(x, 0, 1000);
            x.minutes(15);
            x.leave(1);
            x.join(1);
            x.dice(0, 1, z);
            City.sent(x, 0, 41);
            // The row is 2, 3, 0, 1, and 0 is HURT.
            dueGang(x, 1, "z " + z, thrown(z, List.of(2, 3, 1), 2));
        }
        PorterTurns y = City.withMen(10);
        y.dice(0, 1, 1);
        due("one alone", y.gang(City.sent(y, 0, 1), 0), 0);
    }

    private static void diceOfEachFellowship() {
        Check.sentence(12, "BY DICE (told of the FELLOWSHIP)");
        PorterTurns x = City.plain();
        for (int man = 0; man < 12; man++) {
            City.man(x, man / 4, 10, 30);
        }
        x.dice(0, 1, 11);
        x.dice(1, 1, 12);
        for (int f = 0; f < 3; f++) {
            City.sent(x, f, 41);
        }
        dueGang(x, 0, "by dice from 11 on", thrown(11, List.of(0, 1, 2, 3), 2));
        dueGang(x, 1, "by dice from 12 on", thrown(12, List.of(4, 5, 6, 7), 2));
        dueGang(x, 2, "by list", List.of(8, 9));
    }
}
