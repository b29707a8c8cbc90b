/** For each promise of the document: ordinary calls, the edges that it names, wrong inputs. */
public final class PromisesTest {
    private static final int BAD = -1, NOT = -2, FULL = -3, VOID = -2000000000;
    private static final int CLAIM = 0, PRICE = 1, GANG = 2, FINE = 3, SHARE = 4;

    public static void main(String[] args) {
        newObject();
        place();
        tide();
        rain();
        way();
        man();
        join();
        leave();
        gone();
        about();
        turn();
        dice();
        feed();
        end();
        law();
        inForce();
        says();
        load();
        whose();
        why();
        send();
        off();
        fall();
        told();
        gang();
        minutes();
        judged();
        rates();
        foretold();
        fund();
        count();
        Check.finish();
    }

    private static void due(String call, long got, long want) {
        Check.due(call, got, want);
    }

    // 1
    private static void newObject() {
        PorterTurns x = new PorterTurns();
        for (int what = 0; what <= 11; what++) {
            due("1: count(" + what + ")", x.count(what), 0);
        }
        for (int f = 0; f < 4; f++) {
            due("1: dice", x.dice(f, 0, 0), 0);
            due("1: fund", x.fund(f, 0), 0);
            due("1: turn", x.turn(f, 0), BAD);
        }
        due("1: BAD", PorterTurns.BAD, BAD);
        due("1: NOT", PorterTurns.NOT, NOT);
        due("1: FULL", PorterTurns.FULL, FULL);
        due("1: VOID", PorterTurns.VOID, VOID);
        x.place(1, 1);
        due("1: another object has its own memory", new PorterTurns().count(0), 0);
    }

    // 2
    private static void place() {
        PorterTurns x = new PorterTurns();
        due("2: x too low", x.place(-1, 0), BAD);
        due("2: x too high", x.place(100, 0), BAD);
        due("2: stairs too low", x.place(0, -1), BAD);
        due("2: stairs too high", x.place(0, 100), BAD);
        for (int i = 0; i < 20; i++) {
            due("2: place", x.place(i % 2 * 99, 99 - i % 2 * 99), i);
        }
        due("2: full", x.place(0, 0), FULL);
        due("2: bad ahead of full", x.place(100, 0), BAD);
        due("2: how many", x.count(0), 20);
    }

    // 3
    private static void tide() {
        PorterTurns x = City.withMen(99);
        due("3: no place", x.tide(4, 0, 1), BAD);
        due("3: no place", x.tide(-1, 0, 1), BAD);
        due("3: from below 0", x.tide(0, -1, 1), BAD);
        due("3: to above 600", x.tide(0, 0, 601), BAD);
        due("3: from above to", x.tide(0, 2, 1), BAD);
        x.load(1001, 1, 0, 0);
        x.load(1001, 100, 0, 0);
        due("3: none at first", x.why(0, 0), 0);
        due("3: tide", x.tide(0, 3, 5), 1);
        due("3: ahead of it", x.why(0, 0), 0);
        x.minutes(3);
        due("3: its first minute", x.why(0, 0), 4);
        due("3: where it goes does not count", x.why(0, 1), 0);
        x.minutes(1);
        due("3: its last minute", x.why(0, 0), 4);
        x.minutes(1);
        due("3: behind it", x.why(0, 0), 0);
        x.minutes(599);
        due("3: each DAY", x.why(0, 0), 4);
        due("3: another tide instead", x.tide(0, 0, 4), 1);
        due("3: the old one is no more", x.why(0, 0), 0);
        due("3: no minute at all", x.tide(0, 4, 4), 1);
        due("3: no minute at all", x.why(0, 0), 0);
        due("3: all the DAY", x.tide(0, 0, 600), 1);
        due("3: all the DAY", x.why(0, 0), 4);
        due("3: 600 alone", x.tide(0, 600, 600), 1);
    }

    // 4
    private static void rain() {
        PorterTurns x = City.plain();
        due("4: to is not later", x.rain(5, 5), BAD);
        due("4: to too late", x.rain(0, 100001), BAD);
        due("4: from below now", x.rain(-1, 5), BAD);
        x.minutes(10);
        due("4: from below now", x.rain(9, 20), BAD);
        due("4: from now", x.rain(10, 12), 1);
        due("4: it rains", x.way(0, 1, 2), 15 + 7);
        x.minutes(1);
        due("4: it rains", x.way(0, 1, 2), 15 + 7);
        x.minutes(1);
        due("4: the last one not", x.way(0, 1, 2), 15);
        due("4: the last that can be", x.rain(99999, 100000), 2);
        due("4: the same again", x.rain(99999, 100000), 3);
        for (int i = 4; i <= 20; i++) {
            due("4: spans", x.rain(14, 15 + i), i);
        }
        due("4: full", x.rain(12, 13), FULL);
        due("4: bad ahead of full", x.rain(11, 13), BAD);
        x.minutes(2);
        due("4: spans may overlap", x.way(0, 1, 2), 22);
    }

    // 5
    private static void way() {
        PorterTurns x = new PorterTurns();
        x.place(50, 7);
        x.place(20, 10);
        x.place(20, 42);
        due("5: far", x.way(0, 1, 0), 30);
        due("5: far back", x.way(1, 0, 0), 30);
        due("5: up", x.way(0, 1, 1), 3);
        due("5: down, the rest away", x.way(1, 0, 1), 1);
        due("5: down, the rest away", x.way(2, 0, 1), 17);
        due("5: on one height, x alike", x.way(2, 1, 0), 0);
        due("5: minutes up", x.way(0, 1, 2), 30 + 6 + 5);
        due("5: minutes down", x.way(1, 0, 2), 30 + 2 + 5);
        x.rain(0, 1);
        due("5: minutes up in rain", x.way(0, 1, 2), 41 + 20);
        due("5: minutes down in rain", x.way(1, 0, 2), 37 + 18);
        due("5: to itself", x.way(1, 1, 0), BAD);
        due("5: no place", x.way(3, 1, 0), BAD);
        due("5: no place", x.way(0, 3, 0), BAD);
        due("5: no place", x.way(-1, 0, 0), BAD);
        due("5: no place", x.way(0, -1, 0), BAD);
        due("5: what", x.way(0, 1, 3), BAD);
        due("5: what", x.way(0, 1, -1), BAD);
    }

    // 6
    private static void man() {
        PorterTurns x = new PorterTurns();
        due("6: no place", x.man(0, 1, 16, 0), BAD);
        x.place(0, 0);
        due("6: fellowship", x.man(-1, 1, 16, 0), BAD);
        due("6: fellowship", x.man(4, 1, 16, 0), BAD);
        due("6: strength", x.man(0, 0, 16, 0), BAD);
        due("6: strength", x.man(0, 100, 16, 0), BAD);
        due("6: age", x.man(0, 1, 15, 0), BAD);
        due("6: age", x.man(0, 1, 91, 0), BAD);
        due("6: house", x.man(0, 1, 16, 1), BAD);
        due("6: house", x.man(0, 1, 16, -1), BAD);
        x.minutes(7);
        for (int i = 0; i < 60; i++) {
            due("6: man", x.man(i % 4, i % 2 * 98 + 1, i % 2 * 74 + 16, 0), i);
        }
        due("6: full", x.man(0, 1, 16, 0), FULL);
        due("6: bad ahead of full", x.man(0, 0, 16, 0), BAD);
        due("6: in no row", x.about(59, 7), -1);
        due("6: in no row", x.turn(3, 0), BAD);
        due("6: fellowship kept", x.about(59, 0), 3);
        due("6: strength kept", x.about(59, 1), 99);
        due("6: age kept", x.about(59, 2), 90);
    }

    // 7
    private static void join() {
        PorterTurns x = City.plain();
        due("7: no man", x.join(0), BAD);
        x.man(0, 10, 30, 0);
        x.man(1, 10, 30, 0);
        x.man(0, 10, 30, 0);
        due("7: no man", x.join(-1), BAD);
        due("7: no man", x.join(3), BAD);
        due("7: first", x.join(2), 1);
        due("7: another row", x.join(1), 1);
        due("7: to the end", x.join(0), 2);
        due("7: in it", x.join(0), NOT);
        due("7: in it, first", x.join(2), NOT);
        due("7: order", x.turn(0, 0), 2);
        due("7: order", x.turn(0, 1), 0);
        x.load(1001, 1, 0, 0);
        due("7: sent", x.send(0, 0), 1);
        due("7: not free", x.join(2), NOT);
        x.minutes(14);
        due("7: not free yet", x.join(2), NOT);
        x.gone(1);
        due("7: gone", x.join(1), NOT);
        x.fall(0, 2, 1000);
        x.minutes(1);
        x.leave(2);
        due("7: hurt, but free", x.join(2), 2);
    }

    // 8
    private static void leave() {
        PorterTurns x = City.withMen(1, 2, 3);
        due("8: no man", x.leave(3), BAD);
        due("8: no man", x.leave(-1), BAD);
        due("8: leaves", x.leave(1), 1);
        due("8: twice", x.leave(1), NOT);
        due("8: the others move up", x.turn(0, 1), 2);
        due("8: the others move up", x.turn(0, 2), BAD);
        due("8: back", x.join(1), 3);
        due("8: at the end", x.about(1, 7), 2);
    }

    // 9
    private static void gone() {
        PorterTurns x = City.withMen(10, 20);
        due("9: no man", x.gone(2), BAD);
        due("9: no man", x.gone(-1), BAD);
        x.load(1001, 1, 0, 0);
        x.send(0, 0);
        due("9: not free", x.gone(0), NOT);
        due("9: gone", x.gone(1), 1);
        due("9: twice", x.gone(1), NOT);
        due("9: left the row", x.turn(0, 0), BAD);
        due("9: left the row", x.leave(1), NOT);
        due("9: about", x.about(1, 8), 1);
        due("9: about another", x.about(0, 8), 0);
        x.minutes(14);
        due("9: not free yet", x.gone(0), NOT);
        x.minutes(1);
        due("9: free, in the row", x.gone(0), 1);
        due("9: left the row", x.turn(0, 0), BAD);
    }

    // 10
    private static void about() {
        PorterTurns x = City.plain();
        x.minutes(5);
        x.man(2, 33, 44, 0);
        due("10: no man", x.about(1, 0), -2);
        due("10: no man", x.about(-1, 0), -2);
        due("10: what", x.about(0, -1), -2);
        due("10: what", x.about(0, 10), -2);
        int[] first = {2, 33, 44, 0, 0, 0, 0, -1, 0, -1};
        for (int what = 0; what < 10; what++) {
            due("10: new man, " + what, x.about(0, what), first[what]);
        }
        x.join(0);
        due("10: place in the row", x.about(0, 7), 0);
        x.load(1050, 1, 0, 100);
        x.load(1050, 1, 0, 100);
        x.send(2, 1);
        int[] away = {2, 33, 44, 0, 15, 20, 0, -1, 0, 1};
        for (int what = 0; what < 10; what++) {
            due("10: on the way, " + what, x.about(0, what), away[what]);
        }
        x.minutes(15);
        int[] back = {2, 33, 44, 48, 15, 20, 0, 0, 0, -1};
        for (int what = 0; what < 10; what++) {
            due("10: back, " + what, x.about(0, what), back[what]);
        }
        x.send(2, 0);
        x.fall(0, 0, 30);
        int[] fallen = {2, 33, 44, 48, 30, 35, 30, -1, 0, 0};
        for (int what = 0; what < 10; what++) {
            due("10: with one fallen, " + what, x.about(0, what), fallen[what]);
        }
        x.minutes(580);
        x.gone(0);
        int[] nextDay = {2, 33, 44, 48, 0, 35, 30, -1, 1, -1};
        for (int what = 0; what < 10; what++) {
            due("10: next DAY, gone, " + what, x.about(0, what), nextDay[what]);
        }
    }

    // 11
    private static void turn() {
        PorterTurns x = City.withMen(1, 2);
        due("11: first", x.turn(0, 0), 0);
        due("11: second", x.turn(0, 1), 1);
        due("11: beyond", x.turn(0, 2), BAD);
        due("11: below", x.turn(0, -1), BAD);
        due("11: empty row", x.turn(1, 0), BAD);
        due("11: fellowship", x.turn(4, 0), BAD);
        due("11: fellowship", x.turn(-1, 0), BAD);
    }

    // 12
    private static void dice() {
        PorterTurns x = City.withMen(20, 20, 20, 20, 20);
        due("12: fellowship", x.dice(4, 0, 0), BAD);
        due("12: fellowship", x.dice(-1, 0, 0), BAD);
        due("12: is", x.dice(0, 2, 0), BAD);
        due("12: is", x.dice(0, -1, 0), BAD);
        due("12: by list ahead", x.dice(0, 1, -5), 0);
        due("12: by dice ahead", x.dice(0, 1, -9), 1);
        due("12: another fellowship", x.dice(1, 0, 0), 0);
        int z = -9;
        java.util.List<Integer> row = new java.util.ArrayList<>(java.util.List.of(0, 1, 2, 3, 4));
        x.load(1150, 1, 0, 0);
        x.load(1150, 1, 0, 0);
        due("12: two go", x.send(0, 0), 2);
        for (int i = 0; i < 2; i++) {
            z = z * 1103515245 + 12345;
            due("12: the one at that place", x.gang(0, i), row.remove((z >>> 8) % row.size()));
        }
        due("12: z goes on", x.send(0, 1), 2);
        for (int i = 0; i < 2; i++) {
            z = z * 1103515245 + 12345;
            due("12: the one at that place", x.gang(1, i), row.remove((z >>> 8) % row.size()));
        }
        due("12: by list again", x.dice(0, 0, 77), 1);
        due("12: by list ahead", x.dice(0, 0, 77), 0);
        x.minutes(15);
        x.load(1001, 1, 0, 0);
        x.send(0, 2);
        due("12: the first one is next", x.gang(2, 0), row.get(0));
    }

    // 13
    private static void feed() {
        PorterTurns x = new PorterTurns();
        for (int i = 1; i <= 10; i++) {
            due("13: feed", x.feed(0x31323334, 0x20202020, 0x20202020, 0x20202020, 0x2b202020), 20 * i);
        }
        due("13: full", x.feed(0, 0, 0, 0, 0), FULL);
        due("13: as it was", x.count(9), 200);
        x.end(181);
        due("13: one byte too many", x.feed(0, 0, 0, 0, 0), FULL);
        x.end(180);
        due("13: up to 200", x.feed(0x39202020, 0x20202020, 0x20202020, 0x20202020, 0x2d202037), 200);
        due("13: highest first, in order", x.law(0, CLAIM, 0), 0);
        due("13: highest first, in order", x.says(0, CLAIM, -1, -1), 9 * 1234 + 9 - 7);
        x.feed(0xffffffff, 0, 0, 0, 0);
        due("13: other bytes", x.law(0, CLAIM, 0), -100);
        x.feed(0x31202020, 0x20202020, 0x20202020, 0x20202020, 0x202020ff);
        due("13: other bytes", x.law(0, CLAIM, 0), -119);
        x.feed(0x31202020, 0x20202020, 0x20000000, 0x20202020, 0x202020ff);
        due("13: a byte 0 is no end", x.law(0, CLAIM, 0), -109);
    }

    // 14
    private static void end() {
        PorterTurns x = new PorterTurns();
        due("14: nothing there", x.end(0), 0);
        due("14: too many", x.end(1), BAD);
        due("14: below", x.end(-1), BAD);
        x.feed(0x31323334, 0x35202020, 0x20202020, 0x20202020, 0x20202020);
        due("14: too many", x.end(21), BAD);
        due("14: all", x.end(20), 20);
        due("14: first ones", x.end(3), 3);
        due("14: too many now", x.end(4), BAD);
        due("14: kept", x.count(9), 3);
        due("14: a law of these", x.law(0, CLAIM, 0), 0);
        due("14: a law of these", x.says(0, CLAIM, -1, -1), 123);
    }

    // 15
    private static void law() {
        PorterTurns x = new PorterTurns();
        due("15: fellowship", Check.law(x, 4, 0, 0, "1"), BAD);
        due("15: fellowship", Check.law(x, -1, 0, 0, "1"), BAD);
        due("15: use", Check.law(x, 0, 5, 0, "1"), BAD);
        due("15: use", Check.law(x, 0, -1, 0, "1"), BAD);
        due("15: from", Check.law(x, 0, 0, 167, "1"), BAD);
        due("15: from", Check.law(x, 0, 0, -1, "1"), BAD);
        due("15: bad leaves the tape", x.count(9), 1);
        due("15: fault", Check.law(x, 0, 0, 0, "1 1"), -102);
        due("15: fault empties the tape", x.count(9), 0);
        due("15: bad ahead of fault", Check.law(x, 0, 0, 167, "1 1"), BAD);
        for (int i = 0; i < 40; i++) {
            due("15: law", Check.law(x, i % 4, i % 5, i % 2 * 166, "1"), i);
            due("15: the tape is empty", x.count(9), 0);
        }
        due("15: full", Check.law(x, 0, 0, 0, "1"), FULL);
        due("15: full leaves the tape", x.count(9), 1);
        due("15: bad ahead of full", x.law(0, 5, 0), BAD);
        due("15: full ahead of fault", Check.law(x, 0, 0, 0, "+"), FULL);
        due("15: full leaves the tape", x.count(9), 1);
        due("15: how many", x.count(3), 40);
    }

    // 16
    private static void inForce() {
        PorterTurns x = new PorterTurns();
        due("16: none", x.inForce(0, 0, 0, 0), NOT);
        due("16: fellowship", x.inForce(4, 0, 0, 0), BAD);
        due("16: fellowship", x.inForce(-1, 0, 0, 0), BAD);
        due("16: use", x.inForce(0, 5, 0, 0), BAD);
        due("16: use", x.inForce(0, -1, 0, 0), BAD);
        due("16: day", x.inForce(0, 0, 167, 0), BAD);
        due("16: day", x.inForce(0, 0, -1, 0), BAD);
        due("16: k", x.inForce(0, 0, 0, 167), BAD);
        due("16: k", x.inForce(0, 0, 0, -1), BAD);
        Check.law(x, 0, 0, 2, "1");
        Check.law(x, 0, 1, 0, "1");
        Check.law(x, 1, 0, 0, "1");
        x.minutes(600);
        Check.law(x, 0, 0, 4, "1");
        Check.law(x, 0, 0, 3, "1");
        due("16: ahead of its day", x.inForce(0, 0, 1, 166), NOT);
        due("16: from its day on", x.inForce(0, 0, 2, 166), 0);
        due("16: from its day on", x.inForce(0, 0, 3, 166), 4);
        due("16: passed last, not in force last", x.inForce(0, 0, 4, 1), 4);
        due("16: as known on day 0", x.inForce(0, 0, 166, 0), 0);
        due("16: use and fellowship", x.inForce(0, 1, 166, 166), 1);
        due("16: use and fellowship", x.inForce(1, 0, 0, 0), 2);
        due("16: use and fellowship", x.inForce(1, 1, 0, 0), NOT);
    }

    // 17
    private static void says() {
        PorterTurns x = City.withMen(10, 20);
        x.man(0, 77, 55, 0);
        x.load(3456, 203, 789, 605);
        int[] without = {0, 456, 1, 0, 5};
        for (int use = 0; use < 5; use++) {
            due("17: without a law, " + use, x.says(0, use, 0, 2), without[use]);
        }
        due("17: PRICE without a law and a load", x.says(0, PRICE, -1, -1), 0);
        due("17: fellowship", x.says(4, 0, 0, 0), VOID);
        due("17: fellowship", x.says(-1, 0, 0, 0), VOID);
        due("17: use", x.says(0, 5, 0, 0), VOID);
        due("17: use", x.says(0, -1, 0, 0), VOID);
        due("17: load", x.says(0, 0, 1, 0), VOID);
        due("17: load", x.says(0, 0, -2, 0), VOID);
        due("17: man", x.says(0, 0, 0, 3), VOID);
        due("17: man", x.says(0, 0, 0, -2), VOID);
        Check.law(x, 0, GANG, 2, "9");
        due("17: not in force yet", x.says(0, GANG, -1, -1), 1);
        x.load(1001, 1, 0, 0);
        x.send(0, 1);
        x.minutes(15);
        x.leave(0);
        names(x, "kind", 3, 0, "weight", 456, 0, "far", 99, 0, "up", 89, 0, "value", 789, 0, "late", 0, 0);
        names(x, "hour", 0, 0, "rain", 0, 0, "day", 0, 0, "men", 3, 3);
        names(x, "age", 55, 0, "strength", 77, 0, "worked", 0, 0);
        due("17: worked", sayOf(x, "worked", -1, 0), 15);
        x.minutes(584);
        names(x, "hour", 9, 9, "day", 0, 0, "late", 0, 0);
        x.minutes(7);
        x.rain(606, 607);
        names(x, "hour", 0, 0, "day", 1, 1, "late", 1, 0, "rain", 1, 1);
        x.minutes(54);
        names(x, "hour", 1, 1, "rain", 0, 0, "late", 55, 0);
        x.gone(2);
        due("17: gone ones not", sayOf(x, "men", -1, -1), 2);
        x.load(1001, 1, 0, 0);
        x.send(0, 2);
        due("17: those away not", sayOf(x, "men", -1, -1), 1);
        x.fall(2, 1, x.count(4) + 17);
        x.minutes(14);
        due("17: those away not", sayOf(x, "men", -1, -1), 1);
        x.minutes(2);
        due("17: hurt ones not", sayOf(x, "men", -1, -1), 1);
        x.minutes(1);
        due("17: no more hurt", sayOf(x, "men", -1, -1), 2);
        x.load(1001, 1, 0, 0);
        x.send(0, 3);
        x.minutes(14);
        due("17: not free yet", sayOf(x, "men", -1, -1), 1);
        x.minutes(1);
        due("17: free", sayOf(x, "men", -1, -1), 2);
        due("17: a man of no row, of another fellowship's law", sayOf(x, "strength", -1, 2), 77);
        due("17: men of the law's fellowship", Check.law(x, 1, PRICE, 0, "men"), x.count(3) - 1);
        due("17: men of the law's fellowship", x.says(1, PRICE, -1, -1), 0);
    }

    /** Asks for names: each with what it gives of LOAD 0 and man 2, and without both. */
    private static void names(PorterTurns x, Object... rows) {
        for (int i = 0; i < rows.length; i += 3) {
            String name = (String) rows[i];
            due("17: " + name, sayOf(x, name, 0, 2), (Integer) rows[i + 1]);
            due("17: " + name + " without", x.says(0, CLAIM, -1, -1), (Integer) rows[i + 2]);
        }
    }

    private static int sayOf(PorterTurns x, String text, int load, int man) {
        Check.law(x, 0, CLAIM, 0, text);
        return x.says(0, CLAIM, load, man);
    }

    // 18
    private static void load() {
        PorterTurns x = City.plain();
        due("18: kind", x.load(5001, 1, 0, 0), BAD);
        due("18: weight", x.load(1000, 1, 0, 0), BAD);
        due("18: weight", x.load(0, 1, 0, 0), BAD);
        due("18: below", x.load(-1, 1, 0, 0), BAD);
        due("18: below", x.load(-999, 1, 0, 0), BAD);
        due("18: to itself", x.load(1, 101, 0, 0), BAD);
        due("18: no place", x.load(1, 4, 0, 0), BAD);
        due("18: no place", x.load(1, 400, 0, 0), BAD);
        due("18: no place", x.load(1, -1, 0, 0), BAD);
        due("18: no place", x.load(1, -100, 0, 0), BAD);
        due("18: value", x.load(1, 1, -1, 0), BAD);
        due("18: value", x.load(1, 1, 10000, 0), BAD);
        due("18: due", x.load(1, 1, 0, -1), BAD);
        due("18: due", x.load(1, 1, 0, 200001), BAD);
        due("18: least", x.load(1, 1, 0, 0), 0);
        due("18: most", x.load(4999, 302, 9999, 200000), 1);
        for (int i = 2; i < 200; i++) {
            due("18: load", x.load(1001, 1, 0, 0), i);
        }
        due("18: full", x.load(1001, 1, 0, 0), FULL);
        due("18: bad ahead of full", x.load(1000, 1, 0, 0), BAD);
        due("18: how many", x.count(2), 200);
        int[] told = {4, 999, 3, 2, 9999, 200000, 0};
        for (int what = 0; what < told.length; what++) {
            due("18: told " + what, x.told(1, what), told[what]);
        }
    }

    // 19
    private static void whose() {
        PorterTurns x = City.plain();
        x.load(2100, 1, 0, 0);
        x.load(3100, 1, 0, 0);
        due("19: no load", x.whose(2), BAD);
        due("19: no load", x.whose(-1), BAD);
        due("19: anybody's", x.whose(0), 4);
        Check.law(x, 3, CLAIM, 0, "kind = 2");
        due("19: one alone", x.whose(0), 3);
        due("19: anybody's still", x.whose(1), 4);
        Check.law(x, 0, CLAIM, 0, "0 - 1 if kind = 3 or weight = 100 and late");
        due("19: below 0 is not 0", x.whose(1), 0);
        due("19: one alone", x.whose(0), 3);
        x.minutes(1);
        due("19: a dispute now", x.whose(0), 5);
        Check.law(x, 1, CLAIM, 1, "1");
        due("19: not in force yet", x.whose(1), 0);
        x.minutes(599);
        due("19: in force", x.whose(1), 5);
        x.off(1);
        due("19: taken off", x.whose(1), 5);
    }

    // 20
    private static void why() {
        PorterTurns x = City.withMen(20, 4);
        due("20: no load", x.why(0, 0), BAD);
        x.load(97, 1, 0, 0);
        due("20: no load", x.why(0, 1), BAD);
        due("20: no load", x.why(0, -1), BAD);
        due("20: fellowship", x.why(4, 0), BAD);
        due("20: fellowship", x.why(-1, 0), BAD);
        due("20: not enough", x.why(0, 0), 6);
        x.load(96, 1, 0, 0);
        due("20: just enough", x.why(0, 1), 0);
        due("20: nobody in the row", x.why(1, 1), 6);
        x.rain(0, 1);
        due("20: corn in rain ahead of men", x.why(0, 0), 5);
        x.tide(0, 0, 1);
        due("20: water ahead of rain", x.why(0, 0), 4);
        Check.law(x, 1, CLAIM, 0, "1");
        due("20: another's ahead of water", x.why(0, 0), 3);
        due("20: its own", x.why(1, 0), 4);
        Check.law(x, 2, CLAIM, 0, "1");
        due("20: a dispute ahead of another's", x.why(0, 0), 2);
        due("20: a dispute", x.why(1, 0), 2);
        x.off(0);
        due("20: not on the board ahead of all", x.why(0, 0), 1);
        whyOfMen();
        whyByDice();
    }

    private static void whyOfMen() {
        PorterTurns x = City.withMen(1, 1, 1, 1, 1, 1, 1, 1, 99);
        x.load(1032, 1, 0, 0);
        x.load(1033, 1, 0, 0);
        x.load(1032, 2, 0, 0);
        due("20: enough with 8", x.why(0, 0), 0);
        due("20: not with 8", x.why(0, 1), 6);
        due("20: UP weighs, counted once", x.why(0, 2), 6);
        x.load(1022, 2, 0, 0);
        due("20: UP weighs, counted once", x.why(0, 3), 0);
        Check.law(x, 0, GANG, 0, "9999");
        x.load(1001, 1, 0, 0);
        due("20: GANG 8 at most", x.why(0, 4), 0);
        x.leave(0);
        x.leave(1);
        due("20: fewer than GANG", x.why(0, 4), 6);
        Check.law(x, 0, GANG, 0, "0 - 1");
        due("20: GANG 1 at least", x.why(0, 4), 0);
        for (int man = 2; man < 9; man++) {
            x.leave(man);
        }
        due("20: GANG 1 at least", x.why(0, 4), 6);
    }

    private static void whyByDice() {
        PorterTurns x = City.withMen(1, 1, 1, 1, 1, 1, 1, 1, 99);
        x.dice(0, 1, 5);
        x.load(1033, 1, 0, 0);
        due("20: as if by list", x.why(0, 0), 6);
        x.load(1001, 1, 0, 0);
        x.why(0, 1);
        x.send(0, 1);
        due("20: no dice are thrown", x.gang(1, 0), ((5 * 1103515245 + 12345) >>> 8) % 9);
    }

    // 21
    private static void send() {
        PorterTurns x = City.withMen(10, 20, 30, 40);
        due("21: no load", x.send(0, 0), BAD);
        x.load(1240, 1, 0, 100);
        due("21: no load", x.send(0, -1), BAD);
        due("21: fellowship", x.send(4, 0), BAD);
        due("21: fellowship", x.send(-1, 0), BAD);
        due("21: nobody of it", x.send(1, 0), -16);
        due("21: three go", x.send(0, 0), 3);
        due("21: one is left", x.turn(0, 0), 3);
        due("21: one is left", x.turn(0, 1), BAD);
        due("21: on its way", x.send(0, 0), -11);
        x.load(1001, 1, 0, 100);
        due("21: the next one", x.send(0, 1), 1);
        x.minutes(14);
        due("21: not yet", x.told(0, 6), 1);
        due("21: not yet", x.turn(0, 0), BAD);
        x.minutes(1);
        due("21: there", x.told(0, 6), 2);
        for (int i = 0; i < 4; i++) {
            due("21: the lesser load's first, as taken", x.turn(0, i), i);
        }
        sendRefused();
        sendRowEnd();
        sendHours();
        sendPaid();
        sendSkipsThoseThatMayNotGo();
    }

    private static void sendRefused() {
        PorterTurns x = City.withMen(20, 4);
        x.load(97, 1, 0, 0);
        x.dice(0, 1, 3);
        due("21: 6", x.send(0, 0), -16);
        due("21: nothing changed", x.turn(0, 0), 0);
        due("21: nothing changed", x.about(0, 4), 0);
        x.load(1001, 1, 0, 0);
        x.send(0, 1);
        due("21: z stays where 6 refuses", x.gang(1, 0), ((3 * 1103515245 + 12345) >>> 8) % 2);
        x.rain(0, 1);
        due("21: 5", x.send(0, 0), -15);
        x.tide(0, 0, 1);
        due("21: 4", x.send(0, 0), -14);
        Check.law(x, 1, CLAIM, 0, "1");
        due("21: 3", x.send(0, 0), -13);
        Check.law(x, 2, CLAIM, 0, "1");
        due("21: 2", x.send(0, 0), -12);
        due("21: 1", x.send(0, 1), -11);
    }

    private static void sendRowEnd() {
        PorterTurns x = City.withMen(10, 10, 10);
        x.load(1001, 1, 0, 100);
        x.load(1001, 1, 0, 100);
        x.send(0, 1);
        x.send(0, 0);
        x.fall(0, -1, 0);
        x.minutes(15);
        due("21: the lesser load's first, also a fallen one's", x.turn(0, 1), 1);
        due("21: the lesser load's first, also a fallen one's", x.turn(0, 2), 0);
        due("21: two ways at other times", x.load(1001, 2, 0, 100), 2);
        x.send(0, 2);
        x.minutes(10);
        x.load(1001, 1, 0, 100);
        x.send(0, 3);
        x.minutes(15);
        due("21: who comes first", x.turn(0, 1), 2);
        due("21: who comes last", x.turn(0, 2), 1);
    }

    private static void sendHours() {
        PorterTurns x = City.plain();
        x.place(43, 0);
        x.place(44, 0);
        x.man(0, 99, 59, 0);
        x.man(1, 99, 60, 0);
        x.join(0);
        x.join(1);
        // The way to PLACE 4 takes 48 minutes, that to 5 one more: 480 are 10 ways of 48, and 240 are 5.
        int loads = 0;
        for (int i = 0; i < 11; i++) {
            int load = loads;
            for (int to : new int[] {5, 4, 5, 4}) {
                x.load(1001, to, 0, 0);
                loads++;
            }
            if (i == 9) {
                due("21: 481 are too much", x.send(0, load), -16);
            }
            if (i == 4) {
                due("21: 241 are too much for one of 60", x.send(1, load + 2), -16);
            }
            due("21: up to 480", x.send(0, load + 1), i < 10 ? 1 : -16);
            due("21: up to 240 for one of 60", x.send(1, load + 3), i < 5 ? 1 : -16);
            x.minutes(48);
        }
        due("21: HOURS", x.about(0, 4), 480);
        due("21: HOURS", x.about(1, 4), 240);
        x.minutes(600 - x.count(4));
        due("21: a new DAY", x.about(0, 4), 0);
        due("21: a new DAY", x.send(0, 0), 1);
        due("21: a new DAY", x.send(1, 2), 1);
    }

    private static void sendPaid() {
        PorterTurns x = City.withMen(10, 10, 10);
        Check.law(x, 0, PRICE, 0, "99999 * 9 if weight = 1; 0 - 5 if weight = 2; 101");
        Check.law(x, 0, SHARE, 0, "101 if weight = 1; 10");
        Check.law(x, 0, GANG, 0, "3");
        int[] price = {100000, 0, 101, 101};
        int[] paid = {100000, 0, 101, 50};
        int[] kept = {100000, 0, 10, 5};
        int fund = 0;
        int[] coins = new int[3];
        for (int i = 0; i < 4; i++) {
            int due = i < 3 ? x.count(4) + 15 : x.count(4) + 14;
            x.load(1001 + Math.min(i, 2), 1, 0, due);
            x.send(0, i);
            due("21: PRICE", x.told(i, 9), price[i]);
            x.minutes(15);
            due("21: paid", x.told(i, 10), paid[i]);
            fund += kept[i];
            due("21: SHARE", x.fund(0, 0), fund);
            int rest = paid[i] - kept[i];
            for (int place = 0; place < 3; place++) {
                int man = x.gang(i, place);
                coins[man] += rest / 3 + (place == 0 ? rest % 3 : 0);
                due("21: parted", x.about(man, 3), coins[man]);
            }
        }
        x.load(1005, 1, 0, 9999);
        x.send(0, 4);
        Check.law(x, 0, PRICE, 0, "1");
        Check.law(x, 0, SHARE, 0, "100");
        x.minutes(15);
        due("21: PRICE as found when sent", x.told(4, 10), 101);
        due("21: SHARE as found when sent", x.fund(0, 0), fund + 10);
        sendShareBelow();
        sendPriceAheadOfLeaving();
    }

    private static void sendShareBelow() {
        PorterTurns x = City.withMen(10);
        Check.law(x, 0, PRICE, 0, "200");
        Check.law(x, 0, SHARE, 0, "0 - 1");
        x.load(1001, 1, 0, 99);
        x.send(0, 0);
        x.minutes(15);
        due("21: SHARE 0 at least", x.fund(0, 1), 0);
        due("21: SHARE 0 at least", x.about(0, 3), 200);
    }

    private static void sendPriceAheadOfLeaving() {
        PorterTurns x = City.withMen(10, 10);
        Check.law(x, 0, PRICE, 0, "men * 100");
        Check.law(x, 0, SHARE, 0, "men * 10");
        x.load(1001, 1, 0, 99);
        x.send(0, 0);
        due("21: men are counted as they were when they were sent", x.told(0, 9), 200);
        x.minutes(15);
        due("21: men are counted as they were when they were sent", x.fund(0, 1), 40);
    }

    private static void sendSkipsThoseThatMayNotGo() {
        PorterTurns x = City.withMen(50, 50);
        x.load(1001, 1, 0, 0);
        x.send(0, 0);
        x.fall(0, 0, 16);
        x.minutes(15);
        x.leave(1);
        x.join(1);
        x.load(1001, 1, 0, 0);
        due("21: the hurt one is first in the row", x.turn(0, 0), 0);
        due("21: and does not go", x.send(0, 1), 1);
        due("21: but the next one", x.gang(1, 0), 1);
        x.minutes(1);
        x.load(1001, 1, 0, 0);
        due("21: hurt up to that minute, that one not", x.send(0, 2), 1);
        due("21: way in rain", x.rain(16, 17), 1);
        x.minutes(15);
        x.rain(31, 32);
        x.load(1001, 1, 0, 0);
        x.send(0, 3);
        due("21: way in rain", x.told(3, 12), 31 + 22);
    }

    // 22
    private static void off() {
        PorterTurns x = City.withMen(99);
        due("22: no load", x.off(0), BAD);
        x.load(1001, 1, 0, 0);
        x.load(1001, 1, 0, 0);
        due("22: no load", x.off(2), BAD);
        due("22: no load", x.off(-1), BAD);
        x.minutes(4);
        due("22: off", x.off(0), 1);
        due("22: state", x.told(0, 6), 4);
        due("22: twice", x.off(0), NOT);
        x.send(0, 1);
        due("22: carried", x.off(1), NOT);
        x.minutes(15);
        due("22: there", x.off(1), NOT);
        due("22: waiting till then", x.told(0, 11), 4);
    }

    // 23
    private static void fall() {
        PorterTurns x = City.withMen(10, 10, 10);
        due("23: no load", x.fall(0, -1, 0), BAD);
        Check.law(x, 0, PRICE, 0, "40");
        Check.law(x, 0, SHARE, 0, "0");
        Check.law(x, 0, GANG, 0, "2");
        Check.law(x, 0, FINE, 0, "strength + weight * 10 - 17 if age = 30");
        x.load(1001, 1, 0, 99);
        due("23: no load", x.fall(-1, -1, 0), BAD);
        due("23: on the board", x.fall(0, -1, 0), NOT);
        due("23: none of it, ahead of NOT", x.fall(0, 0, 0), BAD);
        x.send(0, 0);
        x.minutes(15);
        due("23: there", x.fall(0, -1, 0), NOT);
        due("23: there, one of it", x.fall(0, 1, 0), NOT);
        due("23: coins", x.about(0, 3), 20);
        x.load(1003, 1, 0, 99);
        x.send(0, 1);
        due("23: none of it", x.fall(1, 1, 0), BAD);
        due("23: no such man", x.fall(1, 3, 0), BAD);
        due("23: no such man", x.fall(1, -2, 0), BAD);
        due("23: until", x.fall(1, 0, -1), BAD);
        due("23: until", x.fall(1, 0, 200001), BAD);
        due("23: still carried", x.told(1, 6), 1);
        // The gang is 2 and 0: the fine is 23, 2 has nothing and 0 has 20.
        due("23: as far as he has coins", x.fall(1, 0, 200000), 20);
        due("23: state", x.told(1, 6), 3);
        due("23: coins", x.about(0, 3), 0);
        due("23: to the fund", x.fund(0, 0), 20);
        due("23: to the fund", x.fund(0, 1), 20);
        due("23: hurt", x.about(0, 6), 200000);
        due("23: the other not", x.about(2, 6), 0);
        due("23: twice", x.fall(1, -1, 0), NOT);
        x.minutes(15);
        due("23: nothing is paid", x.told(1, 10), 0);
        due("23: nothing is paid", x.about(2, 3), 0);
        due("23: the gang came", x.turn(0, 1), 2);
        due("23: the gang came", x.turn(0, 2), 0);
        x.load(1001, 1, 0, 99);
        x.send(0, 2);
        due("23: until does not count", x.fall(2, -1, -1), 3);
        Check.law(x, 0, FINE, 0, "0 - 7");
        x.minutes(15);
        x.load(1001, 1, 0, 99);
        x.send(0, 3);
        due("23: FINE 0 at least", x.fall(3, -1, 0), 0);
        due("23: FINE 0 at least", x.about(1, 3), 17);
    }

    // 24
    private static void told() {
        PorterTurns x = City.withMen(10, 10);
        x.minutes(3);
        due("24: no load", x.told(0, 0), -2);
        x.load(4080, 1, 55, 66);
        x.load(2001, 203, 1, 2);
        x.load(2001, 1, 1, 2);
        due("24: no load", x.told(-1, 0), -2);
        due("24: no load", x.told(3, 0), -2);
        due("24: what", x.told(0, -1), -2);
        due("24: what", x.told(0, 13), -2);
        x.minutes(4);
        tellAll(x, 0, "on the board", 4, 80, 0, 1, 55, 66, 0, -1, 0, 0, 0, 4, -1);
        x.send(0, 0);
        x.minutes(1);
        tellAll(x, 0, "carried", 4, 80, 0, 1, 55, 66, 1, 0, 2, 80, 0, 4, 22);
        x.minutes(14);
        tellAll(x, 0, "there", 4, 80, 0, 1, 55, 66, 2, 0, 2, 80, 80, 4, 22);
        x.off(1);
        x.minutes(1);
        tellAll(x, 1, "taken off", 2, 1, 2, 3, 1, 2, 4, -1, 0, 0, 0, 19, -1);
        x.send(0, 2);
        x.fall(2, -1, 0);
        x.minutes(1);
        tellAll(x, 2, "fallen", 2, 1, 0, 1, 1, 2, 3, 0, 1, 1, 0, 20, -1);
    }

    private static void tellAll(PorterTurns x, int load, String state, int... want) {
        for (int what = 0; what < want.length; what++) {
            due("24: " + state + ", " + what, x.told(load, what), want[what]);
        }
    }

    // 25
    private static void gang() {
        PorterTurns x = City.withMen(10, 20, 30);
        x.load(1110, 1, 0, 0);
        due("25: none yet", x.gang(0, 0), BAD);
        x.send(0, 0);
        due("25: first", x.gang(0, 0), 0);
        due("25: second", x.gang(0, 1), 1);
        due("25: beyond", x.gang(0, 2), BAD);
        due("25: below", x.gang(0, -1), BAD);
        due("25: no load", x.gang(1, 0), BAD);
        due("25: no load", x.gang(-1, 0), BAD);
        x.minutes(15);
        due("25: there", x.gang(0, 1), 1);
    }

    // 26
    private static void minutes() {
        PorterTurns x = new PorterTurns();
        due("26: none", x.minutes(0), BAD);
        due("26: below", x.minutes(-1), BAD);
        due("26: too many", x.minutes(601), BAD);
        due("26: one", x.minutes(1), 1);
        due("26: most", x.minutes(600), 601);
        for (int i = 0; i < 165; i++) {
            x.minutes(600);
        }
        due("26: beyond", x.minutes(399), BAD);
        due("26: as it was", x.count(4), 99601);
        due("26: up to the last", x.minutes(398), 99999);
        due("26: no more", x.minutes(1), BAD);
        minutesOrder();
    }

    /** At 600: HOURS are 0 first, THE FUND pays next, what comes in at that MINUTE comes behind. */
    private static void minutesOrder() {
        PorterTurns x = City.withMen(10);
        x.man(0, 10, 70, 0);
        x.rates(0, 0, 5);
        Check.law(x, 0, PRICE, 0, "100");
        x.minutes(585);
        x.load(1001, 1, 0, 600);
        x.send(0, 0);
        due("26: hours ahead", x.about(0, 4), 15);
        x.minutes(15);
        due("26: hours", x.about(0, 4), 0);
        due("26: the fund had nothing yet", x.about(1, 3), 0);
        due("26: the fund now", x.fund(0, 0), 5);
        due("26: the load is there", x.told(0, 10), 100);
        x.minutes(600);
        due("26: the fund pays next DAY", x.about(1, 3), 5);
        due("26: the fund pays next DAY", x.fund(0, 0), 0);
    }

    // 27
    private static void judged() {
        PorterTurns x = City.plain();
        x.minutes(599);
        due("27: no load", x.judged(0, 0, 1, 0), BAD);
        x.load(1050, 1, 0, 0);
        x.rain(599, 600);
        due("27: no load", x.judged(-1, 0, 1, 0), BAD);
        due("27: no load", x.judged(1, 0, 1, 0), BAD);
        due("27: a is b", x.judged(0, 1, 1, 0), BAD);
        due("27: fellowship", x.judged(0, 4, 1, 0), BAD);
        due("27: fellowship", x.judged(0, -1, 1, 0), BAD);
        due("27: fellowship", x.judged(0, 1, 4, 0), BAD);
        due("27: fellowship", x.judged(0, 1, -1, 0), BAD);
        due("27: k", x.judged(0, 0, 1, -1), BAD);
        due("27: k", x.judged(0, 0, 1, 167), BAD);
        due("27: no claims", x.judged(0, 0, 1, 0), NOT);
        Check.law(x, 1, CLAIM, 0, "7");
        due("27: one claim", x.judged(0, 0, 1, 0), NOT);
        Check.law(x, 0, CLAIM, 0, "weight / 7");
        due("27: of like ones the lesser number", x.judged(0, 0, 1, 0), 1);
        due("27: of like ones the lesser number", x.judged(0, 1, 0, 0), 1);
        Check.law(x, 2, CLAIM, 0, "8");
        due("27: more", x.judged(0, 2, 1, 0), 2);
        due("27: more", x.judged(0, 1, 2, 0), 2);
        Check.law(x, 3, CLAIM, 0, "0 - 9");
        due("27: below 0", x.judged(0, 1, 3, 0), 1);
        due("27: gives 0", Check.law(x, 3, CLAIM, 0, "0"), 4);
        due("27: gives 0", x.judged(0, 1, 3, 0), NOT);
        due("27: gives 0", x.judged(0, 3, 1, 0), NOT);
        due("27: gives 1", Check.law(x, 3, CLAIM, 0, "1"), 5);
        due("27: gives 1", x.judged(0, 1, 3, 0), 1);
        due("27: gives 1", x.judged(0, 3, 1, 0), 1);
        due("27: gives 0 again", Check.law(x, 3, CLAIM, 0, "0"), 6);
        x.minutes(1);
        Check.law(x, 3, CLAIM, 0, "99");
        Check.law(x, 2, CLAIM, 1, "1");
        due("27: as known on day 0", x.judged(0, 1, 3, 0), NOT);
        due("27: as known on day 1", x.judged(0, 1, 3, 1), 3);
        due("27: in force on the day on which it came", x.judged(0, 1, 2, 1), 2);
        x.man(0, 10, 30, 0);
        Check.law(x, 0, CLAIM, 0, "hour * 1000 + rain * 100 + day * 10 + men + late + age + strength + worked + 1");
        Check.law(x, 1, CLAIM, 0, "9100");
        due("27: of the minute at which it came", x.judged(0, 0, 1, 1), 0);
        Check.law(x, 1, CLAIM, 0, "9101 - kind + 1");
        due("27: of the minute at which it came", x.judged(0, 1, 0, 1), 0);
        Check.law(x, 1, CLAIM, 0, "9102");
        due("27: men and late 0", x.judged(0, 0, 1, 1), 1);
    }

    // 28
    private static void rates() {
        PorterTurns x = City.withMen(10, 10, 10);
        due("28: fellowship", x.rates(4, 0, 0), BAD);
        due("28: fellowship", x.rates(-1, 0, 0), BAD);
        due("28: help", x.rates(0, -1, 0), BAD);
        due("28: help", x.rates(0, 100, 0), BAD);
        due("28: pension", x.rates(0, 0, -1), BAD);
        due("28: pension", x.rates(0, 0, 100), BAD);
        due("28: most", x.rates(0, 99, 99), 1);
        x.man(0, 10, 69, 0);
        x.man(0, 10, 70, 0);
        x.man(1, 10, 70, 0);
        x.man(0, 10, 90, 0);
        x.man(0, 10, 90, 0);
        x.gone(7);
        Check.law(x, 0, PRICE, 0, "100");
        Check.law(x, 0, SHARE, 0, "100");
        due("28: rates", x.rates(0, 40, 15), 1);
        x.load(1001, 1, 0, 100);
        x.send(0, 0);
        x.minutes(15);
        hurt(x, 1, 600);
        hurt(x, 2, 601);
        hurt(x, 3, 1201);
        due("28: in the fund", x.fund(0, 0), 100);
        x.minutes(570 + 15);
        // Man 1 is hurt up to 600 (that one not); 2 and 0 get 40 each, by numbers; 4 gets 15; 6 can't be paid.
        int[] coins = {40, 0, 40, 0, 15, 0, 0, 0};
        for (int man = 0; man < 8; man++) {
            due("28: coins of " + man, x.about(man, 3), coins[man]);
        }
        due("28: left", x.fund(0, 0), 5);
        due("28: paid", x.fund(0, 2), 95);
        x.rates(0, 6, 5);
        x.minutes(600);
        due("28: who can't be paid whole gets nothing", x.about(0, 3), 40);
        due("28: the next one may", x.about(4, 3), 20);
        due("28: the last coin", x.fund(0, 0), 0);
        pensionOfTheFirst();
    }

    private static void pensionOfTheFirst() {
        PorterTurns x = City.plain();
        x.join(x.man(0, 10, 70, 0));
        x.rates(0, 0, 3);
        x.load(1100, 1, 0, 99);
        due("28: sent", x.send(0, 0), -16);
        x.load(1040, 1, 0, 99);
        due("28: sent", x.send(0, 1), 1);
        x.minutes(600);
        due("28: 2 in the fund are not 3", x.about(0, 3), 38);
        x.rates(0, 0, 2);
        x.minutes(600);
        due("28: PENSION of man 0", x.about(0, 3), 40);
        x.minutes(600);
        due("28: once", x.about(0, 3), 40);
    }

    /** Sends for a LOAD, which the next man of FELLOWSHIP 0 lets fall, hurt up to a MINUTE. */
    private static void hurt(PorterTurns x, int load, int until) {
        x.load(1001, 1, 0, 100);
        x.send(0, load);
        x.fall(load, x.gang(load, 0), until);
    }

    // 29
    private static void foretold() {
        PorterTurns x = City.withMen(10, 10);
        due("29: fellowship", x.foretold(4), BAD);
        due("29: fellowship", x.foretold(-1), BAD);
        due("29: nobody to pay", x.foretold(0), NOT);
        x.man(0, 10, 70, 0);
        due("29: nothing to pay", x.foretold(0), NOT);
        x.rates(0, 0, 1);
        due("29: at once", x.foretold(0), 1);
        Check.law(x, 0, PRICE, 0, "999");
        Check.law(x, 0, SHARE, 0, "100");
        x.load(1001, 1, 0, 100);
        x.send(0, 0);
        x.minutes(15);
        due("29: DAY 0 has no mean", x.foretold(0), NOT);
        x.rates(0, 0, 3);
        due("29: 333 days can be paid", x.foretold(0), 334);
        x.rates(0, 0, 9);
        due("29: 111 days can be paid", x.foretold(0), 112);
        x.minutes(600);
        due("29: the mean covers it", x.foretold(0), NOT);
        x.minutes(600);
        x.rates(0, 0, 99);
        // 2 days gone, with 9 paid on each: 981, and 499 a day come in.
        due("29: in the fund", x.fund(0, 0), 981);
        due("29: the mean covers it", x.foretold(0), NOT);
        for (int day = 2; day < 20; day++) {
            x.rates(0, 0, 54);
            x.minutes(600);
        }
        // 20 days: a mean of 49, the rest away; 981 - 18 * 54 = 9 in the fund.
        due("29: in the fund", x.fund(0, 0), 9);
        x.rates(0, 0, 49);
        due("29: the mean, rest away", x.foretold(0), NOT);
        x.rates(0, 0, 50);
        due("29: nine days more", x.foretold(0), 20 + 10);
        x.gone(2);
        due("29: gone ones not", x.foretold(0), NOT);
        x.rates(0, 50, 0);
        x.load(1001, 1, 0, 100);
        x.send(0, 1);
        x.fall(1, x.gang(1, 0), 600 * 29);
        due("29: hurt up to their minute", x.foretold(0), NOT);
        x.load(1001, 1, 0, 100);
        x.send(0, 2);
        x.fall(2, x.gang(2, 0), 600 * 21 + 1);
        due("29: two of them", x.foretold(0), 21);
        foretoldHurt();
        foretoldLimits();
    }

    private static void foretoldHurt() {
        PorterTurns x = City.withMen(10, 10);
        Check.law(x, 0, PRICE, 0, "20");
        Check.law(x, 0, SHARE, 0, "100");
        x.load(1001, 1, 0, 100);
        x.send(0, 0);
        x.minutes(15);
        x.rates(0, 10, 0);
        hurt(x, 1, 1800);
        due("29: DAYS 1 and 2, not DAY 3", x.foretold(0), NOT);
        PorterTurns y = City.withMen(10, 10);
        Check.law(y, 0, PRICE, 0, "20");
        Check.law(y, 0, SHARE, 0, "100");
        y.load(1001, 1, 0, 100);
        y.send(0, 0);
        y.minutes(15);
        y.rates(0, 10, 0);
        hurt(y, 1, 1801);
        due("29: DAY 3 too", y.foretold(0), 3);
        due("29: nothing was paid by asking", y.fund(0, 0), 20);
    }

    private static void foretoldLimits() {
        PorterTurns x = City.withMen(10);
        x.man(0, 10, 70, 0);
        Check.law(x, 0, SHARE, 0, "100");
        Check.law(x, 0, PRICE, 0, "399 if weight = 1; 400");
        x.load(1001, 1, 0, 100);
        x.send(0, 0);
        x.minutes(15);
        x.rates(0, 0, 1);
        due("29: the 400th day", x.foretold(0), 400);
        PorterTurns y = City.withMen(10);
        y.man(0, 10, 70, 0);
        Check.law(y, 0, SHARE, 0, "100");
        Check.law(y, 0, PRICE, 0, "400");
        y.load(1001, 1, 0, 100);
        y.send(0, 0);
        y.minutes(15);
        y.rates(0, 0, 1);
        due("29: the 401st is too far", y.foretold(0), NOT);
        PorterTurns z = City.withMen(10);
        z.man(0, 10, 70, 0);
        Check.law(z, 0, SHARE, 0, "100");
        Check.law(z, 0, PRICE, 0, "99999 * 2");
        for (int i = 0; i < 60; i++) {
            z.load(1001, 1, 0, 9999);
            if (z.send(0, i) != 1) {
                z.join(z.man(0, 10, 30, 0));
                z.send(0, i);
            }
        }
        z.rates(0, 0, 99);
        z.minutes(600);
        due("29: more than an int holds", z.foretold(0), NOT);
    }

    // 30
    private static void fund() {
        PorterTurns x = City.withMen(10);
        due("30: fellowship", x.fund(4, 0), BAD);
        due("30: fellowship", x.fund(-1, 0), BAD);
        due("30: what", x.fund(0, 3), BAD);
        due("30: what", x.fund(0, -1), BAD);
        x.man(0, 10, 80, 0);
        x.rates(0, 0, 30);
        Check.law(x, 0, PRICE, 0, "250");
        Check.law(x, 0, SHARE, 0, "40");
        x.load(1001, 1, 0, 100);
        x.send(0, 0);
        x.minutes(600);
        due("30: in it", x.fund(0, 0), 70);
        due("30: came in", x.fund(0, 1), 100);
        due("30: paid", x.fund(0, 2), 30);
        due("30: another's", x.fund(1, 0), 0);
    }

    // 31
    private static void count() {
        PorterTurns x = City.withMen(10, 10, 10);
        due("31: what", x.count(-1), BAD);
        due("31: what", x.count(12), BAD);
        for (int i = 0; i < 7; i++) {
            x.load(1001 + i, 1, 0, i == 0 ? 24 : 25);
        }
        Check.law(x, 0, PRICE, 0, "weight * 10 + 1");
        x.feed(0, 0, 0, 0, 0);
        x.minutes(10);
        x.send(0, 0);
        x.send(0, 1);
        x.minutes(15);
        x.send(0, 2);
        x.minutes(1);
        x.send(0, 3);
        x.fall(3, -1, 0);
        x.off(4);
        int[] want = {4, 3, 7, 1, 26, 2, 1, 2, 1, 20, 10 + 10 + 25 + 26 + 26 + 26 + 26, 5 + 21};
        for (int what = 0; what < want.length; what++) {
            due("31: count " + what, x.count(what), want[what]);
        }
    }
}
