import java.util.ArrayList;
import java.util.List;
import java.util.function.Supplier;
import java.util.function.ToIntFunction;

/**
 * "What is answered so changes nothing": of each call that is refused, all that can be asked afterwards, and all that
 * happens later, is held against another object that was never asked.
 */
final class RefusedEdges {
    private static final int BAD = City.BAD, NOT = City.NOT, FULL = City.FULL;
    private static final String NOTHING = "What is answered so changes nothing.";

    private RefusedEdges() {
    }

    static void run() {
        lookIsSharp();
        city();
        citiesThatAreFull();
        men();
        laws();
        lawsThatAreFull();
        loads();
        sends();
        falls();
        minutesAndRates();
        askingIsNoChange();
    }

    // ---- scenes

    /** Loads in each STATE and for each WHY, men on the way, HURT and gone, dice, rain, water, and a TEXT on THE TAPE. */
    private static PorterTurns busy() {
        PorterTurns x = City.withMen(10, 10, 10);
        City.man(x, 0, 10, 75);
        for (int man = 4; man <= 6; man++) {
            City.man(x, 1, 10, 30);
        }
        x.gone(x.man(1, 10, 30, 0));
        x.dice(1, 1, 7);
        x.rates(0, 2, 3);
        x.tide(2, 10, 300);
        x.rain(20, 60);
        Check.law(x, 0, City.PRICE, 0, "60 + far");
        Check.law(x, 0, City.SHARE, 0, "20");
        Check.law(x, 0, City.FINE, 0, "3");
        Check.law(x, 2, City.CLAIM, 0, "weight > 499 if weight < 502");
        Check.law(x, 3, City.CLAIM, 0, "weight = 500");
        City.sent(x, 0, 1);
        x.minutes(15);
        City.hurt(x, 0, 700);
        x.minutes(5);
        City.sent(x, 0, 40);
        x.off(City.coal(x, 1));
        City.coal(x, 500);
        City.coal(x, 501);
        x.load(1001, 200, 0, 0);
        x.load(1, 1, 0, 0);
        City.coal(x, 999);
        City.coal(x, 1);
        Check.tape(x, "77 + 1");
        return x;
    }

    private static PorterTurns fullOfPlaces() {
        PorterTurns x = City.withMen(10, 10);
        while (x.count(0) < 20) {
            x.place(1, 1);
        }
        return x;
    }

    private static PorterTurns fullOfRain() {
        PorterTurns x = City.withMen(10, 10);
        for (int i = 0; i < 20; i++) {
            x.rain(100 + i, 102 + i);
        }
        return x;
    }

    private static PorterTurns fullOfMen() {
        PorterTurns x = City.withMen(10, 10);
        for (int man = 2; man < 60; man++) {
            x.man(man % 4, 10, 70, 0);
        }
        return x;
    }

    private static PorterTurns fullOfLoads() {
        PorterTurns x = City.withMen(10, 10);
        for (int load = 0; load < 200; load++) {
            City.coal(x, 1);
        }
        return x;
    }

    private static PorterTurns fullOfLaws() {
        PorterTurns x = City.withMen(10, 10);
        City.coal(x, 1);
        for (int law = 0; law < 40; law++) {
            Check.law(x, law % 4, law % 5, 0, "2");
        }
        Check.tape(x, "9 + 9");
        return x;
    }

    private static PorterTurns fullTape() {
        PorterTurns x = City.withMen(10, 10);
        Check.tape(x, "1+".repeat(90) + "1");
        return x;
    }

    private static PorterTurns late() {
        PorterTurns x = City.withMen(10, 10);
        x.man(0, 10, 70, 0);
        City.fill(x, 0, 900);
        x.rates(0, 1, 2);
        Check.passTo(x, 99500);
        City.sent(x, 0, 1);
        return x;
    }

    // ---- looking at all there is

    /** All answers that can be had: first by asking, then by what comes later. */
    private static List<Integer> look(PorterTurns x) {
        List<Integer> seen = new ArrayList<>();
        lookAtMen(x, seen);
        lookAtLoads(x, seen);
        lookAtFellowships(x, seen);
        for (int what = 0; what <= 11; what++) {
            seen.add(x.count(what));
        }
        lookAtTape(x, seen);
        lookAhead(x, seen);
        return seen;
    }

    private static void lookAtMen(PorterTurns x, List<Integer> seen) {
        for (int man = 0; man < 8; man++) {
            for (int what = 3; what <= 9; what++) {
                seen.add(x.about(man, what));
            }
        }
    }

    private static void lookAtLoads(PorterTurns x, List<Integer> seen) {
        for (int load = 0; load < 10; load++) {
            for (int what = 6; what <= 12; what++) {
                seen.add(x.told(load, what));
            }
            seen.add(x.gang(load, 0));
            seen.add(x.whose(load));
            seen.add(x.why(0, load));
        }
    }

    private static void lookAtFellowships(PorterTurns x, List<Integer> seen) {
        for (int f = 0; f <= 3; f++) {
            for (int i = 0; i < 4; i++) {
                seen.add(x.turn(f, i));
            }
            for (int what = 0; what <= 2; what++) {
                seen.add(x.fund(f, what));
            }
            for (int use = 0; use <= 4; use++) {
                seen.add(x.inForce(f, use, 166, 166));
            }
            seen.add(x.foretold(f));
        }
    }

    private static void lookAtTape(PorterTurns x, List<Integer> seen) {
        seen.add(x.law(2, City.FINE, 0));
        seen.add(x.says(2, City.FINE, 0, 0));
    }

    /** Dice, rain, water, HELP and PENSION show only in what they do. */
    private static void lookAhead(PorterTurns x, List<Integer> seen) {
        for (int f = 0; f <= 1; f++) {
            seen.add(x.send(f, x.load(1041, 1, 0, 0)));
            for (int i = 0; i < 2; i++) {
                seen.add(x.gang(x.count(2) - 1, i));
            }
        }
        for (int i = 0; i < 6; i++) {
            seen.add(x.way(0, 1, 2));
            for (int load : new int[] {4, 6, 7, 9}) {
                seen.add(x.why(0, load));
            }
            seen.add(x.minutes(i < 5 ? 20 : 600));
        }
        for (int man = 0; man < 8; man++) {
            seen.add(x.about(man, 3));
        }
        for (int f = 0; f <= 3; f++) {
            seen.add(x.dice(f, 0, 0));
        }
        seen.add(x.rain(99998, 99999));
        seen.add(x.man(0, 1, 16, 0));
        seen.add(x.place(0, 0));
    }

    // ---- holding

    private static void refused(int promise, String call, Supplier<PorterTurns> scene, int answer,
            ToIntFunction<PorterTurns> refusing) {
        Check.sentence(promise, NOTHING);
        PorterTurns asked = scene.get();
        Check.due(call, refusing.applyAsInt(asked), answer);
        Check.due("all is as it was after " + call, look(asked).equals(look(scene.get())) ? 1 : 0, 1);
    }

    private static void busy(int promise, String call, int answer, ToIntFunction<PorterTurns> refusing) {
        refused(promise, call, RefusedEdges::busy, answer, refusing);
    }

    private static void noticed(String call, ToIntFunction<PorterTurns> changing) {
        PorterTurns changed = busy();
        int answer = changing.applyAsInt(changed);
        Check.due(call + " is not refused", answer >= 0 ? 1 : 0, 1);
        Check.due(call + " can be seen", look(changed).equals(look(busy())) ? 1 : 0, 0);
    }

    /** That the look would see it, were it not as it was: each call that is not refused shows. */
    private static void lookIsSharp() {
        Check.sentence(1, NOTHING);
        noticed("place", x -> x.place(0, 0));
        noticed("tide", x -> x.tide(2, 10, 40));
        noticed("a tide to come", x -> x.tide(0, 25, 60));
        noticed("rain", x -> x.rain(70, 90));
        noticed("a span of rain that changes nothing else", x -> x.rain(20, 21));
        noticed("man", x -> x.man(0, 10, 30, 0));
        noticed("leave", x -> x.leave(0));
        noticed("leave and join", x -> x.leave(3) + x.join(3));
        noticed("gone", x -> x.gone(4));
        noticed("dice instead of the list", x -> x.dice(0, 1, 7));
        noticed("the list instead of dice", x -> x.dice(1, 0, 7));
        noticed("another z", x -> x.dice(1, 1, 8));
        noticed("feed", x -> x.feed(0, 0, 0, 0, 0));
        noticed("end", x -> x.end(5));
        noticed("another byte on THE TAPE", x -> Check.tape(x, "77 + 2"));
        noticed("law", x -> x.law(1, 1, 166));
        noticed("load", x -> x.load(1001, 1, 0, 0));
        noticed("send", x -> x.send(0, 9));
        noticed("off", x -> x.off(9));
        noticed("fall", x -> x.fall(2, -1, 0));
        noticed("minutes", x -> x.minutes(1));
        noticed("another HELP", x -> x.rates(0, 1, 3));
        noticed("another PENSION", x -> x.rates(0, 2, 4));
    }

    private static void city() {
        busy(2, "place(100, 0)", BAD, x -> x.place(100, 0));
        busy(2, "place(0, -1)", BAD, x -> x.place(0, -1));
        busy(3, "tide(4, 0, 600)", BAD, x -> x.tide(4, 0, 600));
        busy(3, "tide(-1, 0, 600)", BAD, x -> x.tide(-1, 0, 600));
        busy(3, "tide(0, -1, 600)", BAD, x -> x.tide(0, -1, 600));
        busy(3, "tide(0, 0, 601)", BAD, x -> x.tide(0, 0, 601));
        busy(3, "tide(2, 300, 299)", BAD, x -> x.tide(2, 300, 299));
        busy(4, "rain(19, 900)", BAD, x -> x.rain(19, 900));
        busy(4, "rain(70, 70)", BAD, x -> x.rain(70, 70));
        busy(4, "rain(70, 100001)", BAD, x -> x.rain(70, 100001));
        busy(5, "way(0, 0, 2)", BAD, x -> x.way(0, 0, 2));
    }

    private static void citiesThatAreFull() {
        refused(2, "place(0, 0)", RefusedEdges::fullOfPlaces, FULL, x -> x.place(0, 0));
        refused(4, "rain(0, 90)", RefusedEdges::fullOfRain, FULL, x -> x.rain(0, 90));
        refused(6, "man(0, 1, 70, 0)", RefusedEdges::fullOfMen, FULL, x -> x.man(0, 1, 70, 0));
        refused(13, "feed(0, 0, 0, 0, 0)", RefusedEdges::fullTape, FULL, x -> x.feed(0, 0, 0, 0, 0));
        refused(18, "load(4999, 100, 1, 1)", RefusedEdges::fullOfLoads, FULL, x -> x.load(4999, 100, 1, 1));
    }

    private static void men() {
        busy(6, "man(4, 1, 16, 0)", BAD, x -> x.man(4, 1, 16, 0));
        busy(6, "man(0, 0, 16, 0)", BAD, x -> x.man(0, 0, 16, 0));
        busy(6, "man(0, 1, 91, 0)", BAD, x -> x.man(0, 1, 91, 0));
        busy(6, "man(0, 1, 16, 4)", BAD, x -> x.man(0, 1, 16, 4));
        busy(7, "join(8)", BAD, x -> x.join(8));
        busy(7, "join of one in the row", NOT, x -> x.join(3));
        busy(7, "join of one on the way", NOT, x -> x.join(2));
        busy(7, "join of one that is gone", NOT, x -> x.join(7));
        busy(8, "leave(8)", BAD, x -> x.leave(8));
        busy(8, "leave of one on the way", NOT, x -> x.leave(2));
        busy(8, "leave of one that is gone", NOT, x -> x.leave(7));
        busy(9, "gone(8)", BAD, x -> x.gone(8));
        busy(9, "gone of one on the way", NOT, x -> x.gone(2));
        busy(9, "gone of one that is gone", NOT, x -> x.gone(7));
        busy(10, "about(8, 0)", -2, x -> x.about(8, 0));
        busy(10, "about(0, 10)", -2, x -> x.about(0, 10));
        busy(11, "turn(0, 9)", BAD, x -> x.turn(0, 9));
        busy(12, "dice(4, 1, 9)", BAD, x -> x.dice(4, 1, 9));
        busy(12, "dice(0, 2, 9)", BAD, x -> x.dice(0, 2, 9));
        busy(12, "dice(1, 2, 9)", BAD, x -> x.dice(1, 2, 9));
        busy(12, "dice(1, -1, 9)", BAD, x -> x.dice(1, -1, 9));
    }

    private static void laws() {
        busy(14, "end(-1)", BAD, x -> x.end(-1));
        busy(14, "end(7)", BAD, x -> x.end(7));
        busy(15, "law(4, 0, 0)", BAD, x -> x.law(4, 0, 0));
        busy(15, "law(0, 5, 0)", BAD, x -> x.law(0, 5, 0));
        busy(15, "law(0, 0, 167)", BAD, x -> x.law(0, 0, 167));
        busy(16, "inForce(0, 0, 167, 0)", BAD, x -> x.inForce(0, 0, 167, 0));
        busy(16, "inForce(3, 1, 0, 0)", NOT, x -> x.inForce(3, 1, 0, 0));
        busy(17, "says(0, 0, 10, 0)", City.VOID, x -> x.says(0, 0, 10, 0));
    }

    private static void lawsThatAreFull() {
        refused(15, "law(0, 0, 0)", RefusedEdges::fullOfLaws, FULL, x -> x.law(0, 0, 0));
        refused(15, "law(0, 0, 0) with a FAULT", () -> {
            PorterTurns x = fullOfLaws();
            x.end(3);
            return x;
        }, FULL, x -> x.law(0, 0, 0));
    }

    private static void loads() {
        busy(18, "load(1000, 1, 0, 0)", BAD, x -> x.load(1000, 1, 0, 0));
        busy(18, "load(5001, 1, 0, 0)", BAD, x -> x.load(5001, 1, 0, 0));
        busy(18, "load(1001, 0, 0, 0)", BAD, x -> x.load(1001, 0, 0, 0));
        busy(18, "load(1001, 4, 0, 0)", BAD, x -> x.load(1001, 4, 0, 0));
        busy(18, "load(1001, 1, 10000, 0)", BAD, x -> x.load(1001, 1, 10000, 0));
        busy(18, "load(1001, 1, 0, 200001)", BAD, x -> x.load(1001, 1, 0, 200001));
        busy(19, "whose(10)", BAD, x -> x.whose(10));
        busy(20, "why(4, 9)", BAD, x -> x.why(4, 9));
        busy(22, "off(10)", BAD, x -> x.off(10));
        for (int load = 0; load <= 3; load++) {
            int which = load;
            busy(22, "off(" + load + ")", NOT, x -> x.off(which));
        }
        busy(24, "told(10, 0)", -2, x -> x.told(10, 0));
        busy(25, "gang(9, 0)", BAD, x -> x.gang(9, 0));
        busy(27, "judged(4, 2, 2, 0)", BAD, x -> x.judged(4, 2, 2, 0));
        busy(27, "judged(4, 0, 1, 0)", NOT, x -> x.judged(4, 0, 1, 0));
    }

    private static void sends() {
        busy(21, "send(4, 9)", BAD, x -> x.send(4, 9));
        busy(21, "send(0, 10)", BAD, x -> x.send(0, 10));
        int[] loads = {0, 1, 2, 3, 4, 5, 6, 7, 8};
        int[] answers = {-11, -11, -11, -11, -12, -13, -14, -15, -16};
        for (int i = 0; i < loads.length; i++) {
            int load = loads[i];
            busy(21, "send(0, " + load + ")", answers[i], x -> x.send(0, load));
            busy(21, "send(1, " + load + ") by dice", answers[i], x -> x.send(1, load));
        }
    }

    private static void falls() {
        busy(23, "fall(10, -1, 0)", BAD, x -> x.fall(10, -1, 0));
        busy(23, "fall of one not of the GANG", BAD, x -> x.fall(2, 0, 900));
        busy(23, "fall with until 200001", BAD, x -> x.fall(2, 2, 200001));
        busy(23, "fall with until -1", BAD, x -> x.fall(2, 2, -1));
        busy(23, "fall of one THERE", NOT, x -> x.fall(0, -1, 0));
        busy(23, "fall of one THERE, a man of it", NOT, x -> x.fall(0, 0, 900));
        busy(23, "fall of one FALLEN", NOT, x -> x.fall(1, -1, 0));
        busy(23, "fall of one FALLEN, a man of it", NOT, x -> x.fall(1, 1, 900));
        busy(23, "fall of one taken off", NOT, x -> x.fall(3, -1, 0));
        busy(23, "fall of one on the BOARD", NOT, x -> x.fall(9, -1, 0));
    }

    private static void minutesAndRates() {
        busy(26, "minutes(0)", BAD, x -> x.minutes(0));
        busy(26, "minutes(601)", BAD, x -> x.minutes(601));
        refused(26, "minutes(500) beyond 99999", RefusedEdges::late, BAD, x -> x.minutes(500));
        refused(26, "minutes(600) beyond 99999", RefusedEdges::late, BAD, x -> x.minutes(600));
        busy(28, "rates(4, 9, 9)", BAD, x -> x.rates(4, 9, 9));
        busy(28, "rates(0, 100, 9)", BAD, x -> x.rates(0, 100, 9));
        busy(28, "rates(0, 9, -1)", BAD, x -> x.rates(0, 9, -1));
        busy(29, "foretold(4)", BAD, x -> x.foretold(4));
        busy(30, "fund(0, 3)", BAD, x -> x.fund(0, 3));
        busy(31, "count(12)", BAD, x -> x.count(12));
    }

    /** Of promises that only ask: asking twice is as good as asking once. */
    private static void askingIsNoChange() {
        Check.sentence(20, "(No dice are thrown by this");
        PorterTurns asked = busy();
        for (int load = 0; load < 10; load++) {
            asked.why(1, load);
            asked.whose(load);
            asked.judged(load, 2, 3, 0);
            asked.says(1, City.PRICE, load, 4);
        }
        asked.foretold(0);
        asked.way(0, 1, 2);
        Check.due("all is as it was after asking", look(asked).equals(look(busy())) ? 1 : 0, 1);
    }
}
