import java.nio.charset.StandardCharsets;
import java.util.Random;

/** Runs of 512 calls by chance (of a told seed), each answer held against that of the plain model. */
public final class RandomRunsTest {
    private static final int RUNS = 1500;
    private static final int CALLS = 512;
    /** A step makes no more calls than these. */
    private static final int CALLS_OF_A_STEP = 3;

    private final Random random;
    private final RandomTexts texts;
    private final PorterTurns x = new PorterTurns();
    private final PlainModel model;
    private final int seed;
    private int calls = 0;
    private byte[] pending = new byte[0];
    private int fed = 0;
    /** How often a number is chosen that may well be wrong: one in so many times. */
    private final int wrongness;
    private final int stride;

    private RandomRunsTest(int seed, Grammar grammar) {
        this.seed = seed;
        random = new Random(seed);
        texts = new RandomTexts(random);
        model = new PlainModel(grammar);
        wrongness = seed % 5 == 0 ? 6 : 60;
        stride = seed % 3 == 0 ? 600 : seed % 3 == 1 ? 40 : 150;
    }

    public static void main(String[] args) {
        Grammar grammar = new Grammar();
        for (int seed = 1; seed <= RUNS; seed++) {
            new RandomRunsTest(seed, grammar).run();
        }
        Check.finish();
    }

    private void run() {
        for (int i = 0; i < 3; i++) {
            callPlace();
        }
        for (int i = 0; i < 8 + seed % 30; i++) {
            callMan();
            due("join", x.join(i), model.join(i));
        }
        while (calls + CALLS_OF_A_STEP <= CALLS) {
            step();
        }
    }

    private void due(String call, int got, int want) {
        calls++;
        Check.due("seed " + seed + ", call " + calls + ", " + call, got, want);
    }

    /** A number from least to most, but now and then one about or far beyond them. */
    private int pick(int least, int most) {
        if (random.nextInt(wrongness) == 0) {
            int form = random.nextInt(6);
            return form == 0 ? least - 1 : form == 1 ? most + 1 : form == 2 ? Integer.MIN_VALUE
                    : form == 3 ? Integer.MAX_VALUE : form == 4 ? -random.nextInt(1000) : random.nextInt();
        }
        return most <= least ? least : (int) (least + random.nextLong(0, (long) most - least + 1));
    }

    private int fellowship() {
        return random.nextInt(3) > 0 ? seed % 4 : pick(0, 3);
    }

    private int aMan() {
        return pick(0, model.count(1) - 1);
    }

    private int aPlace() {
        return pick(0, model.count(0) - 1);
    }

    private int aLoad() {
        int loads = model.count(2);
        return random.nextInt(3) > 0 ? pick(Math.max(0, loads - 6), loads - 1) : pick(0, loads - 1);
    }

    private void step() {
        if (fed < pending.length) {
            feedOn();
            return;
        }
        int form = random.nextInt(100);
        if (form < 10) {
            callMinutes();
        } else if (form < 24) {
            callLoad();
        } else if (form < 44) {
            callSend();
        } else if (form < 52) {
            callLaw();
        } else if (form < 70) {
            askOfMenAndLoads();
        } else if (form < 84) {
            askOfTheRest();
        } else {
            changeSomething();
        }
    }

    private void feedOn() {
        int a = Check.four(pending, fed), b = Check.four(pending, fed + 4), c = Check.four(pending, fed + 8);
        int d = Check.four(pending, fed + 12), e = Check.four(pending, fed + 16);
        due("feed", x.feed(a, b, c, d, e), model.feed(a, b, c, d, e));
        fed += 20;
        if (fed >= pending.length) {
            int n = random.nextInt(20) == 0 ? pick(0, 200) : pending.length;
            due("end " + n, x.end(n), model.end(n));
            pass(fellowship(), pick(0, 4), model.count(4) / 600 + pick(-1, 1));
        }
    }

    private void pass(int f, int use, int from) {
        due("law " + f + " " + use + " " + from + " '" + new String(pending, StandardCharsets.ISO_8859_1) + "'",
                x.law(f, use, from), model.law(f, use, from));
    }

    private void callLaw() {
        due("end 0", x.end(0), model.end(0));
        String text = random.nextInt(6) == 0 ? texts.doubtful() : random.nextInt(4) == 0 ? texts.sound() : usual();
        pending = text.getBytes(StandardCharsets.ISO_8859_1);
        fed = 0;
    }

    /** A text such as a FELLOWSHIP would have: of not too great numbers. */
    private String usual() {
        String[] forms = {"1 if kind = 2", "(kind = 1 and weight > 500)", "1 + (far + up) * 2", "min(weight, 300) / 3",
            "men / 2", "2", "strength / 5 + late", "worked / 9 if age > 50; 4", "10 + hour * 5", "100", "0",
            "30 if rain; 10 if day > 2; value / 200", "weight / 100", "(weight > 400) * 3", "1 if weight > 900; 0 - 1 if "
            + "kind = 3", "value * men", "0 if men > 3; kind + 1"};
        return forms[random.nextInt(forms.length)];
    }

    private void callPlace() {
        int a = pick(0, random.nextBoolean() ? 99 : 20), b = pick(0, random.nextBoolean() ? 99 : 10);
        due("place " + a + " " + b, x.place(a, b), model.place(a, b));
    }

    private void callMan() {
        int f = fellowship(), strength = pick(1, 99), age = pick(16, 90), house = aPlace();
        due("man " + f + " " + strength + " " + age + " " + house, x.man(f, strength, age, house),
                model.man(f, strength, age, house));
    }

    private void callMinutes() {
        int n = pick(1, stride);
        due("minutes " + n, x.minutes(n), model.minutes(n));
    }

    private void callLoad() {
        int what = pick(0, 4) * 1000 + pick(1, random.nextBoolean() ? 999 : 200), where = aPlace() * 100 + aPlace();
        int value = pick(0, 9999), due = random.nextBoolean() ? model.count(4) + random.nextInt(100) : pick(0, 200000);
        due("load " + what + " " + where + " " + value + " " + due, x.load(what, where, value, due),
                model.load(what, where, value, due));
    }

    private void callSend() {
        int f = fellowship(), load = aLoad();
        if (random.nextInt(4) == 0) {
            due("why " + f + " " + load, x.why(f, load), model.why(f, load));
        }
        due("send " + f + " " + load, x.send(f, load), model.send(f, load));
        if (random.nextInt(4) == 0) {
            int hurt = random.nextInt(3) == 0 ? -1 : random.nextInt(10) == 0 ? aMan() : model.gang(load, 0);
            int until = random.nextInt(8) == 0 ? pick(0, 200000) : model.count(4) + random.nextInt(2000);
            due("fall " + load + " " + hurt + " " + until, x.fall(load, hurt, until), model.fall(load, hurt, until));
        }
    }

    private void askOfMenAndLoads() {
        int man = aMan(), load = aLoad(), f = fellowship(), what = pick(0, 12), i = pick(0, 7);
        switch (random.nextInt(6)) {
            case 0: case 1: due("about " + man + " " + what, x.about(man, what), model.about(man, what)); break;
            case 2: case 3: due("told " + load + " " + what, x.told(load, what), model.told(load, what)); break;
            case 4: due("gang " + load + " " + i, x.gang(load, i), model.gang(load, i)); break;
            default: due("turn " + f + " " + i, x.turn(f, i), model.turn(f, i)); break;
        }
    }

    private void askOfTheRest() {
        int f = fellowship(), g = pick(0, 3), use = pick(0, 4), load = random.nextInt(6) == 0 ? -1 : aLoad();
        int today = model.count(4) / 600, day = pick(0, today + 1), k = pick(0, today + 1), what = pick(0, 11);
        int man = random.nextInt(3) == 0 ? -1 : aMan(), a = aPlace(), b = aPlace(), which = pick(0, 2);
        switch (random.nextInt(8)) {
            case 0: due("inForce", x.inForce(f, use, day, k), model.inForce(f, use, day, k)); break;
            case 1: due("says", x.says(f, use, load, man), model.says(f, use, load, man)); break;
            case 2: due("whose", x.whose(load), model.whose(load)); break;
            case 3: due("judged", x.judged(load, f, g, k), model.judged(load, f, g, k)); break;
            case 4: due("foretold", x.foretold(f), model.foretold(f)); break;
            case 5: due("fund", x.fund(f, which), model.fund(f, which)); break;
            case 6: due("way", x.way(a, b, which), model.way(a, b, which)); break;
            default: due("count " + what, x.count(what), model.count(what)); break;
        }
    }

    private void changeSomething() {
        int man = aMan(), load = aLoad(), f = fellowship(), now = model.count(4);
        int from = random.nextInt(3) == 0 ? pick(0, 600) : now % 600, to = pick(from, 600);
        int wet = random.nextInt(3) == 0 ? pick(0, 99999) : now, dry = wet + pick(1, 60);
        switch (random.nextInt(12)) {
            case 0: callPlace(); break;
            case 1: callMan(); break;
            case 2: case 3: due("join " + man, x.join(man), model.join(man)); break;
            case 4: due("leave " + man, x.leave(man), model.leave(man)); break;
            case 5: if (random.nextInt(3) == 0) due("gone " + man, x.gone(man), model.gone(man)); break;
            case 6: due("off " + load, x.off(load), model.off(load)); break;
            case 7: {
                int place = aPlace();
                due("tide", x.tide(place, from, to), model.tide(place, from, to));
                break;
            }
            case 8: due("rain " + wet + " " + dry, x.rain(wet, dry), model.rain(wet, dry)); break;
            case 9: {
                int is = pick(0, 1), z = random.nextInt();
                due("dice", x.dice(f, is, z), model.dice(f, is, z));
                break;
            }
            case 10: {
                int help = pick(0, random.nextBoolean() ? 99 : 3), pension = pick(0, random.nextBoolean() ? 99 : 3);
                due("rates", x.rates(f, help, pension), model.rates(f, help, pension));
                break;
            }
            default: due("fall " + load, x.fall(load, -1, 0), model.fall(load, -1, 0)); break;
        }
    }
}
