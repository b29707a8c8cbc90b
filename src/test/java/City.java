/** Cities that tests begin with, and what is often done in them. */
final class City {
    static final int BAD = -1, NOT = -2, FULL = -3, VOID = -2000000000;
    static final int CLAIM = 0, PRICE = 1, GANG = 2, FINE = 3, SHARE = 4;
    /** A DUE that no LOAD of these tests misses. */
    static final int NEVER_LATE = 200000;
    /** Numbers that are no place, man, load, fellowship, what, use or DAY. */
    static final int[] FAR_OFF = {Integer.MIN_VALUE, Integer.MIN_VALUE + 1, -1000, 1000, Integer.MAX_VALUE};

    private City() {
    }

    /** PLACES 0 (0, 0), 1 (10, 0), 2 (0, 10), 3 (99, 99): 0 to 1 takes 15 minutes, without UP. */
    static PorterTurns plain() {
        PorterTurns x = new PorterTurns();
        x.place(0, 0);
        x.place(10, 0);
        x.place(0, 10);
        x.place(99, 99);
        return x;
    }

    /** The plain city with men of FELLOWSHIP 0, of AGE 30, in the row. */
    static PorterTurns withMen(int... strengths) {
        PorterTurns x = plain();
        for (int strength : strengths) {
            man(x, 0, strength, 30);
        }
        return x;
    }

    /** Makes a man, who joins the row; his number. */
    static int man(PorterTurns x, int fellowship, int strength, int age) {
        int man = x.man(fellowship, strength, age, 0);
        x.join(man);
        return man;
    }

    /** A LOAD of COAL from PLACE 0 to 1; its number. */
    static int coal(PorterTurns x, int weight) {
        return x.load(1000 + weight, 1, 0, NEVER_LATE);
    }

    /** Such a LOAD, for which a FELLOWSHIP is sent; its number. */
    static int sent(PorterTurns x, int fellowship, int weight) {
        int load = coal(x, weight);
        x.send(fellowship, load);
        return load;
    }

    /** A LOAD of weight 1 is sent for and falls, its first man is HURT; that man. */
    static int hurt(PorterTurns x, int fellowship, int until) {
        int load = sent(x, fellowship, 1);
        int man = x.gang(load, 0);
        x.fall(load, man, until);
        return man;
    }

    /** Brings coins into the FUND of a FELLOWSHIP that has a man in the row; 15 MINUTES go by. */
    static void fill(PorterTurns x, int fellowship, int coins) {
        Check.law(x, fellowship, PRICE, 0, String.valueOf(coins));
        Check.law(x, fellowship, SHARE, 0, "100");
        sent(x, fellowship, 1);
        x.minutes(15);
    }

    /** What a TEXT gives FELLOWSHIP 3, as its FINE, which nothing else in a test should need. */
    static int giving(PorterTurns x, String text, int load, int man) {
        Check.law(x, 3, FINE, 0, text);
        return x.says(3, FINE, load, man);
    }
}
