import java.util.ArrayList;
import java.util.Arrays;

/**
 * The turns of a city's porters, as ../shared/DOC.md promises them. Words in capitals, here and below,
 * are the document's own terms.
 */
public final class PorterTurns {
    public static final int BAD = -1, NOT = -2, FULL = -3, VOID = -2000000000;

    private static final int DAY_MINUTES = 600;
    private static final int LAST_MINUTE = 99999;
    private static final int LAST_DAY = 166;
    private static final int LATEST_TOLD = 200000;

    private static final int PLACES_MOST = 20;
    private static final int SPANS_MOST = 20;
    private static final int FELLOWSHIPS = 4;
    private static final int MEN_MOST = 60;
    private static final int LOADS_MOST = 200;
    private static final int LAWS_MOST = 40;
    private static final int TAPE_MOST = 200;
    private static final int FED_BYTES = 20;
    private static final int GANG_MOST = 8;
    private static final int OPEN_MOST = 12;
    private static final int DAYS_FORETOLD = 400;

    private static final int CLAIM = 0, PRICE = 1, GANG = 2, FINE = 3, SHARE = 4;
    private static final int ON_BOARD = 0, CARRIED = 1, THERE = 2, FALLEN = 3, TAKEN_OFF = 4;
    private static final int KIND_CORN = 0, KIND_LAST = 4;
    private static final int ANYBODYS = 4, DISPUTE = 5;

    /** The answer of about and told to what is BAD, since -1 means something there. */
    private static final int BAD_THERE = -2;

    private final ArrayList<Place> places;
    private final ArrayList<Man> men;
    private final ArrayList<Load> loads;
    private final ArrayList<Law> laws;
    private final ArrayList<Fellowship> fellowships;
    private final Sky sky;
    private final Tape tape;
    private final Reader reader;
    private final Reckoner reckoner;

    /** Lists that calls fill and use again, so that a call makes none. */
    private final ArrayList<Man> chosen;
    private final ArrayList<Man> candidates;

    private int minute;

    /** What z has become while a GANG was chosen; it counts only if they go. */
    private int thrown;

    public PorterTurns() {
        places = new ArrayList<>();
        men = new ArrayList<>();
        loads = new ArrayList<>();
        laws = new ArrayList<>();
        fellowships = new ArrayList<>();
        for (int i = 0; i < FELLOWSHIPS; i++) {
            fellowships.add(new Fellowship(i));
        }
        sky = new Sky();
        tape = new Tape();
        reader = new Reader();
        reckoner = new Reckoner();
        chosen = new ArrayList<>();
        candidates = new ArrayList<>();
    }

    // ---- the city

    public int place(int x, int stairs) {
        if (!within(x, 0, 99) || !within(stairs, 0, 99)) {
            return BAD;
        }
        if (places.size() >= PLACES_MOST) {
            return FULL;
        }
        places.add(new Place(places.size(), x, stairs));
        return places.size() - 1;
    }

    public int tide(int place, int from, int to) {
        Place wet = placeAt(place);
        if (wet == null || from < 0 || from > to || to > DAY_MINUTES) {
            return BAD;
        }
        wet.waterFrom = from;
        wet.waterTo = to;
        return 1;
    }

    public int rain(int from, int to) {
        if (from < minute || from >= to || to > LAST_MINUTE + 1) {
            return BAD;
        }
        if (sky.spans >= SPANS_MOST) {
            return FULL;
        }
        sky.addSpan(from, to);
        return sky.spans;
    }

    public int way(int a, int b, int what) {
        Place start = placeAt(a);
        Place goal = placeAt(b);
        if (start == null || goal == null || a == b) {
            return BAD;
        }
        switch (what) {
            case 0: return start.farTo(goal);
            case 1: return start.upTo(goal);
            case 2: return wayMinutes(start, goal);
            default: return BAD;
        }
    }

    // ---- men

    public int man(int fellowship, int strength, int age, int house) {
        if (fellowshipAt(fellowship) == null || !within(strength, 1, 99) || !within(age, 16, 90)
                || placeAt(house) == null) {
            return BAD;
        }
        if (men.size() >= MEN_MOST) {
            return FULL;
        }
        // The house is not kept: no promise ever asks for it again.
        men.add(new Man(men.size(), fellowship, strength, age));
        return men.size() - 1;
    }

    public int join(int man) {
        Man who = manAt(man);
        Fellowship his = fellowshipOf(who);
        if (who == null || his == null) {
            return BAD;
        }
        if (his.placeInRow(man) >= 0 || !who.freeAt(minute) || who.hasGone) {
            return NOT;
        }
        his.row.add(who);
        return his.row.size();
    }

    public int leave(int man) {
        Fellowship his = fellowshipOf(manAt(man));
        if (his == null) {
            return BAD;
        }
        return his.dropFromRow(man) ? 1 : NOT;
    }

    public int gone(int man) {
        Man who = manAt(man);
        Fellowship his = fellowshipOf(who);
        if (who == null || his == null) {
            return BAD;
        }
        if (who.hasGone || !who.freeAt(minute)) {
            return NOT;
        }
        who.hasGone = true;
        his.dropFromRow(man);
        return 1;
    }

    public int about(int man, int what) {
        Man who = manAt(man);
        Fellowship his = fellowshipOf(who);
        if (who == null || his == null) {
            return BAD_THERE;
        }
        switch (what) {
            case 0: return who.fellowship;
            case 1: return who.strength;
            case 2: return who.age;
            case 3: return who.coins;
            case 4: return who.hours;
            case 5: return who.freeFrom;
            case 6: return who.hurtTo;
            case 7: return his.placeInRow(man);
            case 8: return who.hasGone ? 1 : 0;
            case 9: return who.underWayWith;
            default: return BAD_THERE;
        }
    }

    public int turn(int fellowship, int i) {
        Fellowship asked = fellowshipAt(fellowship);
        if (asked == null || i < 0 || i >= asked.row.size()) {
            return BAD;
        }
        return asked.row.get(i).number;
    }

    public int dice(int fellowship, int is, int z) {
        Fellowship asked = fellowshipAt(fellowship);
        if (asked == null || !within(is, 0, 1)) {
            return BAD;
        }
        int before = asked.byDice ? 1 : 0;
        asked.byDice = is == 1;
        if (asked.byDice) {
            asked.z = z;
        }
        return before;
    }

    // ---- by-laws

    public int feed(int a, int b, int c, int d, int e) {
        if (tape.length + FED_BYTES > TAPE_MOST) {
            return FULL;
        }
        tape.addBytes(a);
        tape.addBytes(b);
        tape.addBytes(c);
        tape.addBytes(d);
        tape.addBytes(e);
        return tape.length;
    }

    public int end(int n) {
        if (!within(n, 0, tape.length)) {
            return BAD;
        }
        tape.length = n;
        return n;
    }

    public int law(int fellowship, int use, int from) {
        if (fellowshipAt(fellowship) == null || !isUse(use) || !isDay(from)) {
            return BAD;
        }
        if (laws.size() >= LAWS_MOST) {
            return FULL;
        }
        int fault = reader.read(tape);
        tape.length = 0;
        if (fault >= 0) {
            return -100 - fault;
        }
        laws.add(new Law(laws.size(), fellowship, use, today(), from, reader.stepsRead()));
        return laws.size() - 1;
    }

    public int inForce(int fellowship, int use, int day, int k) {
        if (fellowshipAt(fellowship) == null || !isUse(use) || !isDay(day) || !isDay(k)) {
            return BAD;
        }
        Law found = lawKnown(fellowship, use, day, k);
        return found == null ? NOT : found.number;
    }

    public int says(int fellowship, int use, int load, int man) {
        Load which = loadAt(load);
        Man who = manAt(man);
        if (fellowshipAt(fellowship) == null || !isUse(use) || which == null && load != -1
                || who == null && man != -1) {
            return VOID;
        }
        return saying(fellowship, use, which, who);
    }

    // ---- loads

    public int load(int what, int places, int value, int due) {
        Place from = placeAt(places / 100);
        Place to = placeAt(places % 100);
        if (what < 0 || what / 1000 > KIND_LAST || what % 1000 == 0 || places < 0 || from == null || to == null
                || from.number == to.number || !within(value, 0, 9999) || !within(due, 0, LATEST_TOLD)) {
            return BAD;
        }
        if (loads.size() >= LOADS_MOST) {
            return FULL;
        }
        loads.add(new Load(loads.size(), what, from, to, value, due, minute));
        return loads.size() - 1;
    }

    public int whose(int load) {
        Load asked = loadAt(load);
        return asked == null ? BAD : ownerOf(asked);
    }

    public int why(int fellowship, int load) {
        Fellowship asked = fellowshipAt(fellowship);
        Load wanted = loadAt(load);
        if (asked == null || wanted == null) {
            return BAD;
        }
        int reason = hindrance(asked, wanted);
        if (reason == 0 && !chooseGang(asked, wanted, false)) {
            reason = 6;
        }
        return reason;
    }

    public int send(int fellowship, int load) {
        Fellowship asked = fellowshipAt(fellowship);
        Load wanted = loadAt(load);
        if (asked == null || wanted == null) {
            return BAD;
        }
        int reason = hindrance(asked, wanted);
        if (reason == 0 && !chooseGang(asked, wanted, asked.byDice)) {
            reason = 6;
        }
        if (reason != 0) {
            return -10 - reason;
        }
        asked.z = thrown;
        setOut(asked, wanted);
        return wanted.carriers.size();
    }

    public int off(int load) {
        Load asked = loadAt(load);
        if (asked == null) {
            return BAD;
        }
        if (asked.state != ON_BOARD) {
            return NOT;
        }
        asked.state = TAKEN_OFF;
        asked.leftBoard = minute;
        return 1;
    }

    public int fall(int load, int hurt, int until) {
        Load falling = loadAt(load);
        if (falling == null) {
            return BAD;
        }
        Man sufferer = falling.carrier(hurt);
        if (hurt != -1 && (sufferer == null || !within(until, 0, LATEST_TOLD))) {
            return BAD;
        }
        if (falling.state != CARRIED) {
            return NOT;
        }
        falling.state = FALLEN;
        if (sufferer != null) {
            sufferer.hurtTo = until;
        }
        return takeFines(falling);
    }

    public int told(int load, int what) {
        Load asked = loadAt(load);
        if (asked == null) {
            return BAD_THERE;
        }
        switch (what) {
            case 0: return asked.kind;
            case 1: return asked.weight;
            case 2: return asked.from.number;
            case 3: return asked.to.number;
            case 4: return asked.value;
            case 5: return asked.due;
            case 6: return asked.state;
            case 7: return asked.fellowship;
            case 8: return asked.carriers.size();
            case 9: return asked.price;
            case 10: return asked.paid;
            case 11: return asked.waitedBy(minute);
            case 12: return asked.state == CARRIED || asked.state == THERE ? asked.comes : -1;
            default: return BAD_THERE;
        }
    }

    public int gang(int load, int i) {
        Load asked = loadAt(load);
        if (asked == null || i < 0 || i >= asked.carriers.size()) {
            return BAD;
        }
        return asked.carriers.get(i).number;
    }

    public int minutes(int n) {
        if (!within(n, 1, DAY_MINUTES) || minute + n > LAST_MINUTE) {
            return BAD;
        }
        int goal = minute + n;
        // Between two stops nothing can happen, so the MINUTES there need not be gone through one by one.
        for (int stops = 0; stops < n && minute < goal; stops++) {
            minute = nextStop(goal);
            if (minute % DAY_MINUTES == 0) {
                beginDay();
            }
            bringIn();
        }
        return minute;
    }

    public int judged(int load, int a, int b, int k) {
        Load asked = loadAt(load);
        if (asked == null || fellowshipAt(a) == null || fellowshipAt(b) == null || a == b || !isDay(k)) {
            return BAD;
        }
        int day = asked.came / DAY_MINUTES;
        Law lawOfA = lawKnown(a, CLAIM, day, k);
        Law lawOfB = lawKnown(b, CLAIM, day, k);
        if (lawOfA == null || lawOfB == null) {
            return NOT;
        }
        reckoner.lookAtMinute(asked.came, sky.rainsAt(asked.came));
        reckoner.lookAtLoad(asked, 0);
        int givesA = reckoner.reckon(lawOfA.steps);
        int givesB = reckoner.reckon(lawOfB.steps);
        if (givesA == 0 || givesB == 0) {
            return NOT;
        }
        if (givesA != givesB) {
            return givesA > givesB ? a : b;
        }
        return lawOfA.number < lawOfB.number ? a : b;
    }

    // ---- the fund

    public int rates(int fellowship, int help, int pension) {
        Fellowship asked = fellowshipAt(fellowship);
        if (asked == null || !within(help, 0, 99) || !within(pension, 0, 99)) {
            return BAD;
        }
        asked.help = help;
        asked.pension = pension;
        return 1;
    }

    public int foretold(int fellowship) {
        Fellowship asked = fellowshipAt(fellowship);
        if (asked == null) {
            return BAD;
        }
        int today = today();
        int mean = today > 0 ? asked.cameInAheadOfToday / today : 0;
        int pensions = asked.pension * gatherHurtAndCountOld(asked);
        // A long: 400 times the greatest mean is more than an int holds.
        long coins = asked.coins;
        for (int day = today + 1; day <= today + DAYS_FORETOLD; day++) {
            coins = coins + mean - asked.help * stillHurt(day * DAY_MINUTES) - pensions;
            if (coins < 0) {
                return day;
            }
        }
        return NOT;
    }

    public int fund(int fellowship, int what) {
        Fellowship asked = fellowshipAt(fellowship);
        if (asked == null) {
            return BAD;
        }
        switch (what) {
            case 0: return asked.coins;
            case 1: return asked.cameIn;
            case 2: return asked.paidOut;
            default: return BAD;
        }
    }

    public int count(int what) {
        switch (what) {
            case 0: return places.size();
            case 1: return men.size();
            case 2: return loads.size();
            case 3: return laws.size();
            case 4: return minute;
            case 5: return loadsIn(ON_BOARD);
            case 6: return loadsIn(CARRIED);
            case 7: return loadsIn(THERE);
            case 8: return loadsIn(FALLEN);
            case 9: return tape.length;
            case 10: return allWaiting();
            case 11: return allPaid();
            default: return BAD;
        }
    }

    // ---- what the calls share

    private static boolean within(int number, int least, int most) {
        return number >= least && number <= most;
    }

    private static boolean isUse(int use) {
        return within(use, CLAIM, SHARE);
    }

    private static boolean isDay(int day) {
        return within(day, 0, LAST_DAY);
    }

    private int today() {
        return minute / DAY_MINUTES;
    }

    /** Null, as in the lookups below, where there is none of that number. */
    private Place placeAt(int number) {
        return number >= 0 && number < places.size() ? places.get(number) : null;
    }

    private Man manAt(int number) {
        return number >= 0 && number < men.size() ? men.get(number) : null;
    }

    private Load loadAt(int number) {
        return number >= 0 && number < loads.size() ? loads.get(number) : null;
    }

    private Fellowship fellowshipAt(int number) {
        return number >= 0 && number < fellowships.size() ? fellowships.get(number) : null;
    }

    private Fellowship fellowshipOf(Man man) {
        return man == null ? null : fellowshipAt(man.fellowship);
    }

    private int wayMinutes(Place start, Place goal) {
        int dry = start.farTo(goal) + 2 * start.upTo(goal) + 5;
        return sky.rainsAt(minute) ? dry + dry / 2 : dry;
    }

    // ---- what the by-laws say

    private Law lawKnown(int fellowship, int use, int day, int k) {
        for (int i = laws.size() - 1; i >= 0; i--) {
            Law passed = laws.get(i);
            if (passed.fellowship == fellowship && passed.use == use && passed.passedOn <= k && passed.from <= day) {
                return passed;
            }
        }
        return null;
    }

    /** What a USE says now, of a LOAD and of a man or of neither (null). */
    private int saying(int fellowship, int use, Load load, Man man) {
        Law ruling = lawKnown(fellowship, use, today(), today());
        if (ruling == null) {
            return unwritten(use, load);
        }
        reckoner.lookAtMinute(minute, sky.rainsAt(minute));
        reckoner.lookAtMen(readyMen(fellowship));
        if (load != null) {
            reckoner.lookAtLoad(load, Math.max(0, minute - load.due));
        }
        if (man != null) {
            reckoner.lookAtMan(man);
        }
        return reckoner.reckon(ruling.steps);
    }

    private static int unwritten(int use, Load load) {
        switch (use) {
            case PRICE: return load == null ? 0 : load.weight;
            case GANG: return 1;
            case SHARE: return 5;
            default: return 0;
        }
    }

    private int readyMen(int fellowship) {
        int ready = 0;
        for (int i = 0; i < men.size(); i++) {
            Man one = men.get(i);
            if (one.fellowship == fellowship && one.freeAt(minute) && !one.hurtAt(minute) && !one.hasGone) {
                ready++;
            }
        }
        return ready;
    }

    private int ownerOf(Load load) {
        int owner = ANYBODYS;
        for (int i = 0; i < FELLOWSHIPS; i++) {
            if (saying(i, CLAIM, load, null) != 0) {
                owner = owner == ANYBODYS ? i : DISPUTE;
            }
        }
        return owner;
    }

    // ---- TO SEND

    /** WHY, as far as it does not hang on the men: 1 to 5, or 0. */
    private int hindrance(Fellowship asked, Load wanted) {
        if (wanted.state != ON_BOARD) {
            return 1;
        }
        int owner = ownerOf(wanted);
        if (owner == DISPUTE) {
            return 2;
        }
        if (owner != ANYBODYS && owner != asked.number) {
            return 3;
        }
        if (wanted.from.underWaterAt(minute)) {
            return 4;
        }
        return wanted.kind == KIND_CORN && sky.rainsAt(minute) ? 5 : 0;
    }

    /** Fills chosen and thrown, and changes nothing else; false if it is not enough. */
    private boolean chooseGang(Fellowship asked, Load wanted, boolean byDice) {
        int least = Math.max(1, Math.min(GANG_MOST, saying(asked.number, GANG, wanted, null)));
        gatherCandidates(asked, wayMinutes(wanted.from, wanted.to));
        chosen.clear();
        thrown = asked.z;
        int power = 0;
        for (int taken = 1; taken <= GANG_MOST; taken++) {
            int left = candidates.size();
            if (left == 0) {
                return false;
            }
            int turn = 0;
            if (byDice) {
                thrown = thrown * 1103515245 + 12345;
                turn = (thrown >>> 8) % left;
            }
            Man next = candidates.remove(turn);
            chosen.add(next);
            power += next.strength;
            if (taken >= least && 4 * power >= wanted.weight + wanted.up) {
                return true;
            }
        }
        return false;
    }

    private void gatherCandidates(Fellowship asked, int wayMinutes) {
        candidates.clear();
        for (int i = 0; i < asked.row.size(); i++) {
            Man one = asked.row.get(i);
            if (one.mayGo(minute, wayMinutes)) {
                candidates.add(one);
            }
        }
    }

    private void setOut(Fellowship asked, Load wanted) {
        // Found while the chosen are still FREE, so that they are what says answered just ahead of it.
        wanted.price = Math.max(0, Math.min(100000, saying(asked.number, PRICE, wanted, null)));
        wanted.share = Math.max(0, Math.min(100, saying(asked.number, SHARE, wanted, null)));
        int wayMinutes = wayMinutes(wanted.from, wanted.to);
        wanted.state = CARRIED;
        wanted.fellowship = asked.number;
        wanted.leftBoard = minute;
        wanted.comes = minute + wayMinutes;
        wanted.gangUnderWay = true;
        for (int i = 0; i < chosen.size(); i++) {
            Man one = chosen.get(i);
            asked.dropFromRow(one.number);
            one.freeFrom = wanted.comes;
            one.hours += wayMinutes;
            one.underWayWith = wanted.number;
            wanted.carriers.add(one);
        }
    }

    private int takeFines(Load fallen) {
        Fellowship theirs = fellowshipAt(fallen.fellowship);
        if (theirs == null) {
            return 0;
        }
        int all = 0;
        for (int i = 0; i < fallen.carriers.size(); i++) {
            Man one = fallen.carriers.get(i);
            int fine = Math.max(0, Math.min(one.coins, saying(theirs.number, FINE, fallen, one)));
            one.coins -= fine;
            all += fine;
        }
        theirs.takeIn(all);
        return all;
    }

    // ---- MINUTE by MINUTE

    /** The next MINUTE at which a DAY begins or a GANG comes, or the goal. */
    private int nextStop(int goal) {
        int next = Math.min(goal, (today() + 1) * DAY_MINUTES);
        for (int i = 0; i < loads.size(); i++) {
            Load one = loads.get(i);
            if (one.gangUnderWay) {
                next = Math.min(next, one.comes);
            }
        }
        return next;
    }

    private void beginDay() {
        for (int i = 0; i < men.size(); i++) {
            men.get(i).hours = 0;
        }
        for (int i = 0; i < fellowships.size(); i++) {
            Fellowship one = fellowships.get(i);
            one.cameInAheadOfToday = one.cameIn;
            payHelp(one);
            payPensions(one);
        }
    }

    private void payHelp(Fellowship paying) {
        for (int i = 0; i < men.size(); i++) {
            Man one = men.get(i);
            if (one.fellowship == paying.number && one.getsHelpAt(minute)) {
                paying.payOut(one, paying.help);
            }
        }
    }

    private void payPensions(Fellowship paying) {
        for (int i = 0; i < men.size(); i++) {
            Man one = men.get(i);
            if (one.fellowship == paying.number && one.getsPension()) {
                paying.payOut(one, paying.pension);
            }
        }
    }

    private void bringIn() {
        for (int i = 0; i < loads.size(); i++) {
            Load one = loads.get(i);
            Fellowship theirs = fellowshipAt(one.fellowship);
            if (theirs != null && one.gangUnderWay && one.comes <= minute) {
                one.gangUnderWay = false;
                if (one.state == CARRIED) {
                    one.state = THERE;
                    payFor(one, theirs);
                }
                comeBack(one, theirs);
            }
        }
    }

    private void payFor(Load brought, Fellowship theirs) {
        int heads = brought.carriers.size();
        if (heads == 0) {
            return;
        }
        brought.paid = brought.comes > brought.due ? brought.price / 2 : brought.price;
        int kept = brought.paid * brought.share / 100;
        theirs.takeIn(kept);
        int parted = brought.paid - kept;
        for (int i = 0; i < heads; i++) {
            brought.carriers.get(i).coins += parted / heads;
        }
        brought.carriers.get(0).coins += parted % heads;
    }

    private void comeBack(Load brought, Fellowship theirs) {
        for (int i = 0; i < brought.carriers.size(); i++) {
            Man one = brought.carriers.get(i);
            one.underWayWith = -1;
            theirs.row.add(one);
        }
    }

    // ---- sums

    /** Puts those that may need HELP from now on among the candidates; how many get a PENSION. */
    private int gatherHurtAndCountOld(Fellowship asked) {
        int old = 0;
        candidates.clear();
        for (int i = 0; i < men.size(); i++) {
            Man one = men.get(i);
            if (one.fellowship != asked.number) {
                continue;
            }
            if (one.getsHelpAt(minute)) {
                candidates.add(one);
            }
            if (one.getsPension()) {
                old++;
            }
        }
        return old;
    }

    private int stillHurt(int when) {
        int hurt = 0;
        for (int i = 0; i < candidates.size(); i++) {
            if (candidates.get(i).hurtAt(when)) {
                hurt++;
            }
        }
        return hurt;
    }

    private int loadsIn(int state) {
        int found = 0;
        for (int i = 0; i < loads.size(); i++) {
            if (loads.get(i).state == state) {
                found++;
            }
        }
        return found;
    }

    private int allWaiting() {
        int all = 0;
        for (int i = 0; i < loads.size(); i++) {
            all += loads.get(i).waitedBy(minute);
        }
        return all;
    }

    private int allPaid() {
        int all = 0;
        for (int i = 0; i < loads.size(); i++) {
            all += loads.get(i).paid;
        }
        return all;
    }

    private static final class Place {
        final int number;
        final int x;
        final int stairs;
        int waterFrom;
        int waterTo;

        Place(int number, int x, int stairs) {
            this.number = number;
            this.x = x;
            this.stairs = stairs;
        }

        int farTo(Place goal) {
            return Math.abs(goal.x - x);
        }

        int upTo(Place goal) {
            int climb = goal.stairs - stairs;
            return climb >= 0 ? climb : -climb / 2;
        }

        boolean underWaterAt(int minute) {
            int ofDay = minute % DAY_MINUTES;
            return ofDay >= waterFrom && ofDay < waterTo;
        }
    }

    /** The spans of RAIN that were told. */
    private static final class Sky {
        private final int[] from = new int[SPANS_MOST];
        private final int[] to = new int[SPANS_MOST];
        int spans;

        void addSpan(int start, int stop) {
            if (spans >= 0 && spans < SPANS_MOST) {
                from[spans] = start;
                to[spans] = stop;
                spans++;
            }
        }

        boolean rainsAt(int minute) {
            for (int i = 0; i < spans && i < SPANS_MOST; i++) {
                if (minute >= from[i] && minute < to[i]) {
                    return true;
                }
            }
            return false;
        }
    }

    private static final class Man {
        final int number;
        final int fellowship;
        final int strength;
        final int age;
        int coins;
        int hours;
        int freeFrom;
        int hurtTo;
        int underWayWith = -1;
        boolean hasGone;

        Man(int number, int fellowship, int strength, int age) {
            this.number = number;
            this.fellowship = fellowship;
            this.strength = strength;
            this.age = age;
        }

        boolean freeAt(int minute) {
            return freeFrom <= minute;
        }

        boolean hurtAt(int minute) {
            return minute < hurtTo;
        }

        boolean mayGo(int minute, int wayMinutes) {
            int most = age >= 60 ? 240 : 480;
            return freeAt(minute) && !hurtAt(minute) && hours + wayMinutes <= most;
        }

        boolean getsHelpAt(int minute) {
            return hurtAt(minute) && !hasGone;
        }

        boolean getsPension() {
            return age >= 70 && !hasGone;
        }
    }

    private static final class Fellowship {
        final int number;
        final ArrayList<Man> row = new ArrayList<>();
        boolean byDice;
        int z;
        int coins;
        int cameIn;
        int cameInAheadOfToday;
        int paidOut;
        int help;
        int pension;

        Fellowship(int number) {
            this.number = number;
        }

        int placeInRow(int man) {
            for (int i = 0; i < row.size(); i++) {
                if (row.get(i).number == man) {
                    return i;
                }
            }
            return -1;
        }

        boolean dropFromRow(int man) {
            int found = placeInRow(man);
            if (found < 0 || found >= row.size()) {
                return false;
            }
            row.remove(found);
            return true;
        }

        void takeIn(int sum) {
            coins += sum;
            cameIn += sum;
        }

        /** Nothing is paid where the sum can't be paid whole. */
        void payOut(Man to, int sum) {
            if (sum <= coins) {
                coins -= sum;
                paidOut += sum;
                to.coins += sum;
            }
        }
    }

    private static final class Load {
        final int number;
        final int kind;
        final int weight;
        final Place from;
        final Place to;
        final int far;
        final int up;
        final int value;
        final int due;
        final int came;
        final ArrayList<Man> carriers = new ArrayList<>();
        int state = ON_BOARD;
        int leftBoard;
        int fellowship = -1;
        int price;
        int share;
        int paid;
        int comes;
        /** Also of one that has FALLEN: its GANG is FREE only when it would have come. */
        boolean gangUnderWay;

        Load(int number, int what, Place from, Place to, int value, int due, int came) {
            this.number = number;
            this.kind = what / 1000;
            this.weight = what % 1000;
            this.from = from;
            this.to = to;
            this.far = from.farTo(to);
            this.up = from.upTo(to);
            this.value = value;
            this.due = due;
            this.came = came;
        }

        /** Null if he is none of the GANG. */
        Man carrier(int man) {
            for (int i = 0; i < carriers.size(); i++) {
                if (carriers.get(i).number == man) {
                    return carriers.get(i);
                }
            }
            return null;
        }

        int waitedBy(int minute) {
            return (state == ON_BOARD ? minute : leftBoard) - came;
        }
    }

    private static final class Law {
        final int number;
        final int fellowship;
        final int use;
        final int passedOn;
        final int from;
        final int[] steps;

        Law(int number, int fellowship, int use, int passedOn, int from, int[] steps) {
            this.number = number;
            this.fellowship = fellowship;
            this.use = use;
            this.passedOn = passedOn;
            this.from = from;
            this.steps = steps;
        }
    }

    private static final class Tape {
        private final int[] bytes = new int[TAPE_MOST];
        int length;

        void addBytes(int four) {
            for (int shift = 24; shift >= 0; shift -= 8) {
                if (length >= 0 && length < TAPE_MOST) {
                    bytes[length] = four >>> shift & 255;
                    length++;
                }
            }
        }

        /** 0, which no TEXT has, beyond its end. */
        int at(int i) {
            return i >= 0 && i < length && i < TAPE_MOST ? bytes[i] : 0;
        }
    }

    /**
     * What a TEXT is made of, as numbers: signs by their own bytes, words by their place in WORDS, numbers
     * as far as they go beyond NUMBERS. A BY-LAW is kept as a row of these, what works behind what it works on.
     */
    private static final class Token {
        static final String WORDS =
                "kind weight far up value hour rain late men day age strength worked if or and not min max ";
        static final int END = 0;
        /** No token of a TEXT: it stands behind an E that has no Q. */
        static final int GIVE = 1;
        static final int STRANGE = 2;
        static final int FIRST_WORD = 128;
        static final int NAMES = 13;
        static final int IF = 141;
        static final int OR = 142;
        static final int AND = 143;
        static final int NEGATION = 144;
        static final int LESSER = 145;
        static final int GREATER = 146;
        static final int NUMBERS = 1000;

        static boolean isNumber(int token) {
            return token >= NUMBERS;
        }

        static boolean isName(int token) {
            return token >= FIRST_WORD && token < FIRST_WORD + NAMES;
        }
    }

    /** Reads the TAPE as a TEXT. */
    private static final class Reader {
        /** What binds more tightly has the higher level. */
        private static final int OR_LEVEL = 0, AND_LEVEL = 1, NOT_LEVEL = 2, RELATION_LEVEL = 3, SUM_LEVEL = 4,
                PRODUCT_LEVEL = 5, OPERAND_LEVEL = 6;
        private static final int TOKENS_MOST = TAPE_MOST + 1;
        /** A GIVE stands for no token, but behind one at least that has a step of its own. */
        private static final int STEPS_MOST = 2 * TOKENS_MOST;

        private final int[] tokens = new int[TOKENS_MOST];
        private final int[] starts = new int[TOKENS_MOST];
        private final int[] steps = new int[STEPS_MOST];
        private int tokenCount;
        private int stepCount;
        /** The place among the tokens; what stands there is not yet taken. */
        private int here;

        /** The FAULT, or -1. */
        int read(Tape tape) {
            split(tape);
            here = 0;
            stepCount = 0;
            boolean sound = readRule();
            for (int i = 0; i < TOKENS_MOST && sound && token() == ';'; i++) {
                here++;
                sound = readRule();
            }
            // A token is passed only where a TEXT goes on with it: it is the one here that does not fit.
            return sound && token() == Token.END ? -1 : startHere(tape.length);
        }

        int[] stepsRead() {
            int kept = Math.max(0, Math.min(stepCount, STEPS_MOST));
            return Arrays.copyOf(steps, kept);
        }

        private void split(Tape tape) {
            tokenCount = 0;
            int at = 0;
            for (int i = 0; i < TAPE_MOST && at < tape.length; i++) {
                int start = at;
                int first = tape.at(at);
                at = endOfToken(tape, at);
                if (first != ' ') {
                    addToken(meaning(tape, start, at), start);
                }
            }
            addToken(Token.END, tape.length);
        }

        private void addToken(int token, int start) {
            if (tokenCount >= 0 && tokenCount < TOKENS_MOST) {
                tokens[tokenCount] = token;
                starts[tokenCount] = start;
                tokenCount++;
            }
        }

        private static int endOfToken(Tape tape, int start) {
            boolean word = isLetter(tape.at(start));
            boolean number = isDigit(tape.at(start));
            int end = start + 1;
            while (end < tape.length && (word && isLetter(tape.at(end)) || number && isDigit(tape.at(end)))) {
                end++;
            }
            return end;
        }

        private static boolean isLetter(int c) {
            return c >= 'a' && c <= 'z';
        }

        private static boolean isDigit(int c) {
            return c >= '0' && c <= '9';
        }

        private static int meaning(Tape tape, int start, int end) {
            int first = tape.at(start);
            if (isLetter(first)) {
                return wordMeaning(tape, start, end - start);
            }
            if (isDigit(first)) {
                return numberMeaning(tape, start, end);
            }
            return first >= '(' && first <= '/' && first != '.' || first >= ';' && first <= '>' ? first : Token.STRANGE;
        }

        private static int numberMeaning(Tape tape, int start, int end) {
            if (end - start > 5) {
                return Token.STRANGE;
            }
            int number = 0;
            for (int i = start; i < end; i++) {
                number = number * 10 + tape.at(i) - '0';
            }
            return Token.NUMBERS + number;
        }

        private static int wordMeaning(Tape tape, int start, int length) {
            int word = Token.FIRST_WORD;
            int from = 0;
            for (int i = 0; i < Token.WORDS.length(); i++) {
                if (Token.WORDS.charAt(i) == ' ') {
                    if (i - from == length && spells(tape, start, from, length)) {
                        return word;
                    }
                    word++;
                    from = i + 1;
                }
            }
            return Token.STRANGE;
        }

        private static boolean spells(Tape tape, int start, int from, int length) {
            for (int i = 0; i < length; i++) {
                int at = from + i;
                if (at < 0 || at >= Token.WORDS.length() || Token.WORDS.charAt(at) != tape.at(start + i)) {
                    return false;
                }
            }
            return true;
        }

        private int token() {
            return here >= 0 && here < tokenCount && here < TOKENS_MOST ? tokens[here] : Token.END;
        }

        private int startHere(int length) {
            return here >= 0 && here < tokenCount && here < TOKENS_MOST ? starts[here] : length;
        }

        private void addStep(int step) {
            if (stepCount >= 0 && stepCount < STEPS_MOST) {
                steps[stepCount] = step;
                stepCount++;
            }
        }

        private boolean pass(int wanted) {
            if (token() != wanted) {
                return false;
            }
            here++;
            return true;
        }

        private boolean readRule() {
            if (!readPart(RELATION_LEVEL, 0)) {
                return false;
            }
            if (!pass(Token.IF)) {
                addStep(Token.GIVE);
                return true;
            }
            if (!readPart(OR_LEVEL, 0)) {
                return false;
            }
            addStep(Token.IF);
            return true;
        }

        /** Q, A, B, E, S, P or O, by level; open: how many of ( and not are open around it. */
        private boolean readPart(int level, int open) {
            if (level >= OPERAND_LEVEL) {
                return readOperand(open);
            }
            if (level == NOT_LEVEL && token() == Token.NEGATION) {
                return readNegation(open);
            }
            if (!readPart(level + 1, open)) {
                return false;
            }
            int most = level == RELATION_LEVEL ? 1 : TOKENS_MOST;
            for (int i = 0; i < most && levelOf(token()) == level; i++) {
                int operator = token();
                here++;
                if (!readPart(level + 1, open)) {
                    return false;
                }
                addStep(operator);
            }
            return true;
        }

        private static int levelOf(int token) {
            switch (token) {
                case Token.OR: return OR_LEVEL;
                case Token.AND: return AND_LEVEL;
                case '<': case '=': case '>': return RELATION_LEVEL;
                case '+': case '-': return SUM_LEVEL;
                case '*': case '/': return PRODUCT_LEVEL;
                default: return -1;
            }
        }

        private boolean readNegation(int open) {
            if (open >= OPEN_MOST) {
                return false;
            }
            here++;
            if (!readPart(NOT_LEVEL, open + 1)) {
                return false;
            }
            addStep(Token.NEGATION);
            return true;
        }

        private boolean readOperand(int open) {
            int first = token();
            if (Token.isNumber(first) || Token.isName(first)) {
                addStep(first);
                here++;
                return true;
            }
            if (first == Token.LESSER || first == Token.GREATER) {
                here++;
                return readPair(first, open);
            }
            return open < OPEN_MOST && pass('(') && readPart(OR_LEVEL, open + 1) && pass(')');
        }

        private boolean readPair(int which, int open) {
            boolean sound = open < OPEN_MOST && pass('(') && readPart(RELATION_LEVEL, open + 1)
                    && pass(',') && readPart(RELATION_LEVEL, open + 1) && pass(')');
            if (sound) {
                addStep(which);
            }
            return sound;
        }
    }

    /** Works out what a BY-LAW gives of what was looked at last. */
    private static final class Reckoner {
        private static final int KIND = 0, WEIGHT = 1, FAR = 2, UP = 3, VALUE = 4, HOUR = 5, RAIN = 6, LATE = 7,
                MEN = 8, DAY = 9, AGE = 10, STRENGTH = 11, WORKED = 12;

        /** What the NAMES give, in the order of Token.WORDS. */
        private final int[] named = new int[Token.NAMES];
        /** Sides that wait for the other one: at most 13 parts within one another, six in each. */
        private final int[] waiting = new int[TAPE_MOST];
        private int waitingCount;

        /** Begins anew: what is not looked at hereafter gives 0. */
        void lookAtMinute(int minute, boolean rains) {
            Arrays.fill(named, 0);
            named[HOUR] = minute % DAY_MINUTES / 60;
            named[RAIN] = rains ? 1 : 0;
            named[DAY] = minute / DAY_MINUTES;
        }

        void lookAtMen(int ready) {
            named[MEN] = ready;
        }

        void lookAtLoad(Load load, int late) {
            named[KIND] = load.kind;
            named[WEIGHT] = load.weight;
            named[FAR] = load.far;
            named[UP] = load.up;
            named[VALUE] = load.value;
            named[LATE] = late;
        }

        void lookAtMan(Man man) {
            named[AGE] = man.age;
            named[STRENGTH] = man.strength;
            named[WORKED] = man.hours;
        }

        int reckon(int[] steps) {
            waitingCount = 0;
            for (int i = 0; i < steps.length; i++) {
                int step = steps[i];
                if (Token.isNumber(step)) {
                    put(step - Token.NUMBERS);
                } else if (Token.isName(step)) {
                    put(valueOf(step - Token.FIRST_WORD));
                } else if (step == Token.GIVE) {
                    return take();
                } else if (step == Token.NEGATION) {
                    put(truth(take() == 0));
                } else {
                    int right = take();
                    int left = take();
                    if (step != Token.IF) {
                        put(worked(step, left, right));
                    } else if (right != 0) {
                        return left;
                    }
                }
            }
            return 0;
        }

        private int valueOf(int name) {
            return name >= 0 && name < Token.NAMES ? named[name] : 0;
        }

        private void put(int number) {
            if (waitingCount >= 0 && waitingCount < TAPE_MOST) {
                waiting[waitingCount] = number;
                waitingCount++;
            }
        }

        private int take() {
            if (waitingCount <= 0 || waitingCount > TAPE_MOST) {
                return 0;
            }
            waitingCount--;
            return waiting[waitingCount];
        }

        private static int truth(boolean is) {
            return is ? 1 : 0;
        }

        private static int worked(int operator, int left, int right) {
            switch (operator) {
                case Token.OR: return truth(left != 0 || right != 0);
                case Token.AND: return truth(left != 0 && right != 0);
                case '<': return truth(left < right);
                case '=': return truth(left == right);
                case '>': return truth(left > right);
                case '+': return left + right;
                case '-': return left - right;
                case '*': return left * right;
                case '/': return right == 0 ? 0 : left / right;
                case Token.LESSER: return Math.min(left, right);
                case Token.GREATER: return Math.max(left, right);
                default: return 0;
            }
        }
    }
}
