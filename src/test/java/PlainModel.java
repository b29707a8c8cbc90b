import java.util.ArrayList;
import java.util.List;
import java.util.regex.Matcher;
import java.util.regex.Pattern;

/**
 * The document once more, in the most literal way: every MINUTE is gone through, texts are worked out from their
 * words each time, and every sum is counted anew. The class is held against it.
 */
final class PlainModel {
    static final int BAD = -1, NOT = -2, FULL = -3, VOID = -2000000000;

    private static final class Man {
        int f, strength, age, coins, hours, free, hurt, load = -1;
        boolean gone;
    }

    private static final class Load {
        int kind, weight, from, to, value, due, state, came, left, f = -1, price, share, paid, comes = -1;
        List<Integer> gang = new ArrayList<>();
    }

    private record Law(int f, int use, int passed, int from, String text) {
    }

    private final Grammar grammar;
    private int minute = 0;
    private final List<int[]> places = new ArrayList<>();
    private final List<int[]> rains = new ArrayList<>();
    private final List<Man> men = new ArrayList<>();
    private final List<Load> loads = new ArrayList<>();
    private final List<Law> laws = new ArrayList<>();
    private final List<List<Integer>> rows = new ArrayList<>();
    private final boolean[] byDice = new boolean[4];
    private final int[] z = new int[4];
    private final int[] fund = new int[4];
    private final int[] paidOut = new int[4];
    private final int[] help = new int[4];
    private final int[] pension = new int[4];
    /** What came in: each time the FELLOWSHIP, the DAY, the sum. */
    private final List<int[]> cameIn = new ArrayList<>();
    private final StringBuilder tape = new StringBuilder();

    PlainModel(Grammar grammar) {
        this.grammar = grammar;
        for (int i = 0; i < 4; i++) {
            rows.add(new ArrayList<>());
        }
    }

    private static boolean no(int number, int most) {
        return number < 0 || number > most;
    }

    private boolean rainsAt(int when) {
        return rains.stream().anyMatch(r -> r[0] <= when && when < r[1]);
    }

    private int far(int a, int b) {
        return Math.abs(places.get(a)[0] - places.get(b)[0]);
    }

    private int up(int a, int b) {
        int more = places.get(b)[1] - places.get(a)[1];
        return more > 0 ? more : -more / 2;
    }

    private int wayNow(int a, int b) {
        int all = far(a, b) + 2 * up(a, b) + 5;
        return rainsAt(minute) ? all + all / 2 : all;
    }

    int place(int x, int stairs) {
        if (no(x, 99) || no(stairs, 99)) return BAD;
        if (places.size() == 20) return FULL;
        places.add(new int[] {x, stairs, 0, 0});
        return places.size() - 1;
    }

    int tide(int place, int from, int to) {
        if (no(place, places.size() - 1) || !(0 <= from && from <= to && to <= 600)) return BAD;
        places.get(place)[2] = from;
        places.get(place)[3] = to;
        return 1;
    }

    int rain(int from, int to) {
        if (from < minute || to <= from || to > 100000) return BAD;
        if (rains.size() == 20) return FULL;
        rains.add(new int[] {from, to});
        return rains.size();
    }

    int way(int a, int b, int what) {
        if (no(a, places.size() - 1) || no(b, places.size() - 1) || a == b || no(what, 2)) return BAD;
        return what == 0 ? far(a, b) : what == 1 ? up(a, b) : wayNow(a, b);
    }

    int man(int f, int strength, int age, int house) {
        if (no(f, 3) || strength < 1 || strength > 99 || age < 16 || age > 90 || no(house, places.size() - 1)) {
            return BAD;
        }
        if (men.size() == 60) return FULL;
        Man m = new Man();
        m.f = f;
        m.strength = strength;
        m.age = age;
        men.add(m);
        return men.size() - 1;
    }

    int join(int man) {
        if (no(man, men.size() - 1)) return BAD;
        Man m = men.get(man);
        if (rows.get(m.f).contains(man) || m.free > minute || m.gone) return NOT;
        rows.get(m.f).add(man);
        return rows.get(m.f).size();
    }

    int leave(int man) {
        if (no(man, men.size() - 1)) return BAD;
        return rows.get(men.get(man).f).remove((Integer) man) ? 1 : NOT;
    }

    int gone(int man) {
        if (no(man, men.size() - 1)) return BAD;
        Man m = men.get(man);
        if (m.gone || m.free > minute) return NOT;
        m.gone = true;
        rows.get(m.f).remove((Integer) man);
        return 1;
    }

    int about(int man, int what) {
        if (no(man, men.size() - 1) || no(what, 9)) return -2;
        Man m = men.get(man);
        return new int[] {m.f, m.strength, m.age, m.coins, m.hours, m.free, m.hurt, rows.get(m.f).indexOf(man),
            m.gone ? 1 : 0, m.load}[what];
    }

    int turn(int f, int i) {
        if (no(f, 3) || no(i, rows.get(f).size() - 1)) return BAD;
        return rows.get(f).get(i);
    }

    int dice(int f, int is, int number) {
        if (no(f, 3) || no(is, 1)) return BAD;
        int was = byDice[f] ? 1 : 0;
        byDice[f] = is == 1;
        z[f] = number;
        return was;
    }

    int feed(int a, int b, int c, int d, int e) {
        if (tape.length() > 180) return FULL;
        for (int n : new int[] {a, b, c, d, e}) {
            tape.append((char) (n >> 24 & 255)).append((char) (n >> 16 & 255)).append((char) (n >> 8 & 255))
                    .append((char) (n & 255));
        }
        return tape.length();
    }

    int end(int n) {
        if (no(n, tape.length())) return BAD;
        tape.setLength(n);
        return n;
    }

    int law(int f, int use, int from) {
        if (no(f, 3) || no(use, 4) || no(from, 166)) return BAD;
        if (laws.size() == 40) return FULL;
        String text = tape.toString();
        tape.setLength(0);
        int fault = grammar.fault(text);
        if (fault >= 0) return -100 - fault;
        laws.add(new Law(f, use, minute / 600, from, text));
        return laws.size() - 1;
    }

    private int lawOf(int f, int use, int day, int k) {
        int found = NOT;
        for (int i = 0; i < laws.size(); i++) {
            Law l = laws.get(i);
            if (l.f == f && l.use == use && l.passed <= k && l.from <= day) found = i;
        }
        return found;
    }

    int inForce(int f, int use, int day, int k) {
        if (no(f, 3) || no(use, 4) || no(day, 166) || no(k, 166)) return BAD;
        return lawOf(f, use, day, k);
    }

    int says(int f, int use, int load, int man) {
        if (no(f, 3) || no(use, 4) || load < -1 || load >= loads.size() || man < -1 || man >= men.size()) return VOID;
        return say(f, use, load, man);
    }

    private int say(int f, int use, int load, int man) {
        int law = lawOf(f, use, minute / 600, minute / 600);
        if (law < 0) {
            return new int[] {0, load < 0 ? 0 : loads.get(load).weight, 1, 0, 5}[use];
        }
        return new Working(laws.get(law).text, f, load, man, minute, false).text();
    }

    int load(int what, int where, int value, int due) {
        if (what < 0 || where < 0 || what / 1000 > 4 || what % 1000 < 1 || no(where / 100, places.size() - 1)
                || no(where % 100, places.size() - 1) || where / 100 == where % 100 || no(value, 9999)
                || no(due, 200000)) {
            return BAD;
        }
        if (loads.size() == 200) return FULL;
        Load l = new Load();
        l.kind = what / 1000;
        l.weight = what % 1000;
        l.from = where / 100;
        l.to = where % 100;
        l.value = value;
        l.due = due;
        l.came = minute;
        loads.add(l);
        return loads.size() - 1;
    }

    int whose(int load) {
        if (no(load, loads.size() - 1)) return BAD;
        List<Integer> claim = new ArrayList<>();
        for (int f = 0; f < 4; f++) {
            if (say(f, 0, load, -1) != 0) claim.add(f);
        }
        return claim.isEmpty() ? 4 : claim.size() == 1 ? claim.get(0) : 5;
    }

    private List<Integer> gangFor(int f, int load, int[] number) {
        Load l = loads.get(load);
        int minutes = wayNow(l.from, l.to);
        List<Integer> all = new ArrayList<>(rows.get(f));
        all.removeIf(i -> men.get(i).free > minute || men.get(i).hurt > minute
                || men.get(i).hours + minutes > (men.get(i).age >= 60 ? 240 : 480));
        int least = Math.min(8, Math.max(1, say(f, 2, load, -1)));
        List<Integer> gang = new ArrayList<>();
        while (gang.size() < 8 && !all.isEmpty()) {
            int at = 0;
            if (number != null) {
                number[0] = number[0] * 1103515245 + 12345;
                at = (number[0] >>> 8) % all.size();
            }
            gang.add(all.remove(at));
            int power = gang.stream().mapToInt(i -> men.get(i).strength).sum();
            if (gang.size() >= least && 4 * power >= l.weight + up(l.from, l.to)) return gang;
        }
        return null;
    }

    private int whyWith(int f, int load, List<Integer> gang) {
        Load l = loads.get(load);
        int[] from = places.get(l.from);
        if (l.state != 0) return 1;
        if (whose(load) == 5) return 2;
        if (whose(load) != 4 && whose(load) != f) return 3;
        if (from[2] <= minute % 600 && minute % 600 < from[3]) return 4;
        if (l.kind == 0 && rainsAt(minute)) return 5;
        return gang == null ? 6 : 0;
    }

    int why(int f, int load) {
        if (no(f, 3) || no(load, loads.size() - 1)) return BAD;
        return whyWith(f, load, gangFor(f, load, null));
    }

    int send(int f, int load) {
        if (no(f, 3) || no(load, loads.size() - 1)) return BAD;
        int[] number = {z[f]};
        List<Integer> gang = gangFor(f, load, byDice[f] ? number : null);
        int why = whyWith(f, load, gang);
        if (why != 0) return -10 - why;
        z[f] = number[0];
        Load l = loads.get(load);
        l.price = Math.min(100000, Math.max(0, say(f, 1, load, -1)));
        l.share = Math.min(100, Math.max(0, say(f, 4, load, -1)));
        l.f = f;
        l.state = 1;
        l.left = minute;
        l.comes = minute + wayNow(l.from, l.to);
        l.gang = gang;
        for (int i : gang) {
            rows.get(f).remove((Integer) i);
            men.get(i).free = l.comes;
            men.get(i).hours += l.comes - minute;
            men.get(i).load = load;
        }
        return gang.size();
    }

    int off(int load) {
        if (no(load, loads.size() - 1)) return BAD;
        if (loads.get(load).state != 0) return NOT;
        loads.get(load).state = 4;
        loads.get(load).left = minute;
        return 1;
    }

    int fall(int load, int hurt, int until) {
        if (no(load, loads.size() - 1)) return BAD;
        Load l = loads.get(load);
        if (hurt != -1 && (!l.gang.contains(hurt) || no(until, 200000))) return BAD;
        if (l.state != 1) return NOT;
        l.state = 3;
        int all = 0;
        for (int i : l.gang) {
            int fine = Math.max(0, say(l.f, 3, load, i));
            fine = Math.min(fine, men.get(i).coins);
            men.get(i).coins -= fine;
            fund[l.f] += fine;
            cameIn.add(new int[] {l.f, minute / 600, fine});
            all += fine;
        }
        if (hurt != -1) men.get(hurt).hurt = until;
        return all;
    }

    private int waiting(Load l) {
        return (l.state == 0 ? minute : l.left) - l.came;
    }

    int told(int load, int what) {
        if (no(load, loads.size() - 1) || no(what, 12)) return -2;
        Load l = loads.get(load);
        return new int[] {l.kind, l.weight, l.from, l.to, l.value, l.due, l.state, l.f, l.gang.size(), l.price, l.paid,
            waiting(l), l.state == 1 || l.state == 2 ? l.comes : -1}[what];
    }

    int gang(int load, int i) {
        if (no(load, loads.size() - 1) || no(i, loads.get(load).gang.size() - 1)) return BAD;
        return loads.get(load).gang.get(i);
    }

    int minutes(int n) {
        if (n < 1 || n > 600 || minute + n > 99999) return BAD;
        for (int i = 0; i < n; i++) {
            minute++;
            if (minute % 600 == 0) {
                men.forEach(m -> m.hours = 0);
                for (int f = 0; f < 4; f++) payAll(f);
            }
            for (int load = 0; load < loads.size(); load++) {
                if (loads.get(load).comes == minute) arrive(load);
            }
        }
        return minute;
    }

    private void payAll(int f) {
        for (int pass = 0; pass < 2; pass++) {
            int sum = pass == 0 ? help[f] : pension[f];
            for (Man m : men) {
                if (m.f == f && !m.gone && (pass == 0 ? m.hurt > minute : m.age >= 70) && fund[f] >= sum) {
                    fund[f] -= sum;
                    paidOut[f] += sum;
                    m.coins += sum;
                }
            }
        }
    }

    private void arrive(int load) {
        Load l = loads.get(load);
        if (l.state == 1) {
            l.state = 2;
            l.paid = minute > l.due ? l.price / 2 : l.price;
            int kept = l.paid * l.share / 100;
            fund[l.f] += kept;
            cameIn.add(new int[] {l.f, minute / 600, kept});
            int left = l.paid - kept;
            for (int n = l.gang.size(), i = n - 1; i >= 0; i--) {
                int his = i == 0 ? left : (l.paid - kept) / n;
                men.get(l.gang.get(i)).coins += his;
                left -= his;
            }
        }
        for (int i : l.gang) {
            men.get(i).load = -1;
            rows.get(l.f).add(i);
        }
    }

    int judged(int load, int a, int b, int k) {
        if (no(load, loads.size() - 1) || no(a, 3) || no(b, 3) || a == b || no(k, 166)) return BAD;
        int came = loads.get(load).came;
        int la = lawOf(a, 0, came / 600, k);
        int lb = lawOf(b, 0, came / 600, k);
        int ga = la < 0 ? 0 : new Working(laws.get(la).text, a, load, -1, came, true).text();
        int gb = lb < 0 ? 0 : new Working(laws.get(lb).text, b, load, -1, came, true).text();
        if (ga == 0 || gb == 0) return NOT;
        return ga > gb || ga == gb && la < lb ? a : b;
    }

    int rates(int f, int h, int p) {
        if (no(f, 3) || no(h, 99) || no(p, 99)) return BAD;
        help[f] = h;
        pension[f] = p;
        return 1;
    }

    int foretold(int f) {
        if (no(f, 3)) return BAD;
        int today = minute / 600;
        long came = cameIn.stream().filter(c -> c[0] == f && c[1] < today).mapToLong(c -> c[2]).sum();
        long coins = fund[f];
        for (int day = today + 1; day <= today + 400; day++) {
            coins += today == 0 ? 0 : came / today;
            for (int pass = 0; pass < 2; pass++) {
                for (Man m : men) {
                    if (m.f == f && !m.gone && (pass == 0 ? m.hurt > day * 600 : m.age >= 70)) {
                        int sum = pass == 0 ? help[f] : pension[f];
                        if (coins < sum) return day;
                        coins -= sum;
                    }
                }
            }
        }
        return NOT;
    }

    int fund(int f, int what) {
        if (no(f, 3) || no(what, 2)) return BAD;
        return what == 0 ? fund[f] : what == 2 ? paidOut[f]
                : cameIn.stream().filter(c -> c[0] == f).mapToInt(c -> c[2]).sum();
    }

    int count(int what) {
        if (no(what, 11)) return BAD;
        int[] states = new int[5];
        int waited = 0;
        int paid = 0;
        for (Load l : loads) {
            states[l.state]++;
            waited += waiting(l);
            paid += l.paid;
        }
        return new int[] {places.size(), men.size(), loads.size(), laws.size(), minute, states[0], states[1], states[2],
            states[3], tape.length(), waited, paid}[what];
    }

    /** Works a sound text out, word by word. */
    private final class Working {
        private final List<String> words = new ArrayList<>();
        private final int f, load, man, when;
        private final boolean back;
        private int at = 0;

        Working(String text, int f, int load, int man, int when, boolean back) {
            Matcher m = Pattern.compile("[a-z]+|[0-9]+|[^ ]").matcher(text);
            while (m.find()) words.add(m.group());
            words.add("");
            this.f = f;
            this.load = load;
            this.man = man;
            this.when = when;
            this.back = back;
        }

        private boolean is(String word) {
            if (!words.get(at).equals(word)) return false;
            at++;
            return true;
        }

        int text() {
            Integer result = null;
            do {
                int e = e();
                int q = is("if") ? q() : 1;
                if (result == null && q != 0) result = e;
            } while (is(";"));
            return result == null ? 0 : result;
        }

        private int q() {
            int v = a();
            while (is("or")) v = a() != 0 | v != 0 ? 1 : 0;
            return v;
        }

        private int a() {
            int v = b();
            while (is("and")) v = b() != 0 & v != 0 ? 1 : 0;
            return v;
        }

        private int b() {
            return is("not") ? (b() == 0 ? 1 : 0) : e();
        }

        private int e() {
            int v = s();
            if (is("<")) return v < s() ? 1 : 0;
            if (is("=")) return v == s() ? 1 : 0;
            if (is(">")) return v > s() ? 1 : 0;
            return v;
        }

        private int s() {
            int v = p();
            while (true) {
                if (is("+")) v += p();
                else if (is("-")) v -= p();
                else return v;
            }
        }

        private int p() {
            int v = o();
            while (true) {
                if (is("*")) v *= o();
                else if (is("/")) {
                    int by = o();
                    v = by == 0 ? 0 : v / by;
                } else return v;
            }
        }

        private int o() {
            boolean least = words.get(at).equals("min");
            if (is("min") || is("max")) {
                is("(");
                int one = e();
                is(",");
                int two = e();
                is(")");
                return least ? Math.min(one, two) : Math.max(one, two);
            }
            if (is("(")) {
                int v = q();
                is(")");
                return v;
            }
            String word = words.get(at++);
            return word.charAt(0) <= '9' ? Integer.parseInt(word) : named(word);
        }

        private int named(String name) {
            Load l = load < 0 ? null : loads.get(load);
            Man m = man < 0 ? null : men.get(man);
            switch (name) {
                case "hour": return when % 600 / 60;
                case "rain": return rainsAt(when) ? 1 : 0;
                case "day": return when / 600;
                case "men": return back ? 0 : (int) men.stream()
                        .filter(i -> i.f == f && i.free <= minute && i.hurt <= minute && !i.gone).count();
                case "age": return m == null ? 0 : m.age;
                case "strength": return m == null ? 0 : m.strength;
                case "worked": return m == null ? 0 : m.hours;
                default: break;
            }
            if (l == null) return 0;
            switch (name) {
                case "kind": return l.kind;
                case "weight": return l.weight;
                case "far": return far(l.from, l.to);
                case "up": return up(l.from, l.to);
                case "value": return l.value;
                default: return back ? 0 : Math.max(0, minute - l.due);
            }
        }
    }
}
