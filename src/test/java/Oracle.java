import java.util.ArrayDeque;
import java.util.ArrayList;
import java.util.List;

/** The document followed the slow way: states are copied whole, all that might be is tried. */
final class Oracle {
    private static final int BAD = -1, NOT = -2, FULL = -3, NONE = -4, NULL = -11, CAST = -12, INDEX = -13, SIZE = -14;

    /** A person: kind, temper, habit, hope. */
    private static final class State {
        List<int[]> people = new ArrayList<>();
        int pence = 0, needs = 4000, price = 20, mishaps = 3, week = 0;
        long draw = 1;
        /** Each: pence, week, draw, habits. */
        ArrayDeque<long[]> undoable = new ArrayDeque<>();

        State twin() {
            State t = new State();
            for (int[] p : people) {
                t.people.add(p.clone());
            }
            t.pence = pence;
            t.needs = needs;
            t.price = price;
            t.mishaps = mishaps;
            t.week = week;
            t.draw = draw;
            for (long[] u : undoable) {
                t.undoable.addLast(u.clone());
            }
            return t;
        }

        int hopers() {
            int set = 0;
            for (int k = 0; k < people.size(); k++) {
                set += people.get(k)[0] == 5 && people.get(k)[3] == 1 ? 1 << k : 0;
            }
            return set;
        }

        int total(int m) {
            return m + (pence < needs ? Integer.bitCount(hopers()) : 0);
        }

        int words(int[] p, int m) {
            int plain = Math.min(99, total(m) * p[1] * p[2] / (price + 20));
            return switch (p[0]) {
                case 1 -> Math.min(99, plain * 2);
                case 4 -> week % 20 == 0 ? 50 : 0;
                case 5 -> 0;
                default -> plain;
            };
        }

        int pays(int[] p, int m) {
            int full = words(p, m) * price;
            return switch (p[0]) {
                case 1 -> price * 10;
                case 2 -> full * 2;
                case 3, 4 -> full / 2;
                default -> full;
            };
        }

        int then(int[] p, int m) {
            int paid = pays(p, m);
            if (p[0] == 1 || paid < 100) {
                return p[2] == 99 ? 99 : p[2] + 1;
            }
            int less = paid / 100 > 9 ? 9 : paid / 100;
            return less > p[2] ? 0 : p[2] - less;
        }

        int all(int m, boolean paid) {
            int sum = 0;
            for (int[] p : people) {
                sum += paid ? pays(p, m) : words(p, m);
            }
            return sum;
        }

        int pass(int m) {
            int said = all(m, false);
            int paid = all(m, true);
            int[] habits = new int[people.size()];
            for (int k = 0; k < habits.length; k++) {
                habits[k] = then(people.get(k), m);
            }
            for (int k = 0; k < habits.length; k++) {
                people.get(k)[2] = habits[k];
            }
            pence = pence + paid > 9999 ? 9999 : pence + paid;
            week++;
            return said;
        }

        void note() {
            long[] u = new long[3 + people.size()];
            u[0] = pence;
            u[1] = week;
            u[2] = draw;
            for (int k = 0; k < people.size(); k++) {
                u[3 + k] = people.get(k)[2];
            }
            undoable.addLast(u);
            if (undoable.size() > 8) {
                undoable.removeFirst();
            }
        }
    }

    private State s = new State();
    private State kept = null;
    private String tape = "";
    private final long[][] sheets = new long[4][];
    private final int[] lanes = new int[4];

    private static boolean out(int v, int a, int b) {
        return v < a || v > b;
    }

    int person(int kind, int temper, int habit) {
        if (out(kind, 0, 5) || out(temper, 1, 9) || out(habit, 0, 99)) {
            return BAD;
        }
        if (s.people.size() == 6) {
            return FULL;
        }
        s.people.add(new int[] {kind, temper, habit, 1});
        s.undoable.clear();
        return s.people.size() - 1;
    }

    int of(int person, int what) {
        if (out(person, 0, s.people.size() - 1) || out(what, 0, 6)) {
            return BAD;
        }
        int[] p = s.people.get(person);
        return what < 4 ? p[what] : what == 4 ? s.words(p, s.mishaps) : what == 5 ? s.pays(p, s.mishaps) : s.then(p, s.mishaps);
    }

    int rule(int what, int v) {
        if (out(what, 0, 2) || out(v, what == 2 ? 0 : 1, what == 0 ? 9999 : what == 1 ? 100 : 9)) {
            return BAD;
        }
        int was = what == 0 ? s.needs : what == 1 ? s.price : s.mishaps;
        s.needs = what == 0 ? v : s.needs;
        s.price = what == 1 ? v : s.price;
        s.mishaps = what == 2 ? v : s.mishaps;
        return was;
    }

    int hope(int person, int is) {
        if (out(person, 0, s.people.size() - 1) || out(is, 0, 1)) {
            return BAD;
        }
        int was = s.people.get(person)[3];
        s.people.get(person)[3] = is;
        return was;
    }

    int type(int letter) {
        if (out(letter, 32, 126)) {
            return BAD;
        }
        if (tape.length() == 60) {
            return FULL;
        }
        tape += (char) letter;
        return tape.length();
    }

    /** By the states that a reader of single letters goes through, blanks left out but for numbers. */
    int house() {
        String text = tape;
        tape = "";
        State made = new State();
        made.draw = s.draw;
        // 0 needs' first digit, 1 more, 2 price's first, 3 more, 4 mishaps, 5 ';', 6 kind, 7 temper, 8 and 9 habit, 10 behind, 11 behind x
        int at = 0;
        int first = 0;
        String number = "";
        boolean cut = false;
        for (int place = 0; place <= text.length(); place++) {
            char l = place < text.length() ? text.charAt(place) : 0;
            if (l == ' ') {
                cut = true;
                continue;
            }
            boolean digit = l >= '0' && l <= '9';
            if (at == 0 || at == 2) {
                if (!digit) {
                    return -20 - place;
                }
                first = place;
                number = "" + l;
                at++;
            } else if (at == 1 || at == 3) {
                if (digit && !cut && number.length() < 4) {
                    number += l;
                } else {
                    int v = Integer.parseInt(number);
                    if (v < 1 || v > (at == 1 ? 9999 : 100)) {
                        return -20 - first;
                    }
                    if (l != ',') {
                        return -20 - place;
                    }
                    made.needs = at == 1 ? v : made.needs;
                    made.price = at == 3 ? v : made.price;
                    at++;
                }
            } else if (at == 4 && digit) {
                made.mishaps = l - '0';
                at = 5;
            } else if (at == 5 && l == ';') {
                at = 6;
            } else if (at == 6 && l != 0 && "pbghsc".indexOf(l) >= 0) {
                made.people.add(new int[] {"pbghsc".indexOf(l), 0, 0, 1});
                at = 7;
            } else if (at == 7 && digit && l != '0') {
                last(made)[1] = l - '0';
                at = 8;
            } else if ((at == 8 || at == 9) && digit) {
                last(made)[2] = last(made)[2] * 10 + l - '0';
                at++;
            } else if (at == 10 && l == 'x') {
                last(made)[3] = 0;
                at = 11;
            } else if (at >= 10 && l == ',' && made.people.size() < 6) {
                at = 6;
            } else if (at >= 10 && l == 0) {
                s = made;
                return made.people.size();
            } else {
                return -20 - place;
            }
            cut = false;
        }
        throw new IllegalStateException();
    }

    private static int[] last(State made) {
        return made.people.get(made.people.size() - 1);
    }

    int count(int what) {
        return switch (what) {
            case 0 -> s.people.size();
            case 1 -> s.week;
            case 2 -> s.pence;
            case 3 -> s.needs;
            case 4 -> s.price;
            case 5 -> s.mishaps;
            case 6 -> s.total(s.mishaps);
            case 7 -> s.all(s.mishaps, false);
            case 8 -> s.all(s.mishaps, true);
            case 9 -> s.hopers();
            case 10 -> s.undoable.size();
            default -> BAD;
        };
    }

    int weeks(int n) {
        if (out(n, 1, 60)) {
            return BAD;
        }
        if (s.week + n > 9999) {
            return FULL;
        }
        for (int w = 0; w < n; w++) {
            s.note();
            s.pass(s.mishaps);
        }
        return s.pence;
    }

    int take(int n) {
        if (out(n, 1, 9999)) {
            return BAD;
        }
        if (s.pence < n) {
            return NOT;
        }
        s.note();
        s.pence -= n;
        return s.pence;
    }

    int drift(int n) {
        if (out(n, 1, 60)) {
            return BAD;
        }
        if (s.week + n > 9999) {
            return FULL;
        }
        int said = 0;
        for (int w = 0; w < n; w++) {
            s.note();
            s.draw = (s.draw * 1103515245L + 12345L) % (1L << 31);
            said += s.pass((int) (s.draw / 65536 % 10));
        }
        return said;
    }

    int undo() {
        if (s.undoable.isEmpty()) {
            return NONE;
        }
        long[] u = s.undoable.removeLast();
        s.pence = (int) u[0];
        s.week = (int) u[1];
        s.draw = u[2];
        for (int k = 0; k < s.people.size(); k++) {
            s.people.get(k)[2] = (int) u[3 + k];
        }
        return s.undoable.size();
    }

    int seed(int v) {
        if (v < 0) {
            return BAD;
        }
        int was = (int) s.draw;
        s.draw = v;
        return was;
    }

    /** PENCE, WORDS in the last, WORDS in all. */
    private static int[] on(State t, int n) {
        int[] r = new int[3];
        for (int w = 0; w < n; w++) {
            r[1] = t.pass(t.mishaps);
            r[2] += r[1];
        }
        r[0] = t.pence;
        return r;
    }

    int ahead(int n, int what) {
        return out(n, 0, 99) || out(what, 0, 2) ? BAD : on(s.twin(), n)[what];
    }

    int due() {
        for (int n = 0; n <= 99; n++) {
            if (on(s.twin(), n)[0] >= s.needs) {
                return n;
            }
        }
        return NONE;
    }

    private int[] priced(int price, int n) {
        State t = s.twin();
        t.price = price;
        return on(t, n);
    }

    int dearest(int n, int what) {
        if (out(n, 0, 99) || out(what, 0, 1)) {
            return BAD;
        }
        int best = 100;
        for (int price = 99; price >= 1; price--) {
            best = priced(price, n)[0] >= priced(best, n)[0] ? price : best;
        }
        return what == 0 ? best : priced(best, n)[0];
    }

    int quiet(int n, int what) {
        if (out(n, 0, 99) || out(what, 0, 1)) {
            return BAD;
        }
        int best = 100;
        for (int price = 99; price >= 1; price--) {
            best = priced(price, n)[2] <= priced(best, n)[2] ? price : best;
        }
        return what == 0 ? best : priced(best, n)[2];
    }

    int ends(int n) {
        if (out(n, 1, 99)) {
            return BAD;
        }
        int least = NONE;
        for (int price = 100; price >= 1; price--) {
            least = priced(price, n)[1] == 0 ? price : least;
        }
        return least;
    }

    int raised(int q, int n, int how) {
        if (out(q, 1, 100) || out(n, 0, 99) || out(how, 0, 1)) {
            return BAD;
        }
        State t = s.twin();
        int said = 0;
        for (int w = 1; w <= n; w++) {
            int way = Math.min(w, Math.abs(q - s.price));
            t.price = how == 0 ? q : s.price + (q > s.price ? way : -way);
            said += t.pass(t.mishaps);
        }
        return said;
    }

    private int hopedBy(int set, int n) {
        State t = s.twin();
        for (int k = 0; k < t.people.size(); k++) {
            t.people.get(k)[3] = set >> k & 1;
        }
        return on(t, n)[0];
    }

    int hoped(int n, int what) {
        if (out(n, 0, 99) || out(what, 0, 1)) {
            return BAD;
        }
        int children = 0;
        for (int k = 0; k < s.people.size(); k++) {
            children |= s.people.get(k)[0] == 5 ? 1 << k : 0;
        }
        int best = children;
        for (int set = children; set >= 0; set--) {
            if ((set | children) == children && hopedBy(set, n) >= hopedBy(best, n)) {
                best = set;
            }
        }
        return what == 0 ? best : hopedBy(best, n);
    }

    private static long lucks(State t, int n) {
        if (n == 0) {
            return t.pence;
        }
        long sum = 0;
        for (int more = 0; more < 3; more++) {
            State u = t.twin();
            u.pass(u.mishaps + more);
            sum += lucks(u, n - 1);
        }
        return sum;
    }

    int mean(int n, int what) {
        if (out(n, 0, 6) || out(what, 0, 1)) {
            return BAD;
        }
        long above = lucks(s, n);
        long below = Math.round(Math.pow(3, n));
        long a = above;
        long b = below;
        while (b != 0) {
            long r = a % b;
            a = b;
            b = r;
        }
        return (int) ((what == 0 ? above : below) / a);
    }

    int image() {
        kept = s.twin();
        return 1;
    }

    int restore() {
        if (kept == null) {
            return NONE;
        }
        s = kept.twin();
        return 1;
    }

    private int found(int sheet, int lane, int i, int n) {
        if (sheets[sheet] == null) {
            return NULL;
        }
        if (lanes[sheet] != lane) {
            return CAST;
        }
        return i < 0 || (long) i + n > sheets[sheet].length ? INDEX : 0;
    }

    int taken(int sheet, int lane, int i, int n, int what) {
        if (out(sheet, 0, 3) || out(lane, 0, 3) || out(n, 1, 8) || out(what, 0, 1)) {
            return BAD;
        }
        int f = found(sheet, lane, i, n);
        if (f != 0) {
            return f;
        }
        int many = 0;
        int least = NONE;
        for (int less = s.pence; less >= 0; less--) {
            State t = s.twin();
            t.pence -= less;
            boolean so = true;
            for (int w = 0; w < n && so; w++) {
                t.pass(t.mishaps);
                so = t.pence == sheets[sheet][i + w];
            }
            many += so ? 1 : 0;
            least = so ? less : least;
        }
        return what == 0 ? many : least;
    }

    private static long narrow(int lane, long v) {
        int gone = 64 - (8 << lane);
        return v << gone >> gone;
    }

    int film(int n, int sheet, int lane, int i) {
        if (out(n, 1, 24) || out(sheet, 0, 3) || out(lane, 0, 3)) {
            return BAD;
        }
        int f = found(sheet, lane, i, n);
        if (f != 0) {
            return f;
        }
        for (int w = 1; w <= n; w++) {
            sheets[sheet][i + w - 1] = narrow(lane, ahead(w, 0));
        }
        return n;
    }

    int sheet(int sheet, int lane, int n) {
        if (out(sheet, 0, 3) || out(lane, 0, 3) || n > 24) {
            return BAD;
        }
        if (n < 0) {
            return SIZE;
        }
        sheets[sheet] = new long[n];
        lanes[sheet] = lane;
        return n;
    }

    int drop(int sheet) {
        if (out(sheet, 0, 3)) {
            return BAD;
        }
        if (sheets[sheet] == null) {
            return NULL;
        }
        int had = sheets[sheet].length;
        sheets[sheet] = null;
        return had;
    }

    int item(int sheet, int lane, int i, long v) {
        if (out(sheet, 0, 3) || out(lane, 0, 3)) {
            return BAD;
        }
        int f = found(sheet, lane, i, 1);
        if (f != 0) {
            return f;
        }
        sheets[sheet][i] = narrow(lane, v);
        return 1;
    }

    int copy(int from, int i, int to, int j, int n) {
        if (out(from, 0, 3) || out(to, 0, 3)) {
            return BAD;
        }
        if (sheets[from] == null || sheets[to] == null) {
            return NULL;
        }
        if (lanes[from] != lanes[to]) {
            return CAST;
        }
        if (i < 0 || j < 0 || n < 0 || (long) i + n > sheets[from].length || (long) j + n > sheets[to].length) {
            return INDEX;
        }
        long[] all = sheets[from].clone();
        for (int k = 0; k < n; k++) {
            sheets[to][j + k] = all[i + k];
        }
        return n;
    }
}
