/** Promises 14 to 23: what is foretold, images. Each is held against weeks lived on a twin. */
public final class ForetoldTest {
    private static final Check c = new Check();
    private static final String[] HOUSES = {
        "3000,20,2;p560,b430,g355,h870,s999,c111", "9999,7,9;p999,c150,c250x,c350,p120",
        "500,100,1;h455,h455,g911,c100", "1,1,0;s150", "800,3,4;b999,c111,c111,c111,c111,c111"};

    public static void main(String[] args) {
        for (String text : HOUSES) {
            ahead(text);
            due(text);
            dearestAndQuiet(text);
            ends(text);
            raised(text);
            hoped(text);
            mean(text);
        }
        dueEdges();
        ties();
        fractions();
        wrongNumbers();
        nothingIsChanged();
        images();
        c.end("ForetoldTest");
    }

    /** As n weeks lived one by one: PENCE, WORDS in the last, WORDS in all. */
    private static int[] lived(SeaJar x, int n) {
        int[] all = new int[3];
        for (int w = 0; w < n; w++) {
            all[1] = x.count(7);
            all[2] += all[1];
            x.weeks(1);
        }
        all[0] = x.count(2);
        return all;
    }

    private static SeaJar priced(String text, int price) {
        SeaJar x = Check.jarOf(text);
        x.rule(1, price);
        return x;
    }

    private static void ahead(String text) {
        c.about("promise 14, " + text);
        SeaJar x = Check.jarOf(text);
        for (int n : new int[] {0, 1, 2, 19, 20, 21, 60, 99}) {
            int[] due = lived(Check.jarOf(text), n);
            for (int what = 0; what < 3; what++) {
                c.due("ahead(" + n + ", " + what + ")", x.ahead(n, what), due[what]);
            }
        }
    }

    private static void due(String text) {
        c.about("promise 15, " + text);
        SeaJar x = Check.jarOf(text);
        int due = SeaJar.NONE;
        SeaJar twin = Check.jarOf(text);
        for (int w = 0; w <= 99 && due == SeaJar.NONE; w++) {
            due = twin.count(2) >= twin.count(3) ? w : SeaJar.NONE;
            twin.weeks(1);
        }
        c.due("due()", x.due(), due);
    }

    private static void dueEdges() {
        c.about("promise 15, edges");
        SeaJar x = new SeaJar();
        x.rule(0, 1);
        c.due("nobody pays", x.due(), SeaJar.NONE);
        // A buyer pays 10 each week at a price of 1.
        SeaJar y = Check.jarOf("990,1,0;b100");
        c.due("behind 99", y.due(), 99);
        y.rule(0, 991);
        c.due("behind 100", y.due(), SeaJar.NONE);
        y.weeks(1);
        y.rule(0, 10);
        c.due("now", y.due(), 0);
        y.rule(0, 11);
        c.due("behind one", y.due(), 1);
    }

    private static void dearestAndQuiet(String text) {
        c.about("promises 16 and 17, " + text);
        SeaJar x = Check.jarOf(text);
        for (int n : new int[] {0, 1, 7, 40}) {
            int dear = 1;
            int quiet = 1;
            int[] first = lived(priced(text, 1), n);
            int most = first[0];
            int fewest = first[2];
            for (int price = 2; price <= 100; price++) {
                int[] all = lived(priced(text, price), n);
                if (all[0] > most) {
                    dear = price;
                    most = all[0];
                }
                if (all[2] < fewest) {
                    quiet = price;
                    fewest = all[2];
                }
            }
            c.due("dearest(" + n + ", 0)", x.dearest(n, 0), dear);
            c.due("dearest(" + n + ", 1)", x.dearest(n, 1), most);
            c.due("quiet(" + n + ", 0)", x.quiet(n, 0), quiet);
            c.due("quiet(" + n + ", 1)", x.quiet(n, 1), fewest);
        }
    }

    private static void ends(String text) {
        c.about("promise 18, " + text);
        SeaJar x = Check.jarOf(text);
        for (int n : new int[] {1, 2, 20, 21, 50}) {
            int least = SeaJar.NONE;
            for (int price = 100; price >= 1; price--) {
                least = lived(priced(text, price), n)[1] == 0 ? price : least;
            }
            c.due("ends(" + n + ")", x.ends(n), least);
        }
    }

    private static void raised(String text) {
        c.about("promise 19, " + text);
        SeaJar x = Check.jarOf(text);
        for (int q : new int[] {1, 6, 8, 20, 21, 99, 100}) {
            for (int n : new int[] {0, 1, 2, 30, 99}) {
                c.due("raised(" + q + ", " + n + ", 0)", x.raised(q, n, 0), lived(priced(text, q), n)[2]);
                SeaJar twin = Check.jarOf(text);
                int said = 0;
                for (int w = 0; w < n; w++) {
                    int price = twin.count(4);
                    twin.rule(1, price < q ? price + 1 : price > q ? price - 1 : q);
                    said += twin.count(7);
                    twin.weeks(1);
                }
                c.due("raised(" + q + ", " + n + ", 1)", x.raised(q, n, 1), said);
            }
        }
    }

    private static void hoped(String text) {
        c.about("promise 20, " + text);
        SeaJar x = Check.jarOf(text);
        for (int n : new int[] {0, 1, 3, 12, 99}) {
            int best = -1;
            int most = -1;
            for (int set = 0; set < 64; set++) {
                SeaJar twin = Check.jarOf(text);
                for (int who = 0; who < 6; who++) {
                    twin.hope(who, set >> who & 1);
                }
                int pence = lived(twin, n)[0];
                if (twin.count(9) == set && pence > most) {
                    best = set;
                    most = pence;
                }
            }
            c.due("hoped(" + n + ", 0)", x.hoped(n, 0), best);
            c.due("hoped(" + n + ", 1)", x.hoped(n, 1), most);
        }
    }

    /** Sum of PENCE over all lucks, by weeks lived and undone. */
    private static long sum(SeaJar x, int left) {
        if (left == 0) {
            return x.count(2);
        }
        long all = 0;
        int mishaps = x.count(5);
        for (int more = 0; more < 3; more++) {
            // Above 9 there is no such rule, so the houses here have 7 at most.
            x.rule(2, mishaps + more);
            x.weeks(1);
            x.rule(2, mishaps);
            all += sum(x, left - 1);
            x.undo();
        }
        return all;
    }

    private static void mean(String text) {
        c.about("promise 21, " + text);
        SeaJar x = Check.jarOf(text);
        x.rule(2, Math.min(7, x.count(5)));
        SeaJar twin = Check.jarOf(text);
        twin.rule(2, Math.min(7, twin.count(5)));
        for (int n = 0; n <= 6; n++) {
            long above = sum(twin, n);
            long below = 1;
            for (int w = 0; w < n; w++) {
                below *= 3;
            }
            long got = x.mean(n, 0);
            long by = x.mean(n, 1);
            c.holds("mean(" + n + ") is " + got + " by " + by, got * below == above * by);
            c.holds("mean(" + n + ") is in lowest terms", by >= 1 && (by == 1 || got % 3 != 0));
        }
    }

    private static void fractions() {
        c.about("promise 21, by hand");
        SeaJar x = new SeaJar();
        x.rule(2, 9);
        x.rule(1, 1);
        x.person(0, 1, 21);
        // Words are 9, 10, 11, at a price of 1: their mean is 10.
        c.due("mean(1, 0)", x.mean(1, 0), 10);
        c.due("mean(1, 1)", x.mean(1, 1), 1);
        SeaJar y = new SeaJar();
        y.rule(2, 0);
        y.rule(1, 1);
        y.person(0, 1, 11);
        // Words are 0, 0, 1.
        c.due("mean(1, 0)", y.mean(1, 0), 1);
        c.due("mean(1, 1)", y.mean(1, 1), 3);
    }

    private static void ties() {
        c.about("promises 16 to 20, ties");
        SeaJar x = new SeaJar();
        c.due("dearest(99, 0)", x.dearest(99, 0), 1);
        c.due("quiet(99, 0)", x.quiet(99, 0), 1);
        c.due("ends(99)", x.ends(99), 1);
        c.due("hoped(99, 0)", x.hoped(99, 0), 0);
        SeaJar y = Check.jarOf("4000,20,0;c111,p111,c111");
        // 2 mishaps at most: 22 / 40 is no word; by a price of 1 it is 22 / 21, if both hope, else 11 / 21.
        c.due("hoped(1, 0)", y.hoped(1, 0), 0);
        y.rule(1, 1);
        c.due("hoped(1, 0)", y.hoped(1, 0), 5);
        c.due("hoped(1, 1)", y.hoped(1, 1), 1);
        // None is said where m * 59 is below PRICE and 20 together; one where twice that is above it.
        SeaJar z = Check.jarOf("1,20,1;p159");
        c.due("ends(1)", z.ends(1), 40);
        z.rule(2, 2);
        c.due("ends(1)", z.ends(1), 99);
        z.rule(2, 3);
        c.due("ends(1)", z.ends(1), SeaJar.NONE);
        c.due("quiet(1, 0)", z.quiet(1, 0), 69);
        c.due("quiet(1, 1)", z.quiet(1, 1), 1);
    }

    private static void wrongNumbers() {
        c.about("promises 14 to 21, wrong numbers");
        SeaJar x = Check.jarOf(HOUSES[0]);
        for (int n : new int[] {-1, 100, Integer.MIN_VALUE, Integer.MAX_VALUE}) {
            c.due("ahead", x.ahead(n, 0), SeaJar.BAD);
            c.due("dearest", x.dearest(n, 0), SeaJar.BAD);
            c.due("quiet", x.quiet(n, 0), SeaJar.BAD);
            c.due("ends", x.ends(n), SeaJar.BAD);
            c.due("raised", x.raised(5, n, 0), SeaJar.BAD);
            c.due("hoped", x.hoped(n, 0), SeaJar.BAD);
            c.due("mean", x.mean(n, 0), SeaJar.BAD);
        }
        c.due("ends(0)", x.ends(0), SeaJar.BAD);
        c.due("mean(7, 0)", x.mean(7, 0), SeaJar.BAD);
        for (int what : new int[] {-1, 2, Integer.MIN_VALUE, Integer.MAX_VALUE}) {
            c.due("ahead", x.ahead(1, what == 2 ? 3 : what), SeaJar.BAD);
            c.due("dearest", x.dearest(1, what), SeaJar.BAD);
            c.due("quiet", x.quiet(1, what), SeaJar.BAD);
            c.due("raised", x.raised(5, 1, what), SeaJar.BAD);
            c.due("hoped", x.hoped(1, what), SeaJar.BAD);
            c.due("mean", x.mean(1, what), SeaJar.BAD);
        }
        for (int q : new int[] {0, -1, 101, Integer.MAX_VALUE}) {
            c.due("raised", x.raised(q, 1, 0), SeaJar.BAD);
        }
    }

    private static void nothingIsChanged() {
        c.about("promises 14 to 21, nothing is changed");
        SeaJar x = Check.jarOf(HOUSES[0]);
        x.weeks(2);
        String before = Check.seen(x);
        x.ahead(99, 2);
        x.due();
        x.dearest(9, 0);
        x.quiet(9, 0);
        x.ends(9);
        x.raised(50, 9, 1);
        x.hoped(9, 0);
        x.mean(6, 0);
        c.holds("all is as it was", before.equals(Check.seen(x)));
        c.due("undo()", x.undo(), 1);
    }

    private static void images() {
        c.about("promises 22 and 23");
        SeaJar x = Check.jarOf(HOUSES[0]);
        c.due("restore()", x.restore(), SeaJar.NONE);
        x.weeks(3);
        x.take(7);
        x.seed(55);
        c.due("image()", x.image(), 1);
        String kept = Check.seen(x);
        x.type('4');
        x.sheet(0, 1, 5);
        x.drift(9);
        x.rule(0, 77);
        x.rule(1, 78);
        x.rule(2, 9);
        x.hope(5, 0);
        c.due("restore()", x.restore(), 1);
        c.holds("all is as it was then", kept.equals(Check.seen(x)));
        c.due("the tape is as it is", x.type(' '), 2);
        c.due("house()", x.house(), -22);
        c.due("sheets are as they are", x.drop(0), 5);
        c.due("undo()", x.undo(), 3);
        c.due("what was taken", x.count(2), x.restore() == 1 ? x.count(2) + 7 : -1);
        Check.house(x, "1,1,1;c111");
        c.due("restore()", x.restore(), 1);
        c.holds("other people", kept.equals(Check.seen(x)));
        c.due("undo()", x.undo(), 3);
        c.due("undo()", x.undo(), 2);
        c.due("a newer image", x.image(), 1);
        x.weeks(4);
        x.restore();
        c.due("known", x.count(10), 2);
        c.due("week", x.count(1), 2);
        SeaJar y = new SeaJar();
        y.image();
        y.person(5, 5, 5);
        y.restore();
        c.due("nobody", y.count(0), 0);
        c.due("no children", y.count(9), 0);
        c.due("person", y.person(0, 1, 1), 0);
        c.due("kind", y.of(0, 0), 0);
        c.due("no children", y.count(9), 0);
    }
}
