/** Promises 9 to 13: weeks, what is taken, drifts, what is undone. */
public final class WeeksTest {
    private static final Check c = new Check();
    private static final String HOUSE = "3000,20,2;p560,b430,g355,h870,s999,c111";

    public static void main(String[] args) {
        weeks();
        lastWeek();
        take();
        drift();
        undo();
        undoKnowsEight();
        seed();
        c.end("WeeksTest");
    }

    private static void weeks() {
        c.about("promise 9");
        SeaJar x = Check.jarOf(HOUSE);
        for (int n : new int[] {0, -1, 61, Integer.MAX_VALUE, Integer.MIN_VALUE}) {
            c.due("weeks(" + n + ")", x.weeks(n), SeaJar.BAD);
        }
        c.due("weeks(1)", x.weeks(1), 2040);
        c.due("week", x.count(1), 1);
        int[] habits = {56, 31, 51, 66, 94, 12};
        for (int who = 0; who < 6; who++) {
            c.due("of(" + who + ", 2)", x.of(who, 2), habits[who]);
        }
        c.due("weeks(1)", x.weeks(1), 3490);
        SeaJar y = Check.jarOf(HOUSE);
        c.due("two at once", y.weeks(2), 3490);
        c.holds("are alike", Check.seen(x).equals(Check.seen(y)));
        c.due("weeks(60)", y.weeks(60), 9999);
        c.due("week", y.count(1), 62);
    }

    private static void lastWeek() {
        c.about("promises 9 and 11, the last week");
        SeaJar x = Check.jarOf("9999,1,0;p101");
        for (int k = 0; k < 166; k++) {
            x.weeks(60);
        }
        c.due("week", x.count(1), 9960);
        c.due("weeks(40)", x.weeks(40), SeaJar.FULL);
        c.due("drift(40)", x.drift(40), SeaJar.FULL);
        c.due("weeks(61)", x.weeks(61), SeaJar.BAD);
        c.due("week", x.count(1), 9960);
        c.due("known", x.count(10), 8);
        c.due("weeks(38)", x.weeks(38), 0);
        c.due("weeks(2)", x.weeks(2), SeaJar.FULL);
        c.due("drift(2)", x.drift(2), SeaJar.FULL);
        c.due("drift(0)", x.drift(0), SeaJar.BAD);
        c.holds("drift(1)", x.drift(1) >= 0);
        c.due("week", x.count(1), 9999);
        c.due("weeks(1)", x.weeks(1), SeaJar.FULL);
        c.holds("what is foretold may be later", x.ahead(99, 0) >= 0);
        x.undo();
        c.due("weeks(1)", x.weeks(1), 0);
    }

    private static void take() {
        c.about("promise 10");
        SeaJar x = Check.jarOf(HOUSE);
        c.due("none are there", x.take(1), SeaJar.NOT);
        x.weeks(1);
        for (int n : new int[] {0, -1, 10000, Integer.MIN_VALUE}) {
            c.due("take(" + n + ")", x.take(n), SeaJar.BAD);
        }
        c.due("take(2041)", x.take(2041), SeaJar.NOT);
        c.due("known", x.count(10), 1);
        c.due("take(40)", x.take(40), 2000);
        c.due("known", x.count(10), 2);
        c.due("take(2000)", x.take(2000), 0);
        c.due("week", x.count(1), 1);
        x.weeks(60);
        c.due("take(9999)", x.take(9999), 0);
    }

    private static void drift() {
        c.about("promise 11");
        SeaJar x = Check.jarOf("9999,20,3;p199x,c110,c110x");
        for (int n : new int[] {0, -1, 61, Integer.MAX_VALUE}) {
            c.due("drift(" + n + ")", x.drift(n), SeaJar.BAD);
        }
        c.due("the draw", x.seed(1), 1);
        // 1103527590 by 65536 is 16838: 8 mishaps, 9 by the child's hope: 9 * 99 / 40 is 22.
        c.due("drift(1)", x.drift(1), 22);
        c.due("pence", x.count(2), 440);
        c.due("the draw", x.seed(1103527590), 1103527590);
        c.due("mishaps stay", x.count(5), 3);
        // 1103527590 becomes 377401575, by 65536 that is 5758: 8 again; then 662824084: 10113, 3.
        c.due("drift(2)", x.drift(2), 9 * 95 / 40 + 4 * 91 / 40);
        c.due("the draw", x.seed(5), 662824084);
        c.due("week", x.count(1), 3);
        c.due("known", x.count(10), 3);
        x.seed(Integer.MAX_VALUE);
        x.drift(1);
        long next = (2147483647L * 1103515245L + 12345L) & 0x7fffffffL;
        c.due("the draw", x.seed(0), next);
        x.drift(1);
        c.due("the draw", x.seed(0), 12345);
    }

    private static void undo() {
        c.about("promise 12");
        SeaJar x = Check.jarOf(HOUSE);
        c.due("undo()", x.undo(), SeaJar.NONE);
        String[] before = new String[6];
        before[0] = Check.seen(x);
        x.weeks(1);
        before[1] = Check.seen(x);
        x.take(100);
        before[2] = Check.seen(x);
        x.drift(1);
        before[3] = Check.seen(x);
        x.drift(1);
        before[4] = Check.seen(x);
        x.take(1);
        for (int k = 4; k >= 0; k--) {
            c.due("undo()", x.undo(), k);
            c.holds("as ahead of " + k, before[k].equals(Check.seen(x)));
        }
        c.due("undo()", x.undo(), SeaJar.NONE);

        x.weeks(1);
        x.rule(0, 5000);
        x.rule(1, 30);
        x.rule(2, 7);
        x.hope(5, 0);
        x.seed(99);
        c.due("undo()", x.undo(), 0);
        c.due("needs stay", x.count(3), 5000);
        c.due("price stays", x.count(4), 30);
        c.due("mishaps stay", x.count(5), 7);
        c.due("hopes stay", x.count(9), 0);
        c.due("the draw is as ahead of it", x.seed(1), 1);
        c.due("habit", x.of(0, 2), 60);

        x.weeks(2);
        Check.house(x, "4000,20,x");
        c.due("a fault leaves what may be undone", x.count(10), 2);
        Check.house(x, HOUSE);
        c.due("a house leaves nothing", x.undo(), SeaJar.NONE);
    }

    private static void undoKnowsEight() {
        c.about("promise 12, eight");
        SeaJar x = Check.jarOf(HOUSE);
        x.weeks(3);
        String third = Check.seen(x);
        x.take(5);
        x.weeks(7);
        c.due("known", x.count(10), 8);
        for (int left = 7; left >= 0; left--) {
            c.due("undo()", x.undo(), left);
        }
        c.due("undo()", x.undo(), SeaJar.NONE);
        c.due("week", x.count(1), 3);
        c.holds("as behind three", third.substring(0, 30).equals(Check.seen(x).substring(0, 30)));
        x.weeks(60);
        x.undo();
        c.due("week", x.count(1), 62);
        x.weeks(1);
        c.due("known", x.count(10), 8);
    }

    private static void seed() {
        c.about("promise 13");
        SeaJar x = new SeaJar();
        c.due("seed(0)", x.seed(0), 1);
        c.due("seed(-1)", x.seed(-1), SeaJar.BAD);
        c.due("seed(MIN)", x.seed(Integer.MIN_VALUE), SeaJar.BAD);
        c.due("seed(MAX)", x.seed(Integer.MAX_VALUE), 0);
        c.due("seed(7)", x.seed(7), Integer.MAX_VALUE);
    }
}
