/** The boundary cases of TAKEN, UNDONE, DRIFT, and of the calls that do: the document's sentences above answers. */
public final class PastEdgesTest {
    private static final Check c = new Check();
    private static final int NEEDS = 0, PRICE = 1, MISHAPS = 2;
    private static final String ALL_KINDS = "3000,20,2;p560,b430,g355,h870,s999,c111";

    public static void main(String[] args) {
        takenNumbers();
        takenWeeks();
        takenNone();
        takenHowMany();
        takenOnBothSidesOfNeeds();
        takenOfAll();
        takenFromItem();
        takenOut();
        weeks();
        undoneEach();
        undoneEight();
        undoneToldSince();
        undoneNothingLeft();
        undoneRefused();
        drawOf31Bits();
        driftMishaps();
        driftHopes();
        driftWeeks();
        seed();
        c.end("PastEdgesTest");
    }

    /** A buyer who pays 200 a week; 1000 are there. */
    private static SeaJar thousand() {
        SeaJar x = Check.jarOf("9999,20,0;b100");
        x.weeks(5);
        x.sheet(0, 3, 24);
        return x;
    }

    private static void row(SeaJar x, long... items) {
        for (int i = 0; i < items.length; i++) {
            x.item(0, 3, i, items[i]);
        }
    }

    private static void found(String what, SeaJar x, int n, int many, int least) {
        c.due(what + ": how many", x.taken(0, 3, 0, n, 0), many);
        c.due(what + ": the least", x.taken(0, 3, 0, n, 1), least);
    }

    private static void takenNumbers() {
        c.about("TAKEN: how much less (0 .. PENCE there are) might be in THE JAR now so that it would be so");
        SeaJar x = thousand();
        int[][] due = {{1201, 0, SeaJar.NONE}, {1200, 1, 0}, {1199, 1, 1}, {201, 1, 999}, {200, 1, 1000},
            {199, 0, SeaJar.NONE}};
        for (int[] d : due) {
            row(x, d[0]);
            found("1000 there, " + d[0] + " told", x, 1, d[1], d[2]);
        }
        SeaJar empty = Check.jarOf("9999,20,0;b100");
        empty.sheet(0, 3, 24);
        row(empty, 200);
        found("nothing there, 200 told", empty, 1, 1, 0);
        row(empty, 199);
        found("nothing there, 199 told", empty, 1, 0, SeaJar.NONE);
        row(empty, 0);
        found("nothing there, 0 told", empty, 1, 0, SeaJar.NONE);
        c.due("pence stay", x.count(2), 1000);
    }

    private static void takenWeeks() {
        c.about("TAKEN: PENCE behind each of n WEEKS (1 .. 8) from now on");
        SeaJar x = thousand();
        row(x, 1150, 1350, 1550, 1750, 1950, 2150, 2350, 2550, 2750);
        c.due("of 0", x.taken(0, 3, 0, 0, 0), SeaJar.BAD);
        for (int n = 1; n <= 8; n++) {
            found("of " + n, x, n, 1, 50);
        }
        c.due("of 9", x.taken(0, 3, 0, 9, 0), SeaJar.BAD);
        for (int wrong = 0; wrong < 8; wrong++) {
            x.item(0, 3, wrong, 1151 + 200 * wrong);
            for (int n = 1; n <= 8; n++) {
                boolean so = n <= wrong;
                if (wrong > 0 || n > 1) {
                    found("of " + n + ", week " + wrong + " not so", x, n, so ? 1 : 0, so ? 50 : SeaJar.NONE);
                }
            }
            x.item(0, 3, wrong, 1150 + 200 * wrong);
        }
    }

    private static void takenNone() {
        c.about("TAKEN: none");
        SeaJar x = thousand();
        for (long item : new long[] {-1, -200, Long.MIN_VALUE, Long.MIN_VALUE + 200, Long.MAX_VALUE, 10000, 10200,
            1200 + (1L << 32), 1150 - (1L << 32), 9999}) {
            row(x, item);
            found("by " + item, x, 1, 0, SeaJar.NONE);
        }
    }

    private static void takenHowMany() {
        c.about("TAKEN: how many such numbers; the least");
        SeaJar x = Check.jarOf("1,20,0;b100");
        x.weeks(60);
        x.sheet(0, 3, 24);
        row(x, 9999, 9999, 9999, 9999, 9999, 9999, 9999, 9999);
        found("9799 .. 9999", x, 1, 201, 0);
        found("9799 .. 9999", x, 8, 201, 0);
        x.take(200);
        found("9799 alone", x, 1, 1, 0);
        x.take(1);
        found("9798: none", x, 1, 0, SeaJar.NONE);
        row(x, 9998, 9999);
        found("9798 is filled by the second", x, 2, 1, 0);
        row(x, 9998, 9998);
        found("but is not 9998 again", x, 2, 0, SeaJar.NONE);
        x.undo();
        x.undo();
        row(x, 9998, 9999);
        found("of 9999: 9798", x, 2, 1, 201);
        row(x, 9999, 9998);
        found("it gets not less", x, 2, 0, SeaJar.NONE);
        SeaJar nobody = Check.jarOf("1,100,9;p999,p999");
        nobody.weeks(1);
        nobody.rule(MISHAPS, 0);
        nobody.sheet(0, 3, 24);
        row(nobody, 9999, 9999);
        found("nobody pays: 9999 alone", nobody, 2, 1, 0);
    }

    /** By the child's hope 180 more come in a week ahead of which there are less than 500. */
    private static SeaJar hoping() {
        SeaJar x = Check.jarOf("500,20,0;b100,c100x,p935");
        x.weeks(5);
        x.hope(1, 1);
        x.sheet(0, 3, 24);
        if (x.count(2) != 1000 || x.of(2, 2) != 40) {
            throw new IllegalStateException();
        }
        return x;
    }

    private static void takenOnBothSidesOfNeeds() {
        c.about("TAKEN: in a WEEK ahead of which there is less in THE JAR than it NEEDS");
        SeaJar x = hoping();
        row(x, 760, 960);
        found("560 and 200, 380 and 380", x, 1, 2, 440);
        found("both go on alike", x, 2, 2, 440);
        row(x, 700, 900);
        found("500 and 200, 320 and 380", x, 2, 2, 500);
        row(x, 699);
        found("319 and 380, not 499 and 200", x, 1, 1, 681);
        row(x, 879);
        found("499 and 380, 679 and 200", x, 1, 2, 321);
        row(x, 880);
        found("680 and 200, not 500 and 380", x, 1, 1, 320);
        row(x, 380, 740);
        found("0 and 380", x, 1, 1, 1000);
        found("0 and 380, then 200 and 160, by a habit of 39", x, 2, 1, 1000);
        x.hope(1, 0);
        row(x, 760);
        found("nobody hopes: 560 alone", x, 1, 1, 440);
    }

    private static void takenOfAll() {
        c.about("TAKEN: 0 .. PENCE there are, of a full jar");
        SeaJar x = Check.jarOf("9999,100,9;p999,p999,p999,p999,p999,p999");
        x.weeks(1);
        x.sheet(0, 3, 24);
        row(x, 9999, 9999);
        found("by 36000 each fills it", x, 1, 10000, 0);
        found("by 36000 each fills it", x, 2, 10000, 0);
        // Below 9999 there come 380, at 9999 but 200.
        SeaJar y = Check.jarOf("9999,20,0;b100,c100x,p901");
        y.weeks(60);
        y.hope(1, 1);
        y.sheet(0, 3, 24);
        int high = 200 + 9 * y.of(2, 2) / 40 * 20;
        c.due("pence", y.count(2), 9999);
        row(y, 9999);
        found("less than needed, and just that", y, 1, high + 1, 0);
        y.take(1);
        found("less than needed", y, 1, high, 0);
    }

    private static void takenFromItem() {
        c.about("promise 24: n items from item i on");
        SeaJar x = thousand();
        x.item(0, 3, 16, 1100);
        x.item(0, 3, 17, 1300);
        x.item(0, 3, 23, 1150);
        c.due("the last one", x.taken(0, 3, 23, 1, 1), 50);
        c.due("from 16 on", x.taken(0, 3, 16, 2, 1), 100);
        c.due("from 16 on, the last eight", x.taken(0, 3, 16, 8, 1), SeaJar.NONE);
        c.due("from 15 on", x.taken(0, 3, 15, 2, 1), SeaJar.NONE);
        c.due("from 17 on, eight", x.taken(0, 3, 17, 8, 1), SeaJar.INDEX);
        c.due("from 24 on", x.taken(0, 3, 24, 1, 1), SeaJar.INDEX);
        for (int lane = 0; lane < 4; lane++) {
            x.sheet(1, lane, 1);
            x.item(1, lane, 0, 1150);
            c.due("of lane " + lane, x.taken(1, lane, 0, 1, 1), lane == 0 ? SeaJar.NONE : 50);
        }
    }

    private static void takenOut() {
        c.about("promise 10: n PENCE (1 .. 9999) are TAKEN out; NOT: there are not so many");
        SeaJar x = thousand();
        c.due("0", x.take(0), SeaJar.BAD);
        c.due("1", x.take(1), 999);
        c.due("one more than there are", x.take(1000), SeaJar.NOT);
        c.due("all", x.take(999), 0);
        c.due("of none", x.take(1), SeaJar.NOT);
        c.due("10000", x.take(10000), SeaJar.BAD);
        SeaJar full = Check.jarOf("1,100,0;b100,b100");
        full.weeks(5);
        c.due("9999", full.take(9999), 0);
    }

    private static void weeks() {
        c.about("promise 9: n WEEKS (1 .. 60): PENCE");
        SeaJar x = Check.jarOf("9999,1,0;b100");
        c.due("0", x.weeks(0), SeaJar.BAD);
        c.due("1", x.weeks(1), 10);
        c.due("60", x.weeks(60), 610);
        c.due("61", x.weeks(61), SeaJar.BAD);
        c.due("week", x.count(1), 61);
        c.about("promise 9: FULL: the WEEK would be above 9999");
        for (int k = 0; k < 165; k++) {
            x.weeks(60);
        }
        c.due("week", x.count(1), 9961);
        c.due("to 10000", x.weeks(39), SeaJar.FULL);
        c.due("week", x.count(1), 9961);
        c.due("to 9999", x.weeks(38), 9999);
        c.due("week", x.count(1), 9999);
        c.due("one more", x.weeks(1), SeaJar.FULL);
        c.due("undo()", x.undo(), 7);
        c.due("one again", x.weeks(1), 9999);
        c.due("week", x.count(1), 9999);
    }

    private static void undoneEach() {
        c.about("UNDONE: the latest WEEK, what was TAKEN out is as it had not been: PENCE, HABITS, the WEEK, THE DRAW");
        SeaJar x = Check.jarOf(ALL_KINDS);
        x.seed(77);
        String[] ahead = new String[5];
        ahead[0] = Check.seen(x);
        x.weeks(1);
        ahead[1] = Check.seen(x);
        x.take(2040);
        ahead[2] = Check.seen(x);
        x.drift(1);
        ahead[3] = Check.seen(x);
        x.take(1);
        for (int left = 3; left >= 0; left--) {
            c.due("undo()", x.undo(), left);
            c.holds("all as ahead of it", ahead[left].equals(Check.seen(x)));
        }
        c.due("undo()", x.undo(), SeaJar.NONE);
        x.weeks(2);
        c.due("a week of two is one", x.undo(), 1);
        c.due("week", x.count(1), 1);
        x.drift(3);
        c.due("a week of a drift is one", x.undo(), 3);
        c.due("week", x.count(1), 3);
        SeaJar full = Check.jarOf("9999,100,0;b100,b100");
        full.weeks(5);
        full.take(9999);
        full.undo();
        c.due("what was cut comes back as it was", full.count(2), 9999);
        full.undo();
        c.due("8000 ahead of it", full.count(2), 8000);
    }

    private static void undoneEight() {
        c.about("UNDONE (8 are known, older ones lost)");
        for (int n = 1; n <= 20; n++) {
            SeaJar x = Check.jarOf(ALL_KINDS);
            x.weeks(n);
            int known = Math.min(8, n);
            c.due("known behind " + n, x.count(10), known);
            for (int left = known - 1; left >= 0; left--) {
                c.due("undo()", x.undo(), left);
                SeaJar twin = Check.jarOf(ALL_KINDS);
                int week = n - known + left;
                c.due("pence", x.count(2), week == 0 ? 0 : twin.weeks(week));
                c.due("a habit", x.of(0, 2), twin.of(0, 2));
            }
            c.due("older ones are lost", x.undo(), SeaJar.NONE);
            c.due("week", x.count(1), n - known);
        }
        SeaJar x = Check.jarOf("9999,1,0;b100");
        x.weeks(60);
        for (int k = 0; k < 7; k++) {
            x.take(1);
        }
        c.due("8 known", x.count(10), 8);
        x.take(1);
        c.due("8 known, too", x.count(10), 8);
        for (int left = 7; left >= 0; left--) {
            x.undo();
        }
        c.due("the week is not undone", x.count(1), 60);
        c.due("what was taken is", x.count(2), 600);
        c.due("no more", x.undo(), SeaJar.NONE);
        c.due("none known", x.count(10), 0);
    }

    private static void undoneToldSince() {
        c.about("UNDONE: as ahead of it, whatever was told since");
        SeaJar x = Check.jarOf(ALL_KINDS);
        x.weeks(1);
        x.rule(NEEDS, 1);
        x.rule(PRICE, 100);
        x.rule(MISHAPS, 9);
        x.hope(5, 0);
        x.seed(99);
        x.type('4');
        x.sheet(0, 0, 3);
        c.due("undo()", x.undo(), 0);
        c.due("week", x.count(1), 0);
        c.due("pence", x.count(2), 0);
        c.due("habit", x.of(0, 2), 60);
        c.due("the draw", Twins.draw(x), 1);
        c.due("needs are as told", x.count(3), 1);
        c.due("price is as told", x.count(4), 100);
        c.due("mishaps are as told", x.count(5), 9);
        c.due("hopes are as told", x.of(5, 3), 0);
        c.due("the tape is as typed", x.type('4'), 2);
        c.due("a sheet is as it is", x.drop(0), 3);
    }

    private static void undoneNothingLeft() {
        c.about("UNDONE: a HOUSE, a new PERSON leave nothing to be UNDONE");
        SeaJar x = new SeaJar();
        x.weeks(9);
        c.due("person", x.person(0, 1, 0), 0);
        c.due("known", x.count(10), 0);
        c.due("undo()", x.undo(), SeaJar.NONE);
        c.due("week", x.count(1), 9);
        x.weeks(1);
        c.due("known", x.count(10), 1);
        c.due("a house", Check.house(x, "1,1,1;p111"), 1);
        c.due("known", x.count(10), 0);
        c.due("undo()", x.undo(), SeaJar.NONE);
    }

    private static void undoneRefused() {
        c.about("UNDONE: what is refused leaves what may be undone");
        SeaJar x = Check.jarOf(ALL_KINDS);
        x.weeks(3);
        x.person(0, 1, 0);
        x.person(6, 1, 0);
        Check.house(x, "1,1,1;p11");
        x.take(9999);
        x.take(0);
        x.weeks(61);
        x.drift(0);
        x.seed(-1);
        c.due("known", x.count(10), 3);
        c.due("undo()", x.undo(), 2);
        c.due("week", x.count(1), 2);
    }

    private static void drawOf31Bits() {
        c.about("THE DRAW is a number of 31 bits (1 at first): the lowest 31 bits of itself times 1103515245 and 12345 more");
        c.due("at first", Twins.draw(new SeaJar()), 1);
        int[][] draws = {{0, 12345, 1406932606}, {1, 1103527590, 377401575}, {2, 59559187, 1495354192},
            {65535, 212263372, 732068885}, {Integer.MAX_VALUE, 1043980748, 288979989}};
        for (int[] d : draws) {
            SeaJar x = new SeaJar();
            x.seed(d[0]);
            x.drift(1);
            c.due("behind " + d[0], Twins.draw(x), d[1]);
            x.drift(1);
            c.due("behind " + d[1], Twins.draw(x), d[2]);
            x.weeks(1);
            x.take(1);
            x.ahead(9, 0);
            c.due("but a drift leaves it", Twins.draw(x), d[2]);
        }
    }

    /** A buyer of temper 1 and habit 99, at a price of 79, says 2 words by each mishap. */
    private static void driftMishaps() {
        c.about("it by 65536, left over by 10, is MISHAPS of this WEEK");
        int[] seeds = {0, 1, 2, Integer.MAX_VALUE, 4711, 65535};
        int[][] mishaps = {{0, 8, 8, 7, 8, 7, 5, 1}, {8, 8, 3, 5, 1, 7, 0, 9}, {8, 7, 9, 4, 7, 5, 6, 5},
            {9, 9, 2, 8, 3, 6, 0, 3}, {1, 3, 1, 1, 2, 6, 0, 2}, {8, 0, 3, 9, 6, 9, 3, 8}};
        for (int s = 0; s < seeds.length; s++) {
            SeaJar x = Check.jarOf("9999,79,3;b199");
            x.seed(seeds[s]);
            int all = 0;
            for (int m : mishaps[s]) {
                c.due("a drift by " + seeds[s], x.drift(1), 2 * m);
                all += 2 * m;
            }
            SeaJar y = Check.jarOf("9999,79,3;b199");
            y.seed(seeds[s]);
            c.due("words of all in these", y.drift(8), all);
            c.due("mishaps are as told", y.count(5), 3);
            c.due("week", y.count(1), 8);
            c.due("pence", y.count(2), 8 * 790);
            c.due("known", y.count(10), 8);
        }
    }

    private static void driftHopes() {
        c.about("DRIFT: (HOPES make them more)");
        SeaJar x = Check.jarOf("791,79,3;b199,c111,c111,c111x");
        c.due("8 and 2", x.drift(1), 20);
        c.due("one less than needed: 8 and 2", x.drift(1), 20);
        c.due("enough: 3", x.drift(1), 6);
        x.undo();
        x.undo();
        x.rule(NEEDS, 790);
        c.due("just what is needed: 8", x.drift(1), 16);
    }

    private static void driftWeeks() {
        c.about("promise 11: n WEEKS (1 .. 60); FULL: likewise");
        SeaJar x = Check.jarOf("9999,79,3;b199");
        c.due("0", x.drift(0), SeaJar.BAD);
        c.due("61", x.drift(61), SeaJar.BAD);
        c.holds("60", x.drift(60) > 0);
        c.due("week", x.count(1), 60);
        c.due("known", x.count(10), 8);
        for (int k = 0; k < 165; k++) {
            x.weeks(60);
        }
        int draw = Twins.draw(x);
        c.due("to 10000", x.drift(40), SeaJar.FULL);
        c.due("the draw stays", Twins.draw(x), draw);
        c.holds("to 9999", x.drift(39) > 0);
        c.due("week", x.count(1), 9999);
        c.due("one more", x.drift(1), SeaJar.FULL);
    }

    private static void seed() {
        c.about("promise 13: BAD: below 0");
        SeaJar x = new SeaJar();
        c.due("-1", x.seed(-1), SeaJar.BAD);
        c.due("the least", x.seed(Integer.MIN_VALUE), SeaJar.BAD);
        c.due("0", x.seed(0), 1);
        c.due("the most", x.seed(Integer.MAX_VALUE), 0);
        c.due("what it was", x.seed(1), Integer.MAX_VALUE);
    }
}
