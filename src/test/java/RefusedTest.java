import java.util.function.Supplier;
import java.util.function.ToIntFunction;

/**
 * Every call that is refused, by every argument that is just too small or too large, in objects that are
 * new, in use, or full: "Answers below 0, of several the first that a call names"; "What is refused
 * changes nothing"; "FORETOLD from now (nothing is changed)".
 */
public final class RefusedTest {
    private static final Check c = new Check();
    private static final int MIN = Integer.MIN_VALUE, MAX = Integer.MAX_VALUE;
    private static final int BAD = SeaJar.BAD, NOT = SeaJar.NOT, FULL = SeaJar.FULL, NONE = SeaJar.NONE;
    private static final int NULL = SeaJar.NULL, CAST = SeaJar.CAST, INDEX = SeaJar.INDEX, SIZE = SeaJar.SIZE;

    public static void main(String[] args) {
        badPeople();
        badRules();
        badDeeds();
        badForetold();
        badSheets();
        full();
        notAndNone();
        nullAndCast();
        index();
        size();
        theFirstThatIsNamed();
        foretoldChangesNothing();
        sheetsChangeNothingElse();
        theTapeChangesNothingElse();
        c.end("RefusedTest");
    }

    /** Three people, 7 to be undone, an older image, half a tape, sheets of 24 bytes, 8 shorts, nothing, 5 longs. */
    private static SeaJar busy() {
        SeaJar x = Check.jarOf("500,30,2;p560,c133,b430");
        x.seed(4711);
        x.weeks(2);
        x.take(5);
        x.image();
        x.drift(3);
        x.hope(1, 0);
        x.rule(0, 600);
        x.rule(1, 40);
        x.rule(2, 3);
        x.weeks(1);
        someSheets(x);
        for (char letter : "77,7,7;g777".toCharArray()) {
            x.type(letter);
        }
        return x;
    }

    private static void someSheets(SeaJar x) {
        x.sheet(0, 0, 24);
        x.sheet(1, 1, 8);
        x.sheet(3, 3, 5);
        for (int i = 0; i < 5; i++) {
            x.item(0, 0, 5 * i, 10 + i);
            x.item(1, 1, i, 20 + i);
            x.item(3, 3, i, 30 + i);
        }
    }

    /** Six people and sixty letters; nothing is in the jar, nothing to be undone, no image, all sheets but 2. */
    private static SeaJar crowded() {
        SeaJar x = Check.jarOf("500,30,2;p560,c133,b430,g555,h666,s777x");
        someSheets(x);
        for (int k = 0; k < 60; k++) {
            x.type("77,7,7;g777".charAt(k % 11));
        }
        return x;
    }

    /** It is WEEK 9998; by 167 calls, so that there is room for more. */
    private static SeaJar late() {
        SeaJar x = Check.jarOf("9999,1,0;p101,b101");
        for (int k = 0; k < 166; k++) {
            x.weeks(60);
        }
        x.weeks(38);
        return x;
    }

    private static void refused(int due, Supplier<SeaJar> made, String call, ToIntFunction<SeaJar> asked) {
        c.due(call, asked.applyAsInt(made.get()), due);
        c.holds(call + " changes nothing", Twins.leavesNoTrace(made, asked::applyAsInt));
    }

    /** Whatever else there is: so in a new object, too, and ahead of all other refusals. */
    private static void bad(String call, ToIntFunction<SeaJar> asked) {
        refused(BAD, SeaJar::new, call, asked);
        refused(BAD, RefusedTest::busy, call, asked);
        refused(BAD, RefusedTest::crowded, call, asked);
    }

    private static void badPeople() {
        c.about("promises 2, 3, 5: BAD");
        for (int kind : new int[] {MIN, -1, 6, MAX}) {
            bad("person of kind " + kind, x -> x.person(kind, 1, 0));
        }
        for (int temper : new int[] {MIN, 0, 10, MAX}) {
            bad("person of temper " + temper, x -> x.person(0, temper, 0));
        }
        for (int habit : new int[] {MIN, -1, 100, MAX}) {
            bad("person of habit " + habit, x -> x.person(0, 1, habit));
        }
        for (int who : new int[] {MIN, -1, 6, MAX}) {
            bad("of person " + who, x -> x.of(who, 0));
            bad("hope of person " + who, x -> x.hope(who, 1));
        }
        for (int what : new int[] {MIN, -1, 7, MAX}) {
            bad("of what " + what, x -> x.of(0, what));
        }
        for (int is : new int[] {MIN, -1, 2, MAX}) {
            bad("hope is " + is, x -> x.hope(0, is));
        }
        refused(BAD, SeaJar::new, "of nobody", x -> x.of(0, 0));
        refused(BAD, SeaJar::new, "hope of nobody", x -> x.hope(0, 0));
        refused(BAD, RefusedTest::busy, "of a fourth", x -> x.of(3, 0));
        refused(BAD, RefusedTest::busy, "hope of a fourth", x -> x.hope(3, 0));
    }

    private static void badRules() {
        c.about("promises 4, 6, 8: BAD");
        for (int what : new int[] {MIN, -1, 3, MAX}) {
            bad("rule " + what, x -> x.rule(what, 1));
        }
        for (int v : new int[] {MIN, -1, 0, 10000, MAX}) {
            bad("needs " + v, x -> x.rule(0, v));
        }
        for (int v : new int[] {MIN, -1, 0, 101, MAX}) {
            bad("price " + v, x -> x.rule(1, v));
        }
        for (int v : new int[] {MIN, -1, 10, MAX}) {
            bad("mishaps " + v, x -> x.rule(2, v));
        }
        for (int letter : new int[] {MIN, -1, 0, 31, 127, 256 + 'p', 65536 + 'p', MAX}) {
            bad("type " + letter, x -> x.type(letter));
        }
        for (int what : new int[] {MIN, -1, 11, MAX}) {
            bad("count " + what, x -> x.count(what));
        }
    }

    private static void badDeeds() {
        c.about("promises 9 to 13: BAD");
        for (int n : new int[] {MIN, -1, 0, 61, MAX}) {
            bad("weeks " + n, x -> x.weeks(n));
            bad("drift " + n, x -> x.drift(n));
        }
        for (int n : new int[] {MIN, -1, 0, 10000, MAX}) {
            bad("take " + n, x -> x.take(n));
        }
        bad("seed -1", x -> x.seed(-1));
        bad("seed least", x -> x.seed(MIN));
    }

    private static void badForetold() {
        c.about("promises 14 to 21: BAD");
        for (int n : new int[] {MIN, -1, 100, MAX}) {
            bad("ahead n " + n, x -> x.ahead(n, 0));
            bad("dearest n " + n, x -> x.dearest(n, 0));
            bad("quiet n " + n, x -> x.quiet(n, 0));
            bad("ends n " + n, x -> x.ends(n));
            bad("raised n " + n, x -> x.raised(1, n, 0));
            bad("hoped n " + n, x -> x.hoped(n, 0));
        }
        bad("ends n 0", x -> x.ends(0));
        for (int n : new int[] {MIN, -1, 7, MAX}) {
            bad("mean n " + n, x -> x.mean(n, 0));
        }
        bad("ahead what 3", x -> x.ahead(1, 3));
        bad("ahead what -1", x -> x.ahead(1, -1));
        for (int what : new int[] {MIN, -1, 2, MAX}) {
            bad("dearest what " + what, x -> x.dearest(1, what));
            bad("quiet what " + what, x -> x.quiet(1, what));
            bad("raised how " + what, x -> x.raised(1, 1, what));
            bad("hoped what " + what, x -> x.hoped(1, what));
            bad("mean what " + what, x -> x.mean(1, what));
            bad("of no weeks: dearest what " + what, x -> x.dearest(0, what));
            bad("of no weeks: raised how " + what, x -> x.raised(1, 0, what));
        }
        for (int q : new int[] {MIN, -1, 0, 101, MAX}) {
            bad("raised to " + q, x -> x.raised(q, 1, 0));
            bad("raised by steps to " + q, x -> x.raised(q, 0, 1));
        }
    }

    private static void badSheets() {
        c.about("promises 24 to 29: BAD");
        for (int s : new int[] {MIN, -1, 4, MAX}) {
            bad("taken by sheet " + s, x -> x.taken(s, 0, 0, 1, 0));
            bad("film to sheet " + s, x -> x.film(1, s, 0, 0));
            bad("sheet " + s, x -> x.sheet(s, 0, 1));
            bad("drop " + s, x -> x.drop(s));
            bad("item of sheet " + s, x -> x.item(s, 0, 0, 1));
            bad("copy from " + s, x -> x.copy(s, 0, 0, 0, 1));
            bad("copy to " + s, x -> x.copy(0, 0, s, 0, 1));
            bad("taken by lane " + s, x -> x.taken(0, s, 0, 1, 0));
            bad("film to lane " + s, x -> x.film(1, 0, s, 0));
            bad("sheet of lane " + s, x -> x.sheet(0, s, 1));
            bad("item of lane " + s, x -> x.item(0, s, 0, 1));
        }
        for (int n : new int[] {MIN, -1, 0, 9, MAX}) {
            bad("taken by n " + n, x -> x.taken(0, 0, 0, n, 0));
        }
        for (int what : new int[] {MIN, -1, 2, MAX}) {
            bad("taken what " + what, x -> x.taken(0, 0, 0, 1, what));
        }
        for (int n : new int[] {MIN, -1, 0, 25, MAX}) {
            bad("film n " + n, x -> x.film(n, 0, 0, 0));
        }
        bad("sheet of 25", x -> x.sheet(0, 0, 25));
        bad("sheet of most", x -> x.sheet(0, 0, MAX));
    }

    private static void full() {
        c.about("promises 2, 6, 9, 11: FULL");
        refused(FULL, RefusedTest::crowded, "a seventh person", x -> x.person(0, 1, 0));
        refused(FULL, RefusedTest::crowded, "a letter behind 60", x -> x.type('p'));
        refused(FULL, RefusedTest::late, "weeks to 10000", x -> x.weeks(2));
        refused(FULL, RefusedTest::late, "drift to 10000", x -> x.drift(2));
        refused(FULL, RefusedTest::late, "weeks to 10058", x -> x.weeks(60));
        refused(FULL, RefusedTest::late, "drift to 10058", x -> x.drift(60));
        c.due("weeks to 9999", late().weeks(1), 9999);
        SeaJar last = late();
        c.holds("drift to 9999", last.drift(1) >= 0);
        c.due("the last week", last.count(1), 9999);
        c.due("none behind it", last.weeks(1), FULL);
    }

    private static void notAndNone() {
        c.about("promises 10, 12, 15, 18, 23, 24: NOT, NONE");
        int there = busy().count(2);
        c.holds("some are there", there > 1 && there < 9999);
        refused(NOT, RefusedTest::busy, "take one more than there are", x -> x.take(there + 1));
        refused(NOT, RefusedTest::busy, "take 9999", x -> x.take(9999));
        refused(NOT, SeaJar::new, "take one of none", x -> x.take(1));
        c.due("take all", busy().take(there), 0);
        refused(NONE, SeaJar::new, "undo", x -> x.undo());
        refused(NONE, RefusedTest::crowded, "undo", x -> x.undo());
        refused(NONE, SeaJar::new, "due", x -> x.due());
        refused(NONE, SeaJar::new, "restore", x -> x.restore());
        refused(NONE, RefusedTest::crowded, "restore", x -> x.restore());
        refused(NONE, RefusedTest::crowded, "ends: a saint swears now", x -> x.ends(1));
        refused(NONE, RefusedTest::busy, "taken", x -> x.taken(0, 0, 0, 1, 1));
    }

    private static void nullAndCast() {
        c.about("promises 24, 25, 27 to 29: NULL, CAST");
        for (int lane = 0; lane < 4; lane++) {
            int as = lane;
            refused(NULL, RefusedTest::busy, "taken by nothing", x -> x.taken(2, as, 0, 1, 0));
            refused(NULL, RefusedTest::busy, "film to nothing", x -> x.film(1, 2, as, 0));
            refused(NULL, RefusedTest::busy, "item of nothing", x -> x.item(2, as, 0, 1));
            for (int sheet : new int[] {0, 1, 3}) {
                if (sheet != lane) {
                    refused(CAST, RefusedTest::busy, "taken as another lane", x -> x.taken(sheet, as, 0, 1, 0));
                    refused(CAST, RefusedTest::busy, "film as another lane", x -> x.film(1, sheet, as, 0));
                    refused(CAST, RefusedTest::busy, "item as another lane", x -> x.item(sheet, as, 0, 1));
                }
            }
        }
        refused(NULL, RefusedTest::busy, "drop of nothing", x -> x.drop(2));
        refused(NULL, RefusedTest::busy, "copy from nothing", x -> x.copy(2, 0, 0, 0, 1));
        refused(NULL, RefusedTest::busy, "copy to nothing", x -> x.copy(0, 0, 2, 0, 1));
        refused(NULL, RefusedTest::busy, "copy from nothing to itself", x -> x.copy(2, 0, 2, 0, 0));
        refused(CAST, RefusedTest::busy, "copy of unlike lanes", x -> x.copy(0, 0, 1, 0, 1));
        refused(CAST, RefusedTest::busy, "copy of unlike lanes", x -> x.copy(3, 0, 1, 0, 1));
        refused(CAST, RefusedTest::busy, "copy of no items of unlike lanes", x -> x.copy(1, 0, 3, 0, 0));
    }

    private static void index() {
        c.about("promises 24, 25, 28, 29: INDEX");
        // Sheet 1 has 8 items.
        for (int[] b : new int[][] {{-1, 1}, {8, 1}, {7, 2}, {1, 8}, {MAX, 1}, {MAX, 8}, {MAX - 7, 8}, {MIN, 8}}) {
            refused(INDEX, RefusedTest::busy, b[1] + " from " + b[0] + " taken", x -> x.taken(1, 1, b[0], b[1], 0));
            refused(INDEX, RefusedTest::busy, b[1] + " from " + b[0] + " filmed", x -> x.film(b[1], 1, 1, b[0]));
        }
        refused(INDEX, RefusedTest::busy, "9 filmed to 8", x -> x.film(9, 1, 1, 0));
        refused(INDEX, RefusedTest::busy, "24 filmed to 24, from 1 on", x -> x.film(24, 0, 0, 1));
        c.due("the last one taken", busy().taken(1, 1, 7, 1, 0), 0);
        c.due("all 8 taken", busy().taken(1, 1, 0, 8, 0), 0);
        c.due("the last one filmed", busy().film(1, 1, 1, 7), 1);
        c.due("all 24 filmed", busy().film(24, 0, 0, 0), 24);
        for (int i : new int[] {MIN, -1, 8, MAX}) {
            refused(INDEX, RefusedTest::busy, "item " + i, x -> x.item(1, 1, i, 1));
        }
        // From 8 items to 8, or from 24 to 24.
        for (int[] b : new int[][] {{-1, 0, 1}, {0, -1, 1}, {0, 0, -1}, {0, 0, 9}, {1, 0, 8}, {0, 1, 8}, {8, 0, 1},
            {0, 8, 1}, {9, 0, 0}, {0, 9, 0}, {-1, 0, 0}, {0, -1, 0}, {MAX, 0, 1}, {0, MAX, 1}, {0, 0, MAX},
            {1, 1, MAX}, {MIN, 0, 1}, {0, MIN, 1}, {0, 0, MIN}, {MIN, MIN, MIN}, {8, 8, -8}, {MAX, MAX, MAX}}) {
            refused(INDEX, RefusedTest::busy, "copy " + b[0] + " " + b[1] + " " + b[2],
                x -> x.copy(1, b[0], 1, b[1], b[2]));
        }
        c.due("copy none, from the end to the end", busy().copy(1, 8, 1, 8, 0), 0);
        c.due("copy all", busy().copy(1, 0, 1, 0, 8), 8);
    }

    private static void size() {
        c.about("promise 26: SIZE");
        for (int n : new int[] {-1, -24, -25, MIN}) {
            refused(SIZE, SeaJar::new, "sheet of " + n, x -> x.sheet(0, 0, n));
            refused(SIZE, RefusedTest::busy, "sheet of " + n, x -> x.sheet(3, 1, n));
        }
    }

    private static void theFirstThatIsNamed() {
        c.about("of several the first that a call names");
        c.due("weeks: BAD, then FULL", late().weeks(61), BAD);
        c.due("drift: BAD, then FULL", late().drift(61), BAD);
        c.due("take: BAD, then NOT", new SeaJar().take(10000), BAD);
        SeaJar x = busy();
        c.due("taken: BAD, then NULL", x.taken(2, 0, 0, 9, 0), BAD);
        c.due("taken: BAD, then CAST", x.taken(0, 1, 0, 1, 2), BAD);
        c.due("taken: BAD, then INDEX", x.taken(1, 1, 0, 9, 0), BAD);
        c.due("taken: NULL, then INDEX", x.taken(2, 0, -1, 1, 0), NULL);
        c.due("taken: CAST, then INDEX", x.taken(0, 1, -1, 1, 0), CAST);
        c.due("taken: INDEX, then NONE", x.taken(1, 1, 8, 1, 1), INDEX);
        c.due("film: BAD, then NULL", x.film(25, 2, 0, 0), BAD);
        c.due("film: BAD, then CAST", x.film(0, 0, 1, 0), BAD);
        c.due("film: BAD, then INDEX", x.film(25, 0, 0, 0), BAD);
        c.due("film: NULL, then INDEX", x.film(1, 2, 0, -1), NULL);
        c.due("film: CAST, then INDEX", x.film(1, 0, 1, -1), CAST);
        c.due("sheet: BAD, then SIZE", x.sheet(4, 0, -1), BAD);
        c.due("sheet: BAD, then SIZE", x.sheet(0, 4, -1), BAD);
        c.due("item: BAD, then NULL", x.item(2, 4, 0, 1), BAD);
        c.due("item: BAD, then INDEX", x.item(0, 4, -1, 1), BAD);
        c.due("item: NULL, then INDEX", x.item(2, 0, -1, 1), NULL);
        c.due("item: CAST, then INDEX", x.item(0, 1, -1, 1), CAST);
        c.due("copy: BAD, then NULL", x.copy(2, 0, 4, 0, 1), BAD);
        c.due("copy: BAD, then NULL", x.copy(4, 0, 2, 0, 1), BAD);
        c.due("copy: BAD, then INDEX", x.copy(0, -1, 4, 0, 1), BAD);
        c.due("copy: NULL, then INDEX", x.copy(2, -1, 0, 0, 1), NULL);
        c.due("copy: NULL, then INDEX", x.copy(0, 0, 2, 0, -1), NULL);
        c.due("copy: CAST, then INDEX", x.copy(0, 0, 1, 99, 1), CAST);
        c.due("copy: CAST, then INDEX", x.copy(0, 0, 1, 0, -1), CAST);
    }

    private static void traceless(String call, ToIntFunction<SeaJar> asked) {
        c.holds(call + " is answered", asked.applyAsInt(busy()) >= 0);
        c.holds(call + " changes nothing", Twins.leavesNoTrace(RefusedTest::busy, asked::applyAsInt));
        c.holds(call + " changes nothing", Twins.leavesNoTrace(RefusedTest::crowded, asked::applyAsInt));
    }

    private static void foretoldChangesNothing() {
        c.about("nothing is changed");
        traceless("of", x -> x.of(0, 6));
        traceless("count", x -> x.count(8));
        traceless("ahead", x -> x.ahead(99, 2));
        traceless("due", x -> x.due());
        traceless("dearest", x -> x.dearest(9, 0));
        traceless("quiet", x -> x.quiet(9, 1));
        traceless("ends", x -> Math.max(0, x.ends(9)));
        traceless("raised", x -> x.raised(100, 9, 1));
        traceless("hoped", x -> x.hoped(9, 0));
        traceless("mean", x -> x.mean(4, 0));
        traceless("taken", x -> x.taken(0, 0, 0, 8, 0));
    }

    private static void sheetsChangeNothingElse() {
        c.about("promises 25 to 29: but sheets nothing is changed");
        c.holds("film", Twins.leavesAllButSheets(RefusedTest::busy, x -> x.film(24, 0, 0, 0)));
        c.holds("sheet", Twins.leavesAllButSheets(RefusedTest::busy, x -> x.sheet(2, 3, 24)));
        c.holds("drop", Twins.leavesAllButSheets(RefusedTest::busy, x -> x.drop(0)));
        c.holds("item", Twins.leavesAllButSheets(RefusedTest::busy, x -> x.item(0, 0, 23, -1)));
        c.holds("copy", Twins.leavesAllButSheets(RefusedTest::busy, x -> x.copy(0, 0, 0, 4, 20)));
    }

    private static void theTapeChangesNothingElse() {
        c.about("promises 6 and 7: but the tape nothing is changed");
        c.holds("type", Twins.leavesAllButTheTape(RefusedTest::busy, x -> x.type('x')));
        c.holds("a fault", Twins.leavesAllButTheTape(RefusedTest::busy, x -> {
            x.type(',');
            c.due("a house's fault", x.house(), -32);
        }));
    }
}
