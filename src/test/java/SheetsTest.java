/** Promises 24 to 29: what was taken, by what was counted; sheets that may be missing. */
public final class SheetsTest {
    private static final Check c = new Check();
    private static final int MIN = Integer.MIN_VALUE, MAX = Integer.MAX_VALUE;

    public static void main(String[] args) {
        taken();
        takenWhenFull();
        takenAcrossNeeds();
        takenRefuses();
        film();
        sheet();
        drop();
        item();
        copy();
        copyRefuses();
        c.end("SheetsTest");
    }

    /** A jar of 9999 into which nobody pays, so that TAKEN by one item tells what the item is. */
    private static SeaJar reader() {
        SeaJar x = Check.jarOf("9999,100,9;p999,p999,p999");
        x.weeks(20);
        x.rule(2, 0);
        if (x.count(2) != 9999 || x.count(8) != 0) {
            throw new IllegalStateException();
        }
        return x;
    }

    /** An item 0 .. 9999 of a reader's sheet; -1: it is another. */
    private static int read(SeaJar x, int sheet, int lane, int i) {
        int less = x.taken(sheet, lane, i, 1, 1);
        return less == SeaJar.NONE ? -1 : 9999 - less;
    }

    private static void reads(SeaJar x, int sheet, int lane, int... items) {
        for (int i = 0; i < items.length; i++) {
            c.due("item " + i + " of " + sheet, read(x, sheet, lane, i), items[i]);
        }
    }

    private static void taken() {
        c.about("promise 24");
        SeaJar x = Check.jarOf("9999,20,3;b150");
        x.weeks(5);
        x.sheet(2, 2, 20);
        x.item(2, 2, 3, 1150);
        x.item(2, 2, 4, 1350);
        x.item(2, 2, 5, 1551);
        // 1000 are there, 200 come each week.
        c.due("950 were there", x.taken(2, 2, 3, 1, 0), 1);
        c.due("50 taken", x.taken(2, 2, 3, 1, 1), 50);
        c.due("by two", x.taken(2, 2, 3, 2, 1), 50);
        c.due("by three: none", x.taken(2, 2, 3, 3, 0), 0);
        c.due("by three: none", x.taken(2, 2, 3, 3, 1), SeaJar.NONE);
        x.item(2, 2, 3, 1200);
        c.due("nothing", x.taken(2, 2, 3, 1, 1), 0);
        x.item(2, 2, 3, 1201);
        c.due("more than there are", x.taken(2, 2, 3, 1, 0), 0);
        x.item(2, 2, 3, 200);
        c.due("all", x.taken(2, 2, 3, 1, 1), 1000);
        x.item(2, 2, 3, 199);
        c.due("more than all", x.taken(2, 2, 3, 1, 1), SeaJar.NONE);
        c.due("pence stay", x.count(2), 1000);
        SeaJar nobody = new SeaJar();
        nobody.sheet(0, 3, 8);
        c.due("an empty jar stays so", nobody.taken(0, 3, 0, 8, 0), 1);
        c.due("nothing", nobody.taken(0, 3, 0, 8, 1), 0);
    }

    private static void takenWhenFull() {
        c.about("promise 24, a full jar");
        SeaJar x = Check.jarOf("1,20,3;b150");
        for (int k = 0; k < 55; k++) {
            x.weeks(1);
        }
        c.due("pence", x.count(2), 9999);
        x.sheet(0, 1, 8);
        x.film(8, 0, 1, 0);
        c.due("9799 .. 9999", x.taken(0, 1, 0, 8, 0), 201);
        c.due("the least", x.taken(0, 1, 0, 8, 1), 0);
        x.take(100);
        c.due("9799 .. 9899", x.taken(0, 1, 0, 3, 0), 101);
        c.due("the least", x.taken(0, 1, 0, 3, 1), 0);
        x.take(100);
        c.due("9799", x.taken(0, 1, 0, 3, 0), 1);
        x.take(1);
        c.due("none", x.taken(0, 1, 0, 3, 0), 0);
        x.item(0, 1, 0, 9998);
        c.due("it can be full later", x.taken(0, 1, 0, 2, 0), 1);
        c.due("9798", x.taken(0, 1, 0, 2, 1), 0);
        x.item(0, 1, 0, 10198);
        c.due("above 9999 it is never", x.taken(0, 1, 0, 1, 0), 0);
    }

    /** Below NEEDS a child's hope makes more words, so that two starts may end alike. */
    private static void takenAcrossNeeds() {
        c.about("promise 24, across needs");
        SeaJar x = Check.jarOf("1000,20,0;c150,p580,b150");
        x.weeks(4);
        int pence = x.count(2);
        x.rule(0, pence - 50);
        x.rule(2, 1);
        x.sheet(0, 2, 8);
        // At or above NEEDS the first WEEK brings one sum, below it a greater one.
        int high = x.count(8);
        SeaJar twin = Check.jarOf("1000,20,0;c150,p580,b150");
        twin.weeks(4);
        twin.rule(0, pence);
        twin.rule(2, 1);
        twin.take(1);
        int low = twin.count(8);
        c.holds("more below", low > high);
        int both = pence - 50 + high + (low - high > 50 ? 50 : low - high);
        x.item(0, 2, 0, both);
        int first = pence - (both - high);
        int second = pence - (both - low);
        int due = (first >= 0 && first <= 50 ? 1 : 0) + (second > 50 ? 1 : 0);
        c.due("how many", x.taken(0, 2, 0, 1, 0), due);
        c.due("two", due, 2);
        c.due("the least", x.taken(0, 2, 0, 1, 1), first);
        x.item(0, 2, 0, pence - 51 + low);
        c.due("just below needs", x.taken(0, 2, 0, 1, 1), 51);
        x.item(0, 2, 0, pence - 50 + low);
        c.due("just needs do not bring this", x.taken(0, 2, 0, 1, 0), 0);
        x.item(0, 2, 0, pence - 50 + high);
        c.due("just needs", x.taken(0, 2, 0, 1, 1), 50);
    }

    private static void takenRefuses() {
        c.about("promise 24, refused");
        SeaJar x = Check.jarOf("1000,20,3;p550");
        x.sheet(1, 2, 10);
        int[][] bad = {{-1, 2, 0, 1, 0}, {4, 2, 0, 1, 0}, {1, -1, 0, 1, 0}, {1, 4, 0, 1, 0}, {1, 2, 0, 0, 0},
            {1, 2, 0, 9, 0}, {1, 2, 0, 1, -1}, {1, 2, 0, 1, 2}, {0, 2, 0, 9, 0}, {1, 1, 99, 1, 2}, {1, 2, 0, -1, 0}};
        for (int[] b : bad) {
            c.due("bad", x.taken(b[0], b[1], b[2], b[3], b[4]), SeaJar.BAD);
        }
        c.due("nothing", x.taken(0, 2, 99, 1, 0), SeaJar.NULL);
        c.due("another lane", x.taken(1, 3, 99, 1, 0), SeaJar.CAST);
        for (int[] b : new int[][] {{-1, 1}, {10, 1}, {3, 8}, {9, 2}, {MAX, 1}, {MAX, 8}, {MIN, 1}}) {
            c.due("index " + b[0] + ", " + b[1], x.taken(1, 2, b[0], b[1], 1), SeaJar.INDEX);
        }
        c.due("the last eight", x.taken(1, 2, 2, 8, 1), SeaJar.NONE);
    }

    private static void film() {
        c.about("promise 25");
        SeaJar x = reader();
        x.take(9999);
        x.person(1, 1, 50);
        x.sheet(0, 3, 24);
        x.image();
        c.due("film(24, 0, 3, 0)", x.film(24, 0, 3, 0), 24);
        int[] pence = new int[24];
        String before = Check.seen(x);
        for (int n = 1; n <= 24; n++) {
            pence[n - 1] = x.ahead(n, 0);
        }
        c.holds("nothing is changed", before.equals(Check.seen(x)));
        SeaJar y = reader();
        y.take(9999);
        y.person(1, 1, 50);
        y.sheet(0, 3, 24);
        y.sheet(1, 2, 5);
        y.film(24, 0, 3, 0);
        y.film(3, 1, 2, 2);
        fill(y);
        reads(y, 0, 3, pence);
        reads(y, 1, 2, 0, 0, pence[0], pence[1], pence[2]);
        for (int[] b : new int[][] {{0, 0, 3, 0}, {25, 0, 3, 0}, {-1, 0, 3, 0}, {1, -1, 3, 0}, {1, 4, 3, 0},
            {1, 0, -1, 0}, {1, 0, 4, 0}, {25, 2, 0, 0}, {MAX, 0, 3, 0}}) {
            c.due("bad", x.film(b[0], b[1], b[2], b[3]), SeaJar.BAD);
        }
        c.due("nothing", y.film(1, 2, 0, 99), SeaJar.NULL);
        c.due("another lane", y.film(1, 0, 2, 99), SeaJar.CAST);
        for (int[] b : new int[][] {{1, -1}, {1, 24}, {2, 23}, {24, 1}, {1, MAX}, {24, MAX}, {1, MIN}}) {
            c.due("index " + b[0] + ", " + b[1], y.film(b[0], 0, 3, b[1]), SeaJar.INDEX);
        }
        reads(y, 0, 3, pence);
        y.sheet(2, 1, 5);
        y.film(2, 2, 1, 1);
        reads(y, 2, 1, 0, 9999, 9999, 0, 0);
        SeaJar z = reader();
        z.sheet(0, 0, 1);
        z.film(1, 0, 0, 0);
        reads(z, 0, 0, 15);
    }

    /** Fills the jar and keeps the sheets; then nobody pays. */
    private static void fill(SeaJar x) {
        Check.house(x, "9999,100,9;p999,p999,p999");
        x.weeks(20);
        x.rule(2, 0);
    }

    private static void sheet() {
        c.about("promise 26");
        SeaJar x = reader();
        for (int[] b : new int[][] {{-1, 0, 1}, {4, 0, 1}, {0, -1, 1}, {0, 4, 1}, {0, 0, 25}, {4, 0, -1},
            {0, 4, -1}, {0, 0, MAX}, {MIN, 0, 1}}) {
            c.due("bad", x.sheet(b[0], b[1], b[2]), SeaJar.BAD);
        }
        c.due("sheet(0, 0, -1)", x.sheet(0, 0, -1), SeaJar.SIZE);
        c.due("sheet(0, 0, MIN)", x.sheet(0, 0, MIN), SeaJar.SIZE);
        c.due("nothing", x.drop(0), SeaJar.NULL);
        for (int s = 0; s < 4; s++) {
            c.due("sheet", x.sheet(s, s, 6 * s), 6 * s);
            c.due("another lane", x.item(s, (s + 1) % 4, 0, 1), SeaJar.CAST);
        }
        c.due("of no items", x.item(0, 0, 0, 1), SeaJar.INDEX);
        c.due("item", x.item(1, 1, 5, 55), 1);
        c.due("refused", x.sheet(1, 1, -7), SeaJar.SIZE);
        reads(x, 1, 1, 0, 0, 0, 0, 0, 55);
        x.item(1, 1, 0, 44);
        c.due("anew", x.sheet(1, 1, 24), 24);
        reads(x, 1, 1, new int[24]);
        x.item(1, 1, 23, 8);
        c.due("shorter", x.sheet(1, 2, 3), 3);
        c.due("index", x.item(1, 2, 3, 8), SeaJar.INDEX);
        x.sheet(1, 2, 24);
        reads(x, 1, 2, new int[24]);
    }

    private static void drop() {
        c.about("promise 27");
        SeaJar x = new SeaJar();
        for (int s : new int[] {-1, 4, MIN, MAX}) {
            c.due("drop(" + s + ")", x.drop(s), SeaJar.BAD);
        }
        c.due("drop(3)", x.drop(3), SeaJar.NULL);
        x.sheet(3, 1, 0);
        c.due("drop(3)", x.drop(3), 0);
        c.due("drop(3)", x.drop(3), SeaJar.NULL);
        x.sheet(3, 1, 24);
        x.sheet(3, 1, 23);
        c.due("drop(3)", x.drop(3), 23);
        c.due("item", x.item(3, 1, 0, 0), SeaJar.NULL);
    }

    private static void item() {
        c.about("promise 28");
        SeaJar x = reader();
        long[] values = {300, 65536 + 5, (1L << 32) + 7, 200, 40000, 9999, -1, Long.MIN_VALUE, (1L << 31) + 3, 127, 128};
        int[][] due = {
            {44, 5, 7, -1, 64, 15, -1, 0, 3, 127, -1},
            {300, 5, 7, 200, -1, 9999, -1, 0, 3, 127, 128},
            {300, -1, 7, 200, -1, 9999, -1, 0, -1, 127, 128},
            {300, -1, -1, 200, -1, 9999, -1, -1, -1, 127, 128}};
        for (int lane = 0; lane < 4; lane++) {
            x.sheet(lane, lane, values.length);
            for (int i = 0; i < values.length; i++) {
                c.due("item", x.item(lane, lane, i, values[i]), 1);
            }
            reads(x, lane, lane, due[lane]);
        }
        for (int[] b : new int[][] {{-1, 0, 0}, {4, 0, 0}, {0, -1, 0}, {0, 4, 0}, {MAX, 0, 0}, {0, MIN, 0}}) {
            c.due("bad", x.item(b[0], b[1], b[2], 1), SeaJar.BAD);
        }
        c.due("another lane", x.item(1, 2, -1, 1), SeaJar.CAST);
        for (int i : new int[] {-1, values.length, MIN, MAX}) {
            c.due("index " + i, x.item(1, 1, i, 1), SeaJar.INDEX);
        }
        x.drop(1);
        c.due("nothing", x.item(1, 2, -1, 1), SeaJar.NULL);
        c.due("bad", x.item(1, 4, -1, 1), SeaJar.BAD);
    }

    private static SeaJar counted() {
        SeaJar x = reader();
        x.sheet(0, 2, 6);
        x.sheet(1, 2, 4);
        x.sheet(2, 3, 6);
        for (int i = 0; i < 6; i++) {
            x.item(0, 2, i, i + 1);
            x.item(1, 2, i, 10 * (i + 1));
        }
        return x;
    }

    private static void copy() {
        c.about("promise 29");
        SeaJar x = counted();
        c.due("to another", x.copy(0, 3, 1, 1, 3), 3);
        reads(x, 1, 2, 10, 4, 5, 6);
        reads(x, 0, 2, 1, 2, 3, 4, 5, 6);
        c.due("to later ones of the same", x.copy(0, 0, 0, 2, 4), 4);
        reads(x, 0, 2, 1, 2, 1, 2, 3, 4);
        x = counted();
        c.due("to earlier ones of the same", x.copy(0, 2, 0, 0, 4), 4);
        reads(x, 0, 2, 3, 4, 5, 6, 5, 6);
        c.due("all", x.copy(1, 0, 0, 2, 4), 4);
        reads(x, 0, 2, 3, 4, 10, 20, 30, 40);
        c.due("none", x.copy(0, 6, 1, 4, 0), 0);
        c.due("none", x.copy(0, 0, 0, 0, 0), 0);
    }

    private static void copyRefuses() {
        c.about("promise 29, refused");
        SeaJar x = counted();
        for (int[] b : new int[][] {{-1, 0}, {4, 0}, {0, -1}, {0, 4}, {MIN, MAX}, {4, 3}, {3, 4}}) {
            c.due("bad", x.copy(b[0], 0, b[1], 0, -1), SeaJar.BAD);
        }
        c.due("from nothing", x.copy(3, -1, 0, 0, 1), SeaJar.NULL);
        c.due("to nothing", x.copy(0, -1, 3, 0, 1), SeaJar.NULL);
        c.due("both nothing", x.copy(3, 0, 3, 0, 0), SeaJar.NULL);
        c.due("unlike lanes", x.copy(0, -1, 2, 0, -1), SeaJar.CAST);
        c.due("unlike lanes", x.copy(2, 0, 0, 0, 1), SeaJar.CAST);
        int[][] index = {{-1, 0, 1}, {0, -1, 1}, {0, 0, -1}, {6, 0, 1}, {0, 4, 1}, {3, 0, 4}, {0, 1, 4},
            {7, 0, 0}, {0, 5, 0}, {MAX, 0, 1}, {0, MAX, 1}, {0, 0, MAX}, {1, 1, MAX}, {MIN, 0, 0}, {0, MIN, 0},
            {0, 0, MIN}, {MAX, MAX, MAX}, {0, 0, 5}};
        for (int[] b : index) {
            c.due("index " + b[0] + ", " + b[1] + ", " + b[2], x.copy(0, b[0], 1, b[1], b[2]), SeaJar.INDEX);
        }
        reads(x, 0, 2, 1, 2, 3, 4, 5, 6);
        reads(x, 1, 2, 10, 20, 30, 40);
    }
}
