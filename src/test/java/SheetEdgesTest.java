import java.util.Arrays;

/** The boundary cases of SHEETS, promises 24 to 29: the document's sentences above answers. */
public final class SheetEdgesTest {
    private static final Check c = new Check();

    public static void main(String[] args) {
        nothingAtFirst();
        ofItems();
        newRow();
        dropped();
        lowestBits();
        itemPlaces();
        filmWeeks();
        filmPlaces();
        filmLowestBits();
        filmAtMost();
        copyPlaces();
        copyNone();
        copyAsIfTakenAhead();
        copyOfEachLane();
        apart();
        c.end("SheetEdgesTest");
    }

    /** A full jar into which nobody pays: what items are can be read. */
    private static SeaJar reader() {
        SeaJar x = new SeaJar();
        Twins.fill(x);
        return x;
    }

    private static void reads(SeaJar x, int sheet, int lane, int... items) {
        for (int i = 0; i < items.length; i++) {
            c.due("item " + i, Twins.read(x, sheet, lane, i), items[i]);
        }
        c.due("no more items", Twins.read(x, sheet, lane, items.length), SeaJar.INDEX);
    }

    private static void nothingAtFirst() {
        c.about("sheets 0 .. 3: nothing (at first)");
        SeaJar x = new SeaJar();
        for (int sheet = 0; sheet < 4; sheet++) {
            c.due("drop", x.drop(sheet), SeaJar.NULL);
            for (int lane = 0; lane < 4; lane++) {
                c.due("item", x.item(sheet, lane, 0, 1), SeaJar.NULL);
                c.due("film", x.film(1, sheet, lane, 0), SeaJar.NULL);
                c.due("taken", x.taken(sheet, lane, 0, 1, 0), SeaJar.NULL);
                c.due("copy", x.copy(sheet, 0, lane, 0, 0), SeaJar.NULL);
            }
        }
        c.due("a fifth", x.drop(4), SeaJar.BAD);
        c.due("one ahead of the first", x.drop(-1), SeaJar.BAD);
    }

    private static void ofItems() {
        c.about("a row of a LANE: 0 bytes, 1 shorts, 2 ints, 3 longs, of 0 to 24 items");
        for (int lane = 0; lane < 4; lane++) {
            SeaJar x = reader();
            for (int n : new int[] {0, 1, 23, 24}) {
                c.due("of " + n, x.sheet(3 - lane, lane, n), n);
                reads(x, 3 - lane, lane, new int[n]);
            }
            c.due("of 25", x.sheet(3 - lane, lane, 25), SeaJar.BAD);
            c.due("of -1", x.sheet(3 - lane, lane, -1), SeaJar.SIZE);
            c.due("24 are there", x.drop(3 - lane), 24);
            for (int as = 0; as < 4; as++) {
                x.sheet(0, lane, 1);
                c.due("as lane " + as, x.item(0, as, 0, 1), as == lane ? 1 : SeaJar.CAST);
            }
        }
        c.due("lane -1", new SeaJar().sheet(0, -1, 1), SeaJar.BAD);
        c.due("lane 4", new SeaJar().sheet(0, 4, 1), SeaJar.BAD);
    }

    private static void newRow() {
        c.about("promise 26: A SHEET holds a new row");
        SeaJar x = reader();
        x.sheet(1, 2, 24);
        for (int i = 0; i < 24; i++) {
            x.item(1, 2, i, i + 1);
        }
        c.due("of the same lane, as long", x.sheet(1, 2, 24), 24);
        reads(x, 1, 2, new int[24]);
        x.item(1, 2, 23, 9);
        c.due("shorter", x.sheet(1, 2, 2), 2);
        reads(x, 1, 2, 0, 0);
        c.due("longer", x.sheet(1, 2, 24), 24);
        reads(x, 1, 2, new int[24]);
        c.due("of another lane", x.sheet(1, 0, 3), 3);
        c.due("not of the lane it was", x.item(1, 2, 0, 1), SeaJar.CAST);
        reads(x, 1, 0, 0, 0, 0);
        c.due("of none", x.sheet(1, 0, 0), 0);
        c.due("it is there", x.drop(1), 0);
    }

    private static void dropped() {
        c.about("promise 27: A SHEET holds nothing: how many items it had");
        SeaJar x = reader();
        for (int n : new int[] {0, 1, 24}) {
            x.sheet(2, 1, n);
            x.sheet(3, 1, 5);
            c.due("of " + n, x.drop(2), n);
            c.due("again", x.drop(2), SeaJar.NULL);
            c.due("item", x.item(2, 1, 0, 1), SeaJar.NULL);
            c.due("as another lane", x.item(2, 2, 0, 1), SeaJar.NULL);
            c.due("the one beside it stays", x.drop(3), 5);
        }
        x.sheet(2, 1, 3);
        x.item(2, 1, 1, 7);
        x.drop(2);
        x.sheet(2, 1, 3);
        reads(x, 2, 1, 0, 0, 0);
    }

    /** V, and what is read of it in each lane; -1: below 0 or above 9999. */
    private static void lowestBits() {
        c.about("promise 28: becomes v, its lowest bits");
        long[] values = {0, 1, 127, 128, 255, 256, 257, -128, -129, -256, 9999, 10000, 32767, 32768, 65535, 65536, 65537,
            -32769, -65535, 2147483647L, 2147483648L, 4294967295L, 4294967296L, 4294967297L, -4294967295L,
            Long.MAX_VALUE, Long.MIN_VALUE, Long.MIN_VALUE + 5, -1};
        int[][] due = {
            {0, 1, 127, -1, -1, 0, 1, -1, 127, 0, 15, 16, -1, 0, -1, 0, 1, -1, 1, -1, 0, -1, 0, 1, 1, -1, 0, 5, -1},
            {0, 1, 127, 128, 255, 256, 257, -1, -1, -1, 9999, -1, -1, -1, -1, 0, 1, -1, 1, -1, 0, -1, 0, 1, 1, -1, 0, 5, -1},
            {0, 1, 127, 128, 255, 256, 257, -1, -1, -1, 9999, -1, -1, -1, -1, -1, -1, -1, -1, -1, -1, -1, 0, 1, 1, -1, 0, 5, -1},
            {0, 1, 127, 128, 255, 256, 257, -1, -1, -1, 9999, -1, -1, -1, -1, -1, -1, -1, -1, -1, -1, -1, -1, -1, -1, -1, -1,
                -1, -1}};
        for (int lane = 0; lane < 4; lane++) {
            SeaJar x = reader();
            x.sheet(0, lane, 1);
            for (int k = 0; k < values.length; k++) {
                c.due("item becomes " + values[k], x.item(0, lane, 0, values[k]), 1);
                c.due(values[k] + " in lane " + lane, Twins.read(x, 0, lane, 0), due[lane][k]);
            }
        }
    }

    private static void itemPlaces() {
        c.about("promise 28: Item i; INDEX");
        SeaJar x = reader();
        x.sheet(0, 1, 3);
        c.due("-1", x.item(0, 1, -1, 9), SeaJar.INDEX);
        c.due("0", x.item(0, 1, 0, 7), 1);
        c.due("2", x.item(0, 1, 2, 8), 1);
        c.due("3", x.item(0, 1, 3, 9), SeaJar.INDEX);
        c.due("24", x.item(0, 1, 24, 9), SeaJar.INDEX);
        reads(x, 0, 1, 7, 0, 8);
        x.sheet(0, 1, 0);
        c.due("0 of none", x.item(0, 1, 0, 9), SeaJar.INDEX);
    }

    /** A jar into which a buyer pays 10 a week, with a sheet of n ints. */
    private static SeaJar filmed(int n) {
        SeaJar x = Check.jarOf("9999,1,0;b100");
        x.sheet(0, 2, n);
        for (int i = 0; i < n; i++) {
            x.item(0, 2, i, 5);
        }
        return x;
    }

    private static void filmWeeks() {
        c.about("promise 25: PENCE behind 1, 2, .. n WEEKS (1 .. 24), an item each");
        SeaJar x = filmed(24);
        c.due("0", x.film(0, 0, 2, 0), SeaJar.BAD);
        c.due("25", x.film(25, 0, 2, 0), SeaJar.BAD);
        c.due("1", x.film(1, 0, 2, 23), 1);
        c.due("nothing is changed", x.count(1) + x.count(2), 0);
        Twins.fill(x);
        int[] due = new int[24];
        Arrays.fill(due, 5);
        due[23] = 10;
        reads(x, 0, 2, due);
        x = filmed(24);
        x.weeks(1);
        c.due("24", x.film(24, 0, 2, 0), 24);
        c.due("nothing is changed", x.count(1) + x.count(2), 11);
        Twins.fill(x);
        for (int i = 0; i < 24; i++) {
            due[i] = 10 * (i + 2);
        }
        reads(x, 0, 2, due);
    }

    private static void filmPlaces() {
        c.about("promise 25: INDEX");
        SeaJar x = filmed(4);
        int[][] refused = {{1, -1}, {1, 4}, {2, 3}, {4, 1}, {5, 0}, {24, 0}, {1, 24}, {24, Integer.MAX_VALUE}};
        for (int[] r : refused) {
            c.due(r[0] + " from " + r[1], x.film(r[0], 0, 2, r[1]), SeaJar.INDEX);
        }
        SeaJar twin = filmed(4);
        Twins.fill(x);
        reads(x, 0, 2, 5, 5, 5, 5);
        c.due("2 from 2", twin.film(2, 0, 2, 2), 2);
        Twins.fill(twin);
        reads(twin, 0, 2, 5, 5, 10, 20);
        SeaJar amid = filmed(4);
        c.due("2 from 1", amid.film(2, 0, 2, 1), 2);
        Twins.fill(amid);
        reads(amid, 0, 2, 5, 10, 20, 5);
        SeaJar all = filmed(4);
        c.due("4 from 0", all.film(4, 0, 2, 0), 4);
        c.due("1 to none", all.sheet(1, 2, 0) + all.film(1, 1, 2, 0), SeaJar.INDEX);
        Twins.fill(all);
        reads(all, 0, 2, 10, 20, 30, 40);
    }

    private static void filmLowestBits() {
        c.about("promise 25: comes to a SHEET likewise");
        SeaJar x = Check.jarOf("9999,1,0;b100");
        x.weeks(12);
        // 130, 140 .. 380: as bytes below 0 from 130 on, above again from 260 on.
        x.sheet(0, 0, 24);
        x.sheet(1, 1, 24);
        c.due("to bytes", x.film(24, 0, 0, 0), 24);
        c.due("to shorts", x.film(24, 1, 1, 0), 24);
        Twins.fill(x);
        int[] bytes = new int[24];
        int[] shorts = new int[24];
        for (int i = 0; i < 24; i++) {
            shorts[i] = 130 + 10 * i;
            bytes[i] = shorts[i] < 256 ? -1 : shorts[i] < 384 ? shorts[i] - 256 : -1;
        }
        reads(x, 0, 0, bytes);
        reads(x, 1, 1, shorts);
    }

    private static void filmAtMost() {
        c.about("promise 25: PENCE, 9999 at most");
        SeaJar x = Check.jarOf("9999,100,0;b100");
        x.weeks(8);
        x.sheet(0, 1, 3);
        x.film(3, 0, 1, 0);
        Twins.fill(x);
        reads(x, 0, 1, 9000, 9999, 9999);
    }

    /** Sheet 0 has ints 1 .. 6, sheet 1 has ints 10, 20, 30, 40. */
    private static SeaJar counted() {
        SeaJar x = reader();
        x.sheet(0, 2, 6);
        x.sheet(1, 2, 4);
        for (int i = 0; i < 6; i++) {
            x.item(0, 2, i, i + 1);
            x.item(1, 2, i, 10 * (i + 1));
        }
        return x;
    }

    private static void copyPlaces() {
        c.about("promise 29: n items of a SHEET from i on come to another one from j on; INDEX");
        int[][] fine = {{5, 3, 1}, {2, 0, 4}, {0, 0, 4}, {0, 3, 1}, {1, 1, 3}};
        for (int[] f : fine) {
            SeaJar x = counted();
            c.due("copy", x.copy(0, f[0], 1, f[1], f[2]), f[2]);
            int[] due = {10, 20, 30, 40};
            for (int k = 0; k < f[2]; k++) {
                due[f[1] + k] = f[0] + k + 1;
            }
            reads(x, 1, 2, due);
            reads(x, 0, 2, 1, 2, 3, 4, 5, 6);
        }
        SeaJar x = counted();
        int[][] refused = {{6, 0, 1}, {5, 0, 2}, {3, 0, 4}, {0, 4, 1}, {0, 3, 2}, {0, 0, 5}, {-1, 0, 1}, {0, -1, 1},
            {0, 0, -1}, {7, 0, 0}, {0, 5, 0}, {-1, 0, 0}, {0, -1, 0}, {1, 1, -1}, {0, 0, 7},
            {0, 0, Integer.MIN_VALUE}, {6, 4, Integer.MAX_VALUE}, {Integer.MAX_VALUE, 0, 1}, {0, Integer.MAX_VALUE, 1}};
        for (int[] r : refused) {
            c.due("copy " + r[0] + " " + r[1] + " " + r[2], x.copy(0, r[0], 1, r[1], r[2]), SeaJar.INDEX);
        }
        reads(x, 1, 2, 10, 20, 30, 40);
    }

    private static void copyNone() {
        c.about("promise 29: of no items");
        SeaJar x = counted();
        c.due("from the first", x.copy(0, 0, 1, 0, 0), 0);
        c.due("from the end to the end", x.copy(0, 6, 1, 4, 0), 0);
        c.due("of itself", x.copy(1, 4, 1, 4, 0), 0);
        x.sheet(2, 2, 0);
        c.due("of none to none", x.copy(2, 0, 2, 0, 0), 0);
        c.due("of none", x.copy(2, 0, 1, 0, 1), SeaJar.INDEX);
        c.due("to none", x.copy(1, 0, 2, 0, 1), SeaJar.INDEX);
        reads(x, 0, 2, 1, 2, 3, 4, 5, 6);
        reads(x, 1, 2, 10, 20, 30, 40);
    }

    private static void copyAsIfTakenAhead() {
        c.about("promise 29: (or the same), as if all were taken ahead");
        for (int i = 0; i <= 3; i++) {
            for (int j = 0; j <= 3; j++) {
                SeaJar x = counted();
                c.due("copy", x.copy(0, i, 0, j, 3), 3);
                int[] due = {1, 2, 3, 4, 5, 6};
                for (int k = 0; k < 3; k++) {
                    due[j + k] = i + k + 1;
                }
                reads(x, 0, 2, due);
            }
        }
    }

    private static void copyOfEachLane() {
        c.about("promise 29: CAST: of unlike LANES");
        SeaJar x = reader();
        for (int lane = 0; lane < 4; lane++) {
            for (int other = 0; other < 4; other++) {
                x.sheet(0, lane, 2);
                x.sheet(1, other, 2);
                x.item(0, lane, 1, 77);
                c.due("from " + lane + " to " + other, x.copy(0, 1, 1, 0, 1), lane == other ? 1 : SeaJar.CAST);
                reads(x, 1, other, lane == other ? 77 : 0, 0);
            }
        }
    }

    private static void apart() {
        c.about("sheets are apart");
        SeaJar x = counted();
        x.copy(1, 0, 0, 0, 4);
        x.item(1, 2, 0, 99);
        reads(x, 0, 2, 10, 20, 30, 40, 5, 6);
        x.item(0, 2, 1, 98);
        reads(x, 1, 2, 99, 20, 30, 40);
        x.drop(1);
        reads(x, 0, 2, 10, 98, 30, 40, 5, 6);
    }
}
