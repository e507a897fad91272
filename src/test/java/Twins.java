import java.util.function.Consumer;
import java.util.function.Function;
import java.util.function.Supplier;

/**
 * Two objects made by the same calls, of which one is asked for something more. All that can be found
 * out is then found out of both, though that uses them up: what may be undone, what is kept as an
 * image, the tape, the items of sheets. Each way is taken on new twins, so that none has a 513th call.
 */
final class Twins {
    private Twins() {
    }

    static boolean leavesNoTrace(Supplier<SeaJar> made, Consumer<SeaJar> call) {
        return leavesAllButSheets(made, call) && sameBy(Twins::sheets, made, call);
    }

    static boolean leavesAllButSheets(Supplier<SeaJar> made, Consumer<SeaJar> call) {
        return leavesAllButTheTape(made, call) && sameBy(Twins::tape, made, call);
    }

    /** Sheets are not looked at either. */
    static boolean leavesAllButTheTape(Supplier<SeaJar> made, Consumer<SeaJar> call) {
        return sameBy(Twins::past, made, call) && sameBy(Twins::image, made, call);
    }

    private static boolean sameBy(Function<SeaJar, String> way, Supplier<SeaJar> made, Consumer<SeaJar> call) {
        SeaJar asked = made.get();
        SeaJar left = made.get();
        call.accept(asked);
        return way.apply(asked).equals(way.apply(left));
    }

    /** As now, and as ahead of each that may be undone. */
    private static String past(SeaJar x) {
        StringBuilder all = new StringBuilder(Check.seen(x));
        for (int k = 0; k < 9; k++) {
            all.append("; ").append(x.undo()).append(brief(x));
        }
        return all.toString();
    }

    /** What an undoing changes. */
    static String brief(SeaJar x) {
        StringBuilder all = new StringBuilder();
        for (int what : new int[] {1, 2, 10}) {
            all.append(' ').append(x.count(what));
        }
        for (int who = 0; who < 6; who++) {
            all.append(' ').append(x.of(who, 2));
        }
        return all.append(' ').append(draw(x)).toString();
    }

    private static String image(SeaJar x) {
        return x.restore() + " " + past(x);
    }

    /** How much is typed, and what it is as a house. */
    private static String tape(SeaJar x) {
        return x.type(' ') + " " + x.house() + " " + Check.seen(x);
    }

    private static String sheets(SeaJar x) {
        x.house();
        fill(x);
        StringBuilder all = new StringBuilder();
        for (int sheet = 0; sheet < 4; sheet++) {
            int lane = laneOf(x, sheet);
            all.append("lane ").append(lane).append(':');
            for (int i = 0; i < 24; i++) {
                all.append(' ').append(read(x, sheet, lane, i));
            }
            all.append(" of ").append(x.drop(sheet)).append("; ");
        }
        return all.toString();
    }

    private static int laneOf(SeaJar x, int sheet) {
        int lane = 0;
        while (lane < 3 && x.taken(sheet, lane, 0, 1, 0) == SeaJar.CAST) {
            lane++;
        }
        return lane;
    }

    static int draw(SeaJar x) {
        int draw = x.seed(0);
        x.seed(draw);
        return draw;
    }

    /** A jar of 9999 into which nobody pays any more, so that TAKEN by one item tells what the item is. */
    static void fill(SeaJar x) {
        Check.house(x, "9999,100,9;p999,p999");
        if (x.weeks(1) != 9999 || x.rule(2, 0) != 9 || x.count(8) != 0) {
            throw new IllegalStateException();
        }
    }

    /** An item 0 .. 9999 of a sheet of a full jar; -1: it is another number; below that: it is refused. */
    static int read(SeaJar x, int sheet, int lane, int i) {
        int less = x.taken(sheet, lane, i, 1, 1);
        return less == SeaJar.NONE ? -1 : less < 0 ? less : 9999 - less;
    }
}
