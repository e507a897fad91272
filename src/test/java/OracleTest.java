import java.util.Random;

/** Long runs of random calls; each answer is held against the oracle's. */
public final class OracleTest {
    private static final Check c = new Check();
    private static final int RUNS = 150, CALLS = 512;

    private final Random random;
    private final SeaJar x = new SeaJar();
    private final Oracle o = new Oracle();
    private final int run;
    /** Where in a run what is looked for dear, it is not asked for often. */
    private int dear = 12;

    private OracleTest(int run) {
        this.run = run;
        random = new Random(run * 7919L + 17);
    }

    public static void main(String[] args) {
        int runs = args.length > 0 ? Integer.parseInt(args[0]) : RUNS;
        for (int run = 0; run < runs; run++) {
            c.about("run " + run);
            new OracleTest(run).go();
        }
        c.end("OracleTest");
    }

    private void go() {
        int used = 0;
        while (used < CALLS) {
            used += random.nextInt(14) == 0 ? typed(CALLS - used) : one();
        }
    }

    private int in(int least, int most) {
        // Now and then a number just outside, or far outside.
        int luck = random.nextInt(60);
        if (luck == 0) {
            return least - 1;
        }
        if (luck == 1) {
            return most + 1;
        }
        if (luck == 2) {
            return random.nextBoolean() ? Integer.MIN_VALUE : Integer.MAX_VALUE;
        }
        if (luck < 8) {
            return random.nextBoolean() ? least : most;
        }
        return least + random.nextInt(most - least + 1);
    }

    private int small(int least, int most) {
        return random.nextInt(3) == 0 ? in(least, most) : in(least, Math.min(most, least + 3));
    }

    private void due(String call, long got, long want) {
        c.due(call, got, want);
    }

    private String someHouse() {
        StringBuilder text = new StringBuilder();
        text.append(1 + random.nextInt(random.nextBoolean() ? 9999 : 600)).append(',');
        text.append(1 + random.nextInt(100)).append(',').append(random.nextInt(10)).append(';');
        int people = 1 + random.nextInt(6);
        for (int k = 0; k < people; k++) {
            text.append(k == 0 ? "" : ",").append("pbghsc".charAt(random.nextInt(6)));
            text.append(1 + random.nextInt(9)).append(random.nextInt(10)).append(random.nextInt(10));
            text.append(random.nextInt(4) == 0 ? "x" : "");
        }
        int changes = random.nextInt(5) - 2;
        for (int k = 0; k < changes; k++) {
            int at = random.nextInt(text.length() + 1);
            if (random.nextBoolean()) {
                text.insert(at, " 0,;x9p".charAt(random.nextInt(7)));
            } else if (at < text.length()) {
                text.deleteCharAt(at);
            }
        }
        if (random.nextInt(3) == 0) {
            text.insert(random.nextInt(text.length() + 1), "  ");
        }
        return text.toString();
    }

    private int typed(int left) {
        String text = someHouse();
        if (text.length() + 1 > left) {
            return left;
        }
        for (char letter : text.toCharArray()) {
            due("type", x.type(letter), o.type(letter));
        }
        due("house of " + text, x.house(), o.house());
        return text.length() + 1;
    }

    private int one() {
        int a = random.nextInt(41);
        if (a < 4) {
            int kind = in(0, 5), temper = in(1, 9), habit = in(0, 99);
            due("person", x.person(kind, temper, habit), o.person(kind, temper, habit));
        } else if (a < 7) {
            int who = in(0, 5), what = in(0, 6);
            due("of " + who + " " + what, x.of(who, what), o.of(who, what));
        } else if (a < 9) {
            int what = in(0, 2), v = what == 0 ? in(1, 9999) : what == 1 ? in(1, 100) : in(0, 9);
            due("rule", x.rule(what, v), o.rule(what, v));
        } else if (a < 11) {
            int who = in(0, 5), is = in(0, 1);
            due("hope", x.hope(who, is), o.hope(who, is));
        } else if (a == 11 && random.nextInt(9) == 0) {
            int letter = in(32, 126);
            due("type", x.type(letter), o.type(letter));
        } else if (a < 15) {
            int what = in(0, 10);
            due("count " + what, x.count(what), o.count(what));
        } else if (a < 22) {
            done(a);
        } else if (a < 31) {
            foretold(a);
        } else {
            sheets(a);
        }
        return 1;
    }

    private void done(int a) {
        int n = small(1, 60);
        if (a == 15) {
            due("weeks", x.weeks(n), o.weeks(n));
        } else if (a == 16) {
            int t = random.nextBoolean() ? in(1, 9999) : in(1, 300);
            due("take", x.take(t), o.take(t));
        } else if (a == 17) {
            due("drift", x.drift(n), o.drift(n));
        } else if (a == 18 || a == 19) {
            due("undo", x.undo(), o.undo());
        } else if (a == 20) {
            int v = random.nextInt();
            due("seed", x.seed(v), o.seed(v));
        } else if (random.nextInt(3) == 0) {
            due("image", x.image(), o.image());
        } else {
            due("restore", x.restore(), o.restore());
        }
    }

    private void foretold(int a) {
        int n = in(0, 99), what = in(0, 1);
        dear -= a > 23 ? 1 : 0;
        if (a > 23 && dear < 0) {
            return;
        }
        switch (a) {
            case 22 -> {
                int three = in(0, 2);
                due("ahead", x.ahead(n, three), o.ahead(n, three));
            }
            case 23 -> {
                int q = in(1, 100);
                due("raised", x.raised(q, n, what), o.raised(q, n, what));
            }
            case 24 -> due("due", x.due(), o.due());
            case 25 -> due("dearest " + n, x.dearest(n, what), o.dearest(n, what));
            case 26 -> due("quiet " + n, x.quiet(n, what), o.quiet(n, what));
            case 27 -> due("ends " + n, x.ends(n), o.ends(n));
            case 28, 29 -> due("hoped " + n, x.hoped(n, what), o.hoped(n, what));
            default -> {
                int few = in(0, 6);
                due("mean " + few, x.mean(few, what), o.mean(few, what));
            }
        }
    }

    private void sheets(int a) {
        int sheet = in(0, 3), lane = random.nextInt(12) == 0 ? in(0, 3) : sheet, i = small(0, 24), n = small(0, 24);
        if (a < 33) {
            n = random.nextBoolean() ? n : 24;
            lane = random.nextInt(3) == 0 ? lane : 1 + run % 3;
            due("sheet", x.sheet(sheet, lane, n), o.sheet(sheet, lane, n));
            return;
        }
        lane = random.nextInt(3) == 0 ? lane : 1 + run % 3;
        if (a < 35) {
            due("film", x.film(n, sheet, lane, i), o.film(n, sheet, lane, i));
        } else if (a == 35) {
            long v = random.nextInt(3) == 0 ? random.nextLong() : random.nextInt(12000);
            due("item", x.item(sheet, lane, i, v), o.item(sheet, lane, i, v));
        } else if (a < 38) {
            int to = in(0, 3), j = small(0, 24);
            due("copy", x.copy(sheet, i, to, j, n), o.copy(sheet, i, to, j, n));
        } else if (a == 38 && random.nextInt(4) == 0) {
            due("drop", x.drop(sheet), o.drop(sheet));
        } else {
            filmedThenTaken(sheet, lane, i);
        }
    }

    /** What is filmed, then looked for when some is taken, is found; so is nothing at all. */
    private void filmedThenTaken(int sheet, int lane, int i) {
        int n = small(1, 8), what = in(0, 1);
        if (random.nextBoolean()) {
            due("film", x.film(n, sheet, lane, i), o.film(n, sheet, lane, i));
        }
        if (random.nextInt(3) == 0) {
            int pence = x.count(2) * random.nextInt(100) / 100;
            int needs = Math.max(1, pence);
            due("rule", x.rule(0, needs), o.rule(0, needs));
        }
        if (random.nextInt(3) == 0) {
            int first = Math.max(0, x.count(2) - random.nextInt(500)) + x.count(8);
            due("item", x.item(sheet, lane, i, first), o.item(sheet, lane, i, first));
        }
        due("taken " + n + " " + what, x.taken(sheet, lane, i, n, what), o.taken(sheet, lane, i, n, what));
    }
}
