import java.util.Random;

/** Any arguments in any state: nothing is thrown, and what is refused changes nothing. */
public final class WildTest {
    private static final Check c = new Check();
    private static final int[] WILD = {Integer.MIN_VALUE, Integer.MIN_VALUE + 1, -65537, -25, -14, -4, -2, -1, 0, 1, 2,
        3, 4, 5, 6, 7, 8, 9, 10, 11, 20, 23, 24, 25, 32, 44, 48, 59, 60, 61, 98, 99, 100, 101, 112, 126, 127, 9998,
        9999, 10000, 65536, Integer.MAX_VALUE - 23, Integer.MAX_VALUE - 1, Integer.MAX_VALUE};

    public static void main(String[] args) {
        c.about("any arguments");
        for (int run = 0; run < 40; run++) {
            Random random = new Random(run);
            SeaJar x = run % 2 == 0 ? new SeaJar() : Check.jarOf("3000,20,2;p560,b430,g355,h870,s999,c111");
            for (int k = 0; k < 512; k++) {
                String before = Check.seen(x);
                int which = random.nextInt(28);
                int answer = call(x, which, random);
                if (answer < 0) {
                    c.holds("call " + which + " is refused by a known answer",
                        answer >= -4 || answer <= -11 && answer >= -14 || which == 5 && answer >= -80 && answer <= -20);
                    c.holds("call " + which + " refused changes nothing", before.equals(Check.seen(x)));
                }
            }
        }
        c.end("WildTest");
    }

    private static int any(Random random) {
        return random.nextInt(3) == 0 ? WILD[random.nextInt(WILD.length)] : random.nextInt(9);
    }

    private static int call(SeaJar x, int which, Random random) {
        int a = any(random), b = any(random), d = any(random), e = any(random), f = any(random);
        switch (which) {
            case 0: return x.person(a, b, d);
            case 1: return x.of(a, b);
            case 2: return x.rule(a, b);
            case 3: return x.hope(a, b);
            case 4: return x.type(a);
            case 5: return x.house();
            case 6: return x.count(a);
            case 7: return x.weeks(a);
            case 8: return x.take(a);
            case 9: return x.drift(a);
            case 10: return x.undo();
            case 11: return x.seed(a);
            case 12: return x.ahead(a, b);
            case 13: return x.due();
            case 14: return x.dearest(a, b);
            case 15: return x.quiet(a, b);
            case 16: return x.ends(a);
            case 17: return x.raised(a, b, d);
            case 18: return x.hoped(a, b);
            case 19: return x.mean(a, b);
            case 20: return x.image();
            case 21: return x.restore();
            case 22: return x.taken(a, b, d, e, f);
            case 23: return x.film(a, b, d, e);
            case 24: return x.sheet(a, b, d);
            case 25: return x.drop(a);
            case 26: return x.item(a, b, d, (long) e << 31 | f);
            default: return x.copy(a, b, d, e, f);
        }
    }
}
