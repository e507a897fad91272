/** The boundary cases of the terms, 2 FORETOLD: each method has the document's sentence above its answers. */
public final class ForetoldEdgesTest {
    private static final Check c = new Check();
    private static final int NEEDS = 0, PRICE = 1, MISHAPS = 2;

    public static void main(String[] args) {
        behindWeeks();
        ofNoWeeks();
        lastAndAll();
        pastTheLastWeek();
        dueFirst();
        dueNone();
        dearest();
        dearestOfLikeOnes();
        quiet();
        quietOfLikeOnes();
        endsLeast();
        endsInTheLast();
        raisedAtOnce();
        raisedBySteps();
        raisedToTheLimits();
        hoped();
        hopedOfLikeOnes();
        justTheseHope();
        mean();
        meanInLowestTerms();
        meanOfMore();
        image();
        imageOfThePast();
        c.end("ForetoldEdgesTest");
    }

    private static void behindWeeks() {
        c.about("behind n WEEKS (0 .. 99): PENCE");
        // A buyer pays 10 a week.
        SeaJar x = Check.jarOf("9999,1,0;b100");
        c.due("ahead(-1, 0)", x.ahead(-1, 0), SeaJar.BAD);
        for (int n = 0; n <= 99; n++) {
            c.due("ahead(" + n + ", 0)", x.ahead(n, 0), 10 * n);
        }
        c.due("ahead(100, 0)", x.ahead(100, 0), SeaJar.BAD);
        x.rule(PRICE, 100);
        c.due("ahead(9, 0)", x.ahead(9, 0), 9000);
        c.due("ahead(10, 0): 9999 at most", x.ahead(10, 0), 9999);
        c.due("ahead(99, 0)", x.ahead(99, 0), 9999);
    }

    private static void ofNoWeeks() {
        c.about("WORDS of all in the last of these (of no WEEKS: 0)");
        SeaJar x = Check.jarOf("9999,20,3;p560,s111");
        x.weeks(1);
        c.holds("there are words", x.count(7) > 0 && x.ahead(1, 1) == x.count(7));
        c.due("pence", x.ahead(0, 0), x.count(2));
        c.due("in the last", x.ahead(0, 1), 0);
        c.due("in all", x.ahead(0, 2), 0);
    }

    private static void lastAndAll() {
        c.about("WORDS of all in the last of these; WORDS of all in all of these");
        SeaJar x = Check.jarOf("9999,20,3;s111");
        int[][] due = {{1, 50, 50}, {2, 0, 50}, {20, 0, 50}, {21, 50, 100}, {22, 0, 100}, {81, 50, 250}, {99, 0, 250}};
        for (int[] d : due) {
            c.due("in the last of " + d[0], x.ahead(d[0], 1), d[1]);
            c.due("in all of " + d[0], x.ahead(d[0], 2), d[2]);
        }
        x.weeks(20);
        c.due("from now on", x.ahead(1, 1), 50);
    }

    private static void pastTheLastWeek() {
        c.about("FORETOLD from now, in the last WEEK");
        SeaJar x = Check.jarOf("9999,20,3;s111");
        for (int k = 0; k < 166; k++) {
            x.weeks(60);
        }
        x.weeks(39);
        c.due("week", x.count(1), 9999);
        c.due("in week 9999", x.ahead(1, 1), 0);
        c.due("in week 10000", x.ahead(2, 1), 50);
        c.due("in five of 99", x.ahead(99, 2), 250);
        c.due("due()", x.due(), x.count(2) >= 9999 ? 0 : SeaJar.NONE);
    }

    private static void dueFirst() {
        c.about("DUE: the first of 0 to 99 WEEKS behind which THE JAR has what it NEEDS");
        SeaJar x = Check.jarOf("1,1,0;b100");
        int[][] due = {{1, 1}, {9, 1}, {10, 1}, {11, 2}, {20, 2}, {981, 99}, {990, 99}};
        for (int[] d : due) {
            x.rule(NEEDS, d[0]);
            c.due("needs " + d[0], x.due(), d[1]);
        }
        x.weeks(1);
        x.rule(NEEDS, 10);
        c.due("just what it needs now", x.due(), 0);
        x.rule(NEEDS, 9);
        c.due("more than it needs now", x.due(), 0);
        x.rule(NEEDS, 11);
        c.due("one less than it needs now", x.due(), 1);
        SeaJar full = Check.jarOf("9999,100,0;b100");
        c.due("9999 behind ten", full.due(), 10);
    }

    private static void dueNone() {
        c.about("DUE: none");
        SeaJar x = Check.jarOf("991,1,0;b100");
        c.due("behind 100", x.due(), SeaJar.NONE);
        x.rule(NEEDS, 9999);
        c.due("far behind", x.due(), SeaJar.NONE);
        SeaJar nobody = new SeaJar();
        nobody.rule(NEEDS, 1);
        c.due("nobody pays", nobody.due(), SeaJar.NONE);
    }

    private static void dearest() {
        c.about("DEAREST for n WEEKS: the PRICE (1 .. 100) from now on by which most PENCE are there behind them");
        SeaJar buyer = Check.jarOf("9999,7,0;b100");
        c.due("the highest", buyer.dearest(1, 0), 100);
        c.due("how much", buyer.dearest(1, 1), 1000);
        c.due("price stays", buyer.count(4), 7);
        // 1 * 1 * 21 by PRICE and 20 together is 1 at a price of 1, and none by any other.
        SeaJar cheap = Check.jarOf("9999,50,1;p121");
        c.due("the lowest", cheap.dearest(1, 0), 1);
        c.due("how much", cheap.dearest(1, 1), 1);
        // 1 * 1 * 80 by 20 and PRICE: 1 till 60, where it brings 60; 2 till 20, where it brings 40.
        SeaJar amid = Check.jarOf("9999,50,1;p180");
        c.due("amid", amid.dearest(1, 0), 60);
        c.due("how much", amid.dearest(1, 1), 60);
        buyer.weeks(1);
        c.due("with what is there", buyer.dearest(1, 1), 1070);
        c.due("dearest(-1, 0)", buyer.dearest(-1, 0), SeaJar.BAD);
        c.due("dearest(100, 0)", buyer.dearest(100, 0), SeaJar.BAD);
    }

    private static void dearestOfLikeOnes() {
        c.about("DEAREST: of like ones the least");
        SeaJar x = Check.jarOf("9999,50,0;b100,b100,b100,b100,b100,b100");
        c.due("of no weeks", x.dearest(0, 0), 1);
        c.due("of no weeks", x.dearest(0, 1), 0);
        c.due("by 84 it is full", x.dearest(2, 0), 84);
        c.due("by 84 it is full", x.dearest(2, 1), 9999);
        x.rule(PRICE, 1);
        x.weeks(1);
        x.take(22);
        c.due("38 and 83 * 120 are 9998", x.dearest(2, 0), 84);
        x.undo();
        x.take(21);
        c.due("39 and 83 * 120 are 9999", x.dearest(2, 0), 83);
        c.due("of no weeks", x.dearest(0, 1), 39);
        SeaJar late = Check.jarOf("9999,50,0;b100");
        c.due("990 * 11 fill it", late.dearest(99, 0), 11);
        c.due("990 * 11 fill it", late.dearest(99, 1), 9999);
        SeaJar nobody = new SeaJar();
        c.due("nobody", nobody.dearest(99, 0), 1);
        c.due("nobody", nobody.dearest(99, 1), 0);
    }

    private static void quiet() {
        c.about("QUIET: the PRICE by which fewest WORDS are said in all of them");
        // 7 * 17 is 119: none is said by 100 alone.
        SeaJar x = Check.jarOf("9999,50,7;p117");
        c.due("the highest", x.quiet(1, 0), 100);
        c.due("how many", x.quiet(1, 1), 0);
        c.due("price stays", x.count(4), 50);
        Check.house(x, "9999,50,1;p121");
        c.due("none by 2 and above", x.quiet(1, 0), 2);
        c.due("how many", x.quiet(1, 1), 0);
        Check.house(x, "9999,50,8;p315");
        c.due("360 by 91 and above: 3", x.quiet(1, 0), 71);
        c.due("how many", x.quiet(1, 1), 3);
        Check.house(x, "9999,50,1;p120");
        c.due("none in the first, one in the second, by 1 alone", x.quiet(2, 0), 2);
        c.due("all of them", x.quiet(2, 1), 0);
        c.due("none in the first", x.quiet(1, 0), 1);
        c.due("quiet(-1, 0)", x.quiet(-1, 0), SeaJar.BAD);
        c.due("quiet(100, 0)", x.quiet(100, 0), SeaJar.BAD);
        c.due("habit is 99 at last, by 100 no word", x.quiet(99, 0), 80);
        c.due("all of 99", x.quiet(99, 1), 0);
    }

    private static void quietOfLikeOnes() {
        c.about("QUIET: of like ones the least");
        SeaJar x = Check.jarOf("9999,50,9;s111");
        c.due("a saint's are 50 by all", x.quiet(1, 0), 1);
        c.due("how many", x.quiet(1, 1), 50);
        c.due("of no weeks", x.quiet(0, 0), 1);
        c.due("of no weeks", x.quiet(0, 1), 0);
        c.due("of 99 weeks", x.quiet(99, 1), 250);
        SeaJar nobody = new SeaJar();
        c.due("nobody", nobody.quiet(99, 0), 1);
        c.due("nobody", nobody.quiet(99, 1), 0);
    }

    private static void endsLeast() {
        c.about("ENDS: the least PRICE by which no WORDS are said; none");
        SeaJar x = Check.jarOf("9999,50,7;p117");
        c.due("by 119: the highest", x.ends(1), 100);
        Check.house(x, "9999,50,8;p315");
        c.due("by 360", x.ends(1), SeaJar.NONE);
        Check.house(x, "9999,50,8;p115");
        c.due("by 120", x.ends(1), SeaJar.NONE);
        Check.house(x, "9999,50,1;p121");
        c.due("by 21", x.ends(1), 2);
        Check.house(x, "9999,50,1;p120");
        c.due("by 20: the lowest", x.ends(1), 1);
        c.due("price stays", x.count(4), 50);
        c.due("nobody", new SeaJar().ends(1), 1);
        c.due("nobody", new SeaJar().ends(99), 1);
    }

    private static void endsInTheLast() {
        c.about("ENDS: no WORDS are said in the last of n WEEKS (1 .. 99)");
        SeaJar x = Check.jarOf("9999,50,9;s111");
        int[][] due = {{0, SeaJar.BAD}, {1, SeaJar.NONE}, {2, 1}, {20, 1}, {21, SeaJar.NONE}, {22, 1},
            {81, SeaJar.NONE}, {99, 1}, {100, SeaJar.BAD}};
        for (int[] d : due) {
            c.due("ends(" + d[0] + ")", x.ends(d[0]), d[1]);
        }
        Check.house(x, "9999,50,1;p120");
        c.due("habit 21 then", x.ends(2), 2);
        c.due("habit 98 then, by 98 no words", x.ends(79), 79);
    }

    /** Temper 9, 9 mishaps, habit 40, a price of 20: it pays 900 and more in each of the first three weeks. */
    private static SeaJar swearer() {
        return Check.jarOf("9999,20,9;p940");
    }

    private static void raisedTo(int q, int how, int... inEach) {
        SeaJar x = swearer();
        int all = 0;
        c.due("raised(" + q + ", 0, " + how + ")", x.raised(q, 0, how), 0);
        for (int n = 1; n <= inEach.length; n++) {
            all += inEach[n - 1];
            c.due("raised(" + q + ", " + n + ", " + how + ")", x.raised(q, n, how), all);
        }
        c.due("price stays", x.count(4), 20);
    }

    private static void raisedAtOnce() {
        c.about("RAISED to q: WORDS of all in n WEEKS (0 .. 99), if PRICE is q at once (0)");
        raisedTo(22, 0, 3240 / 42, 2511 / 42, 1782 / 42);
        raisedTo(20, 0, 3240 / 40, 2511 / 40, 1782 / 40);
        raisedTo(18, 0, 3240 / 38, 2511 / 38, 1782 / 38);
        raisedTo(1, 0, 99, 99);
        raisedTo(100, 0, 3240 / 120, 2511 / 120);
    }

    private static void raisedBySteps() {
        c.about("RAISED: if it is 1 nearer to q ahead of each WEEK till it is q (1)");
        raisedTo(23, 1, 3240 / 41, 2511 / 42, 1782 / 43);
        raisedTo(22, 1, 3240 / 41, 2511 / 42, 1782 / 42);
        raisedTo(21, 1, 3240 / 41, 2511 / 41, 1782 / 41);
        raisedTo(20, 1, 3240 / 40, 2511 / 40, 1782 / 40);
        raisedTo(19, 1, 3240 / 39, 2511 / 39, 1782 / 39);
        raisedTo(18, 1, 3240 / 39, 2511 / 38, 1782 / 38);
        raisedTo(1, 1, 3240 / 39, 2511 / 38, 1782 / 37);
        raisedTo(100, 1, 3240 / 41, 2511 / 42, 1782 / 43);
    }

    private static void raisedToTheLimits() {
        c.about("RAISED: BAD: q no PRICE, how 0 or 1, too");
        SeaJar x = swearer();
        c.due("to 0", x.raised(0, 9, 0), SeaJar.BAD);
        c.due("to 101", x.raised(101, 9, 1), SeaJar.BAD);
        c.due("how -1", x.raised(20, 9, -1), SeaJar.BAD);
        c.due("how 2", x.raised(20, 9, 2), SeaJar.BAD);
        c.due("-1 weeks", x.raised(20, -1, 0), SeaJar.BAD);
        c.due("100 weeks", x.raised(20, 100, 0), SeaJar.BAD);
        c.due("99 weeks", x.raised(20, 99, 1), x.ahead(99, 2));
        // From 2 down to 1, from 99 up to 100, and no further.
        for (int[] d : new int[][] {{2, 1}, {99, 100}}) {
            x.rule(PRICE, d[0]);
            int steps = x.raised(d[1], 99, 1);
            x.rule(PRICE, d[1]);
            c.due("to " + d[1] + " by one step is at once", steps, x.ahead(99, 2));
        }
    }

    private static void hoped() {
        c.about("HOPED: the set of CHILDREN who, if just these HOPE, make most PENCE behind n WEEKS; how much");
        SeaJar x = Check.jarOf("9999,20,0;c111,p140,c111");
        c.due("both", x.hoped(1, 0), 5);
        c.due("2 words", x.hoped(1, 1), 40);
        c.due("hoped(-1, 0)", x.hoped(-1, 0), SeaJar.BAD);
        c.due("hoped(100, 0)", x.hoped(100, 0), SeaJar.BAD);
        Check.house(x, "9999,20,0;c111,c111,c111,c111,c111,p110");
        c.due("4 or 5 of 5 for one word: the least set of 4", x.hoped(1, 0), 15);
        c.due("one word", x.hoped(1, 1), 20);
        Check.house(x, "9999,20,0;p108,c111,c111,c111,c111,c111");
        c.due("all 5 for one word", x.hoped(1, 0), 62);
        Check.house(x, "9999,20,0;c111,c111,c111,c111,c111,c111");
        c.due("only children", x.hoped(99, 0), 0);
        c.due("only children", x.hoped(99, 1), 0);
        c.due("nobody", new SeaJar().hoped(99, 0), 0);
        SeaJar few = new SeaJar();
        few.rule(MISHAPS, 0);
        few.person(0, 1, 40);
        c.due("no children", few.hoped(1, 0), 0);
        c.due("no words", few.hoped(1, 1), 0);
        few.person(5, 1, 0);
        c.due("the one child", few.hoped(1, 0), 2);
        c.due("one word", few.hoped(1, 1), 20);
    }

    private static void hopedOfLikeOnes() {
        c.about("HOPED: of like ones the least set");
        SeaJar x = Check.jarOf("9999,20,1;p120,c111,c111");
        c.due("either is enough", x.hoped(1, 0), 2);
        c.due("one word", x.hoped(1, 1), 20);
        c.due("of no weeks: none", x.hoped(0, 0), 0);
        x.rule(MISHAPS, 2);
        c.due("both for 2 words", x.hoped(1, 0), 6);
        x.rule(MISHAPS, 0);
        c.due("both for a word", x.hoped(1, 0), 6);
        x.hope(1, 0);
        x.hope(2, 0);
        x.rule(MISHAPS, 2);
        x.weeks(1);
        x.rule(NEEDS, 20);
        c.due("it has what it needs: none", x.hoped(1, 0), 0);
        c.due("with what is there", x.hoped(0, 1), 20);
        SeaJar full = Check.jarOf("9999,100,0;b100,b100,c111");
        full.weeks(5);
        c.due("full: none", full.hoped(9, 0), 0);
        c.due("full", full.hoped(9, 1), 9999);
    }

    private static void justTheseHope() {
        c.about("HOPED: if just these HOPE");
        SeaJar x = Check.jarOf("9999,20,0;c111x,p140x,c111x");
        c.due("who does not hope now may", x.hoped(1, 0), 5);
        c.due("who hopes now may not", Check.jarOf("9999,20,1;c111,p141,b100,c111").hoped(0, 0), 0);
        c.due("hopes stay", x.count(9), 0);
        x.hope(0, 1);
        x.hope(1, 1);
        c.due("a plain one is in no set", x.hoped(1, 0), 5);
        c.due("hopes stay", x.count(9), 1);
    }

    private static void mean() {
        c.about("MEAN of PENCE behind n WEEKS (0 .. 6), if in each MISHAPS are 0, 1 or 2 more, each as likely");
        // A word by 2 more alone, at a price of 1, and a habit of 1 more each week.
        SeaJar x = Check.jarOf("9999,1,0;p111");
        int[][] due = {{0, 1}, {1, 3}, {2, 3}, {1, 1}, {4, 3}, {5, 3}, {2, 1}};
        for (int n = 0; n <= 6; n++) {
            c.due("mean(" + n + ", 0)", x.mean(n, 0), due[n][0]);
            c.due("mean(" + n + ", 1)", x.mean(n, 1), due[n][1]);
        }
        c.due("mean(-1, 0)", x.mean(-1, 0), SeaJar.BAD);
        c.due("mean(7, 0)", x.mean(7, 0), SeaJar.BAD);
        c.due("mean(1, -1)", x.mean(1, -1), SeaJar.BAD);
        c.due("mean(1, 2)", x.mean(1, 2), SeaJar.BAD);
        c.due("mishaps stay", x.count(5), 0);
    }

    private static void meanInLowestTerms() {
        c.about("MEAN: as a fraction in lowest terms");
        SeaJar x = Check.jarOf("9999,3,0;b100");
        for (int n = 0; n <= 6; n++) {
            c.due("a buyer's 30 a week", x.mean(n, 0), 30 * n);
            c.due("a buyer's 30 a week", x.mean(n, 1), 1);
        }
        x.weeks(3);
        c.due("90 of no weeks", x.mean(0, 0), 90);
        c.due("90 of no weeks", x.mean(0, 1), 1);
        x.rule(PRICE, 100);
        x.weeks(60);
        c.due("a full jar", x.mean(6, 0), 9999);
        c.due("a full jar", x.mean(6, 1), 1);
        for (int n = 0; n <= 6; n++) {
            c.due("nobody", new SeaJar().mean(n, 0), 0);
            c.due("nobody", new SeaJar().mean(n, 1), 1);
        }
    }

    private static void meanOfMore() {
        c.about("MEAN: 0, 1 or 2 more than 9, and what hopes make of them");
        SeaJar x = Check.jarOf("9999,1,9;p121");
        c.due("9, 10, 11", x.mean(1, 0), 10);
        c.due("9, 10, 11", x.mean(1, 1), 1);
        Check.house(x, "9999,1,0;c100,p111");
        c.due("1, 2, 3: a word by 2 of them", x.mean(1, 0), 2);
        c.due("1, 2, 3: a word by 2 of them", x.mean(1, 1), 3);
        x.hope(0, 0);
        c.due("0, 1, 2", x.mean(1, 0), 1);
        // Some fill the jar, some do not: 9999 at most in each.
        Check.house(x, "9999,100,0;p960,b100");
        x.weeks(9);
        x.rule(PRICE, 90);
        c.due("pence", x.count(2), 9000);
        int habit = x.of(0, 2);
        int[] paid = {900, 900 + 9 * habit / 110 * 90, 900 + 18 * habit / 110 * 90};
        int sum = 9900 + Math.min(9999, 9000 + paid[1]) + Math.min(9999, 9000 + paid[2]);
        c.due("9900, 9999, 9999", sum, 9900 + 9999 + 9999);
        c.due("their mean", x.mean(1, 0), 9900 / 3 + 2 * 9999 / 3);
        c.due("their mean", x.mean(1, 1), 1);
    }

    private static void image() {
        c.about("promises 22 and 23: All but SHEETS, THE TAPE; NONE: there is none");
        SeaJar x = new SeaJar();
        c.due("none", x.restore(), SeaJar.NONE);
        c.due("of a new jar", x.image(), 1);
        x.person(5, 9, 99);
        x.weeks(8);
        x.seed(0);
        x.rule(NEEDS, 1);
        x.rule(PRICE, 1);
        x.rule(MISHAPS, 0);
        c.due("restore()", x.restore(), 1);
        c.holds("a new jar", Check.seen(x).equals(Check.seen(new SeaJar())));
        c.due("nothing to be undone", x.undo(), SeaJar.NONE);
        Check.house(x, "500,30,2;p560,c133x,b430,s111,g222,h333");
        x.drift(9);
        x.image();
        String then = Check.seen(x);
        x.hope(1, 1);
        x.undo();
        x.take(1);
        x.restore();
        c.holds("as it was then", then.equals(Check.seen(x)));
        for (int left = 7; left >= 0; left--) {
            c.due("8 to be undone, as then", x.undo(), left);
        }
        c.due("week", x.count(1), 1);
        c.due("once more", x.restore(), 1);
        c.holds("as it was then", then.equals(Check.seen(x)));
        x.type('4');
        x.restore();
        c.due("the tape is as it is", x.type('4'), 2);
        x.sheet(0, 0, 5);
        x.image();
        x.sheet(1, 1, 6);
        x.drop(0);
        x.restore();
        c.due("sheets are as they are", x.drop(0), SeaJar.NULL);
        c.due("sheets are as they are", x.drop(1), 6);
    }

    private static void imageOfThePast() {
        c.about("promise 23: All is as it was then, what may be UNDONE too");
        for (int many = 1; many <= 20; many++) {
            SeaJar x = Check.jarOf("500,30,2;p560,c133,b430,s111,g222,h333");
            x.seed(many);
            x.drift(many);
            x.image();
            x.rule(PRICE, 7);
            x.take(1);
            x.seed(5);
            x.drift(many % 7 + 2);
            x.restore();
            SeaJar twin = Check.jarOf("500,30,2;p560,c133,b430,s111,g222,h333");
            twin.seed(many);
            twin.drift(many);
            for (int left = Math.min(8, many) - 1; left >= 0; left--) {
                c.due("undo()", x.undo(), left);
                twin.undo();
                c.holds("as without an image", Twins.brief(x).equals(Twins.brief(twin)));
            }
            c.due("undo()", x.undo(), SeaJar.NONE);
        }
    }
}
