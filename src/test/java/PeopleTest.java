/** Promises 1 to 8: people, a jar, houses as texts. */
public final class PeopleTest {
    private static final Check c = new Check();

    public static void main(String[] args) {
        newJar();
        person();
        words();
        pays();
        habits();
        saints();
        children();
        rule();
        hope();
        type();
        house();
        houseFaults();
        houseFaultsOfNumbers();
        count();
        c.end("PeopleTest");
    }

    private static void newJar() {
        c.about("promise 1");
        SeaJar x = new SeaJar();
        int[] first = {0, 0, 0, 4000, 20, 3, 3, 0, 0, 0, 0};
        for (int what = 0; what < first.length; what++) {
            c.due("count(" + what + ")", x.count(what), first[what]);
        }
        c.due("seed(1)", x.seed(1), 1);
        c.due("of(0, 0)", x.of(0, 0), SeaJar.BAD);
        c.due("restore()", x.restore(), SeaJar.NONE);
        c.due("undo()", x.undo(), SeaJar.NONE);
        for (int sheet = 0; sheet < 4; sheet++) {
            c.due("drop(" + sheet + ")", x.drop(sheet), SeaJar.NULL);
        }
        c.due("the tape is empty", x.type(' '), 1);
    }

    private static void person() {
        c.about("promise 2");
        SeaJar x = new SeaJar();
        int[][] bad = {{-1, 1, 0}, {6, 1, 0}, {0, 0, 0}, {0, 10, 0}, {0, 1, -1}, {0, 1, 100},
            {Integer.MIN_VALUE, 1, 0}, {0, Integer.MAX_VALUE, 0}, {0, 1, Integer.MIN_VALUE}};
        for (int[] b : bad) {
            c.due("a bad person", x.person(b[0], b[1], b[2]), SeaJar.BAD);
        }
        c.due("count(0)", x.count(0), 0);
        for (int kind = 0; kind < 6; kind++) {
            c.due("person", x.person(kind, kind == 0 ? 1 : 9, kind == 0 ? 0 : 99), kind);
            c.due("kind", x.of(kind, 0), kind);
            c.due("temper", x.of(kind, 1), kind == 0 ? 1 : 9);
            c.due("habit", x.of(kind, 2), kind == 0 ? 0 : 99);
            c.due("hopes", x.of(kind, 3), 1);
        }
        c.due("a seventh", x.person(0, 1, 0), SeaJar.FULL);
        c.due("a bad seventh", x.person(6, 1, 0), SeaJar.BAD);
        c.due("count(0)", x.count(0), 6);
        SeaJar y = new SeaJar();
        y.person(0, 5, 50);
        y.weeks(2);
        c.due("a bad one leaves what may be undone", y.person(0, 0, 0) + y.count(10), 1);
        y.person(5, 1, 1);
        c.due("a new one leaves nothing to be undone", y.count(10), 0);
        c.due("undo()", y.undo(), SeaJar.NONE);
    }

    private static void words() {
        c.about("promise 3, words");
        SeaJar x = new SeaJar();
        x.person(0, 5, 50);
        x.person(1, 5, 50);
        x.person(2, 5, 50);
        x.person(3, 5, 50);
        // 3 * 5 * 50 / 40 is 18 and three quarters; the buyer's are twice 18, not 37.
        int[] due = {18, 36, 18, 18};
        for (int who = 0; who < 4; who++) {
            c.due("of(" + who + ", 4)", x.of(who, 4), due[who]);
        }
        SeaJar most = new SeaJar();
        most.rule(1, 1);
        most.rule(2, 9);
        for (int kind = 0; kind < 4; kind++) {
            most.person(kind, 9, 99);
            c.due("99 at most", most.of(kind, 4), 99);
        }
        SeaJar half = new SeaJar();
        half.rule(1, 1);
        half.rule(2, 2);
        half.person(1, 9, 50);
        c.due("900 / 21 is 42, twice", half.of(0, 4), 84);
        half.rule(1, 80);
        c.due("900 / 100 is 9, twice", half.of(0, 4), 18);
        half.rule(2, 0);
        c.due("no mishaps", half.of(0, 4), 0);
        for (int[] b : new int[][] {{-1, 0}, {1, 0}, {0, -1}, {0, 7}, {6, 0}, {Integer.MAX_VALUE, 4}}) {
            c.due("of(" + b[0] + ", " + b[1] + ")", half.of(b[0], b[1]), SeaJar.BAD);
        }
    }

    private static void pays() {
        c.about("promise 3, pays");
        SeaJar x = new SeaJar();
        for (int kind = 0; kind < 6; kind++) {
            x.person(kind, 5, 50);
        }
        // The child makes it 4 mishaps: 1000 / 40 is 25.
        int[] due = {500, 200, 1000, 250, 500, 0};
        for (int who = 0; who < 6; who++) {
            c.due("of(" + who + ", 5)", x.of(who, 5), due[who]);
        }
        x.hope(5, 0);
        x.rule(1, 7);
        // 750 / 27 is 27: 189, of which half is cut to 94; of 350 it is 175.
        int[] then = {189, 70, 378, 94, 175, 0};
        for (int who = 0; who < 6; who++) {
            c.due("of(" + who + ", 5)", x.of(who, 5), then[who]);
        }
        x.rule(2, 0);
        c.due("a buyer pays for no words too", x.of(1, 5), 70);
    }

    private static void habits() {
        c.about("promise 3, habit then");
        SeaJar x = new SeaJar();
        x.person(0, 1, 50);
        x.rule(2, 2);
        x.rule(1, 30);
        c.due("2 words", x.of(0, 4), 2);
        c.due("60 is less than 100", x.of(0, 6), 51);
        x.rule(1, 50);
        c.due("1 word", x.of(0, 4), 1);
        c.due("50 is less than 100", x.of(0, 6), 51);
        x.rule(2, 9);
        x.rule(1, 25);
        c.due("10 words", x.of(0, 4), 10);
        c.due("250 by 100", x.of(0, 6), 48);
        x.rule(1, 100);
        x.rule(2, 3);
        c.due("1 word", x.of(0, 4), 1);
        c.due("100 is not less than 100", x.of(0, 6), 49);
        SeaJar y = new SeaJar();
        y.rule(2, 9);
        y.rule(1, 100);
        y.person(2, 9, 99);
        c.due("9 less at most", y.of(0, 6), 90);
        y.person(2, 9, 5);
        c.due("3 words, 600", y.of(1, 5), 600);
        c.due("0 at least", y.of(1, 6), 0);
        y.person(0, 1, 99);
        y.rule(1, 1);
        c.due("99 at most", y.of(2, 6), 99);
        y.person(1, 9, 99);
        y.person(1, 9, 40);
        y.rule(1, 100);
        c.due("a buyer's 99 at most", y.of(3, 6), 99);
        c.due("a buyer's 1 more always", y.of(4, 6), 41);
        c.due("a buyer pays 1000", y.of(4, 5), 1000);
    }

    private static void saints() {
        c.about("promise 3, saints");
        SeaJar x = Check.jarOf("9999,20,3;s550");
        for (int week = 0; week < 45; week++) {
            boolean swears = week == 0 || week == 20 || week == 40;
            c.due("words in week " + week, x.of(0, 4), swears ? 50 : 0);
            c.due("pays in week " + week, x.of(0, 5), swears ? 500 : 0);
            x.weeks(1);
        }
        c.due("pence", x.count(2), 1500);
        c.due("habit", x.of(0, 2), Math.min(99, Math.min(99, 45 + 19 - 5) + 19 - 5) + 4);
    }

    private static void children() {
        c.about("promise 3, children");
        SeaJar x = Check.jarOf("300,20,1;c150,c999,p550,p299x");
        c.due("no words", x.of(0, 4) + x.of(1, 4), 0);
        c.due("1 habit more", x.of(0, 6), 51);
        c.due("99 at most", x.of(1, 6), 99);
        c.due("two make 1 to 3", x.count(6), 3);
        c.due("by 3", x.of(2, 4), 18);
        x.hope(0, 0);
        c.due("one makes 1 to 2", x.count(6), 2);
        c.due("by 2", x.of(2, 4), 12);
        c.due("a set of children", x.count(9), 2);
        c.due("pence", x.weeks(1), 12 * 20 + 9 * 20);
        c.due("the jar has what it needs", x.count(6), 1);
        x.take(121);
        c.due("it has less", x.count(2) + x.count(6), 299 + 2);
        x.rule(0, 299);
        c.due("it has just what it needs", x.count(6), 1);
    }

    private static void rule() {
        c.about("promise 4");
        SeaJar x = new SeaJar();
        int[][] limits = {{1, 9999, 4000, 3}, {1, 100, 20, 4}, {0, 9, 3, 5}};
        for (int what = 0; what < 3; what++) {
            int[] l = limits[what];
            c.due("below", x.rule(what, l[0] - 1), SeaJar.BAD);
            c.due("above", x.rule(what, l[1] + 1), SeaJar.BAD);
            c.due("least", x.rule(what, l[0]), l[2]);
            c.due("is", x.count(l[3]), l[0]);
            c.due("most", x.rule(what, l[1]), l[0]);
            c.due("is", x.count(l[3]), l[1]);
            c.due("again", x.rule(what, l[1]), l[1]);
        }
        c.due("rule(-1, 1)", x.rule(-1, 1), SeaJar.BAD);
        c.due("rule(3, 1)", x.rule(3, 1), SeaJar.BAD);
    }

    private static void hope() {
        c.about("promise 5");
        SeaJar x = Check.jarOf("4000,20,3;p550,c550");
        c.due("hope(1, 0)", x.hope(1, 0), 1);
        c.due("of(1, 3)", x.of(1, 3), 0);
        c.due("hope(1, 0)", x.hope(1, 0), 0);
        c.due("count(9)", x.count(9), 0);
        c.due("hope(1, 1)", x.hope(1, 1), 0);
        c.due("count(9)", x.count(9), 2);
        c.due("hope(0, 0)", x.hope(0, 0), 1);
        c.due("of(0, 3)", x.of(0, 3), 0);
        c.due("of(1, 3)", x.of(1, 3), 1);
        c.due("count(6): no child's hope", x.count(6), 4);
        for (int[] b : new int[][] {{-1, 0}, {2, 0}, {0, -1}, {0, 2}, {Integer.MAX_VALUE, 1}}) {
            c.due("hope(" + b[0] + ", " + b[1] + ")", x.hope(b[0], b[1]), SeaJar.BAD);
        }
        c.due("of(0, 3)", x.of(0, 3), 0);
    }

    private static void type() {
        c.about("promise 6");
        SeaJar x = new SeaJar();
        for (int letter : new int[] {31, 127, -1, 0, 32 + 256, Integer.MIN_VALUE}) {
            c.due("type(" + letter + ")", x.type(letter), SeaJar.BAD);
        }
        c.due("type(32)", x.type(32), 1);
        c.due("type(126)", x.type(126), 2);
        for (int length = 3; length <= 60; length++) {
            c.due("type", x.type(length + 40), length);
        }
        c.due("a sixty-first", x.type('a'), SeaJar.FULL);
        c.due("a bad sixty-first", x.type(31), SeaJar.BAD);
        c.due("house()", x.house(), -21);
        c.due("empty then", x.type('a'), 1);
    }

    private static void house() {
        c.about("promise 7");
        SeaJar x = Check.jarOf("4000,20,3;p999");
        x.seed(77);
        x.weeks(3);
        c.due("house", Check.house(x, "9999,100,0;c100x,s999"), 2);
        int[] due = {2, 0, 0, 9999, 100, 0, 0, 50, 2500, 0, 0};
        for (int what = 0; what < due.length; what++) {
            c.due("count(" + what + ")", x.count(what), due[what]);
        }
        int[][] people = {{5, 1, 0, 0}, {4, 9, 99, 1}};
        for (int who = 0; who < 2; who++) {
            for (int what = 0; what < 4; what++) {
                c.due("of(" + who + ", " + what + ")", x.of(who, what), people[who][what]);
            }
        }
        c.due("the draw stays", x.seed(1), 77);
        c.due("no third", x.of(2, 0), SeaJar.BAD);
        c.due("blanks", Check.house(x, "  1 , 1 ,9 ; p 1 0 1 x , b 2 2 2  "), 2);
        c.due("needs", x.count(3), 1);
        c.due("habit", x.of(0, 2), 1);
        c.due("hopes", x.of(0, 3), 0);
        c.due("leading noughts", Check.house(x, "0012,0003,4;p111,b111,g111,h111,s111,c111"), 6);
        c.due("needs", x.count(3), 12);
        c.due("price", x.count(4), 3);
        for (int who = 0; who < 6; who++) {
            c.due("kind", x.of(who, 0), who);
        }
        c.due("it can be typed anew", Check.house(x, "5,6,7;g189"), 1);
        c.due("temper", x.of(0, 1), 1);
        c.due("habit", x.of(0, 2), 89);
        c.due("fewer people: a new one is next", x.person(0, 1, 1), 1);
    }

    private static void houseFaults() {
        c.about("promise 7, faults");
        String right = "4000,20,3;p560,b430x";
        String[][] faults = {
            {"", "0"}, {"   ", "3"}, {" x", "1"}, {"0", "0"}, {"  0", "2"}, {"10000", "4"},
            {"4000", "4"}, {"4000  ", "6"}, {"4 000,20,3;p560", "2"}, {"4000;", "4"}, {"4000,", "5"},
            {"4000,0", "5"}, {"4000,101,3;p560", "5"}, {"4000, 101", "6"}, {"4000,20", "7"},
            {"4000,2 0", "7"}, {"4000,20,", "8"}, {"4000,20,x", "8"}, {"4000,20,33;", "9"},
            {"4000,20,3", "9"}, {"4000,20,3,", "9"}, {"4000,20,3;", "10"}, {"4000,20,3; ", "11"},
            {"4000,20,3;x", "10"}, {"4000,20,3;P560", "10"}, {"4000,20,3;p", "11"},
            {"4000,20,3;p0", "11"}, {"4000,20,3;p5", "12"}, {"4000,20,3;p5x", "12"},
            {"4000,20,3;p56", "13"}, {"4000,20,3;p56,", "13"}, {"4000,20,3;p5601", "14"},
            {"4000,20,3;p560xx", "15"}, {"4000,20,3;p560,", "15"}, {"4000,20,3;p560 , ", "17"},
            {"4000,20,3;p560;", "14"}, {"4000,20,3;p560x y", "16"}, {"4000,20,3;,p560", "10"},
            {"4000,20,3;p560 b430", "15"}, {"4000,20,3;p111,p111,p111,p111,p111,p111,p111", "39"},
            {"4000,20,3;p111,p111,p111,p111,p111,p111x,", "40"}, {"-1,20,3;p560", "0"},
            {",20,3;p560", "0"}, {"4000,,3;p560", "5"}, {right + "!", "20"}};
        SeaJar x = Check.jarOf(right);
        x.weeks(2);
        String before = Check.seen(x);
        for (String[] fault : faults) {
            SeaJar fresh = new SeaJar();
            c.due("new: " + fault[0], Check.house(fresh, fault[0]), -20 - Integer.parseInt(fault[1]));
            c.due("count(0)", fresh.count(0), 0);
            if (fault[0].length() < 20) {
                c.due("used: " + fault[0], Check.house(x, fault[0]), -20 - Integer.parseInt(fault[1]));
            }
        }
        c.holds("all else stays", before.equals(Check.seen(x)));
        c.due("the tape is empty", x.house(), -20);
        c.due("60 blanks", Check.house(x, " ".repeat(60)), -80);
        c.due("what was typed ahead is gone", Check.house(x, "4000"), -24);
        c.due("59 letters", Check.house(x, "4000,20,3;" + " ".repeat(49)), -79);
        c.due("a house of 60 letters", Check.house(x, "4000,20,3;" + " ".repeat(46) + "p560"), 1);
    }

    /** Of a number that is too long the first four digits are the number; it is judged ahead of what follows. */
    private static void houseFaultsOfNumbers() {
        c.about("promise 7, numbers");
        SeaJar x = new SeaJar();
        c.due("0000", Check.house(x, "0000,20,3;p560"), -20);
        c.due("00000", Check.house(x, "00000,20,3;p560"), -20);
        c.due("00001", Check.house(x, "00001,20,3;p560"), -20);
        c.due("00010", Check.house(x, "00010,20,3;p560"), -24);
        c.due("price 10000", Check.house(x, "4000,10000,3;p560"), -25);
        c.due("price 00200", Check.house(x, "4000,00200,3;p560"), -29);
        c.due("price 9999", Check.house(x, "4000,9999,3;p560"), -25);
        c.due("price 0100", Check.house(x, "4000,0100,3;p560"), 1);
    }

    private static void count() {
        c.about("promise 8");
        SeaJar x = Check.jarOf("3000,20,2;p560,b430,g355,h870,s999,c111");
        int[] due = {6, 0, 0, 3000, 20, 2, 3, 144, 2040, 32, 0};
        for (int what = 0; what < due.length; what++) {
            c.due("count(" + what + ")", x.count(what), due[what]);
        }
        for (int what : new int[] {-1, 11, Integer.MIN_VALUE, Integer.MAX_VALUE}) {
            c.due("count(" + what + ")", x.count(what), SeaJar.BAD);
        }
        x.weeks(12);
        c.due("8 are known", x.count(10), 8);
        c.due("week", x.count(1), 12);
        c.due("pence: 9999 at most", x.weeks(30), 9999);
        c.holds("what all pay is not cut by that", x.count(8) > 0);
    }
}
