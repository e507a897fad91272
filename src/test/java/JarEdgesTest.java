/** The boundary cases of the terms, 1 THE JAR: each method has the document's sentence above its answers. */
public final class JarEdgesTest {
    private static final Check c = new Check();
    private static final int NEEDS = 0, PRICE = 1, MISHAPS = 2;
    private static final int KIND = 0, TEMPER = 1, HABIT = 2, HOPES = 3, WORDS = 4, PAYS = 5, THEN = 6;

    public static void main(String[] args) {
        pence();
        rulesAtFirst();
        ruleLimits();
        peopleAsTheyCome();
        hopeAtFirst();
        wordsAreCut();
        wordsAtMost();
        plainPays();
        habitLess();
        habitMore();
        habitNineAtMost();
        habitNoughtAtLeast();
        buyerWords();
        buyerPays();
        buyerHabit();
        guestPays();
        hushedPays();
        saintWords();
        saintIsHushed();
        childWords();
        childrenMakeMishaps();
        lessThanNeeded();
        hopesAheadOfTheWeek();
        habitsAsTheyAre();
        payAtMost();
        calls();
        c.end("JarEdgesTest");
    }

    /** One person by m mishaps at a price, in week 0; nobody else. */
    private static SeaJar one(int kind, int temper, int habit, int m, int price) {
        SeaJar x = new SeaJar();
        x.rule(PRICE, price);
        x.rule(MISHAPS, m);
        x.person(kind, temper, habit);
        return x;
    }

    private static void plain(int temper, int habit, int m, int price, int words, int pays, int then) {
        SeaJar x = one(0, temper, habit, m, price);
        String who = m + " mishaps, temper " + temper + ", habit " + habit + ", price " + price;
        c.due("words by " + who, x.of(0, WORDS), words);
        c.due("pays by " + who, x.of(0, PAYS), pays);
        c.due("habit then by " + who, x.of(0, THEN), then);
        c.due("pence by " + who, x.weeks(1), pays);
        c.due("habit by " + who, x.of(0, HABIT), then);
    }

    private static void pence() {
        c.about("PENCE (0 .. 9999; 0 at first)");
        SeaJar x = one(1, 1, 0, 0, 100);
        c.due("at first", x.count(2), 0);
        c.due("1000 a week", x.weeks(9), 9000);
        x.rule(PRICE, 99);
        c.due("990 more", x.weeks(1), 9990);
        x.rule(PRICE, 1);
        x.take(2);
        c.due("10 more", x.weeks(1), 9998);
        x.undo();
        x.undo();
        x.take(1);
        c.due("just 9999", x.weeks(1), 9999);
        x.undo();
        x.undo();
        c.due("not 10000", x.weeks(1), 9999);
        c.due("not 10009", x.weeks(1), 9999);
        c.due("all are there", x.take(9999), 0);
        c.due("0 at least", x.take(1), SeaJar.NOT);
        c.due("0", x.count(2), 0);
    }

    private static void rulesAtFirst() {
        c.about("NEEDS 4000 at first, PRICE 20 at first, MISHAPS 3 at first, WEEK 0 at first");
        SeaJar x = new SeaJar();
        c.due("needs", x.count(3), 4000);
        c.due("price", x.count(4), 20);
        c.due("mishaps", x.count(5), 3);
        c.due("week", x.count(1), 0);
        c.due("needs were", x.rule(NEEDS, 4000), 4000);
        c.due("price was", x.rule(PRICE, 20), 20);
        c.due("mishaps were", x.rule(MISHAPS, 3), 3);
    }

    private static void ruleLimits() {
        int[][] limits = {{1, 9999, 3}, {1, 100, 4}, {0, 9, 5}};
        String[] said = {"NEEDS 1 .. 9999", "PRICE is 1 .. 100", "MISHAPS are 0 .. 9"};
        for (int what = 0; what < 3; what++) {
            c.about(said[what]);
            int least = limits[what][0], most = limits[what][1], counted = limits[what][2];
            SeaJar x = new SeaJar();
            int was = x.count(counted);
            c.due("too small", x.rule(what, least - 1), SeaJar.BAD);
            c.due("too large", x.rule(what, most + 1), SeaJar.BAD);
            c.due("stays", x.count(counted), was);
            c.due("least", x.rule(what, least), was);
            c.due("is", x.count(counted), least);
            c.due("most", x.rule(what, most), least);
            c.due("is", x.count(counted), most);
            for (int other = 3; other <= 5; other++) {
                c.due("the others stay", x.count(other), other == counted ? most : new SeaJar().count(other));
            }
        }
    }

    private static void peopleAsTheyCome() {
        c.about("PEOPLE 0 .. 5, as they come, are of a KIND, of TEMPER (1 .. 9), have a HABIT (0 .. 99)");
        SeaJar x = new SeaJar();
        int[][] who = {{5, 1, 0}, {4, 9, 99}, {3, 1, 99}, {2, 9, 0}, {1, 5, 1}, {0, 2, 98}};
        for (int k = 0; k < 6; k++) {
            c.due("number", x.person(who[k][0], who[k][1], who[k][2]), k);
            c.due("how many", x.count(0), k + 1);
        }
        for (int k = 0; k < 6; k++) {
            c.due("kind of " + k, x.of(k, KIND), who[k][0]);
            c.due("temper of " + k, x.of(k, TEMPER), who[k][1]);
            c.due("habit of " + k, x.of(k, HABIT), who[k][2]);
        }
        c.due("a seventh", x.person(0, 1, 0), SeaJar.FULL);
        c.due("how many", x.count(0), 6);
    }

    private static void hopeAtFirst() {
        c.about("HOPE or not (they do at first; it counts for those only who are told so below)");
        for (int kind = 0; kind < 6; kind++) {
            SeaJar x = one(kind, 5, 50, 3, 20);
            c.due("at first", x.of(0, HOPES), 1);
            c.due("mishaps", x.count(6), kind == 5 ? 4 : 3);
            c.due("children who hope", x.count(9), kind == 5 ? 1 : 0);
            c.due("no more", x.hope(0, 0), 1);
            c.due("mishaps", x.count(6), 3);
            c.due("children who hope", x.count(9), 0);
            c.due("no more", x.of(0, HOPES), 0);
            c.due("again", x.hope(0, 1), 0);
            c.due("again", x.of(0, HOPES), 1);
        }
        SeaJar all = Check.jarOf("4000,20,3;p111,b111,g111,h111,s111,c111");
        for (int who = 0; who < 6; who++) {
            c.due("how it was", all.hope(who, 0), 1);
            c.due("how it was", all.hope(who, 0), 0);
            c.due("the next one hopes on", all.of(who + 1, HOPES), who < 5 ? 1 : SeaJar.BAD);
            c.due("how it was", all.hope(who, 1), 0);
            c.due("how it was", all.hope(who, 1), 1);
        }
    }

    private static void wordsAreCut() {
        c.about("WORDS: m times TEMPER times HABIT, by PRICE and 20 together; what is divided is cut");
        plain(5, 1, 4, 1, 0, 0, 2);
        plain(3, 1, 7, 1, 1, 1, 2);
        plain(1, 17, 7, 100, 0, 0, 18);
        plain(3, 5, 8, 100, 1, 100, 4);
        plain(1, 79, 1, 20, 1, 20, 80);
        plain(1, 80, 1, 20, 2, 40, 81);
        plain(9, 99, 0, 20, 0, 0, 99);
        plain(9, 0, 9, 20, 0, 0, 1);
    }

    private static void wordsAtMost() {
        c.about("WORDS: 99 at most");
        plain(6, 49, 7, 1, 98, 98, 50);
        plain(7, 33, 9, 1, 99, 99, 34);
        plain(6, 50, 7, 1, 99, 99, 51);
        plain(9, 99, 9, 1, 99, 99, 99);
        plain(9, 99, 9, 61, 99, 6039, 90);
        plain(9, 99, 9, 62, 97, 6014, 90);
    }

    private static void plainPays() {
        c.about("PAYS WORDS times PRICE");
        plain(2, 60, 2, 99, 2, 198, 59);
        plain(9, 99, 9, 100, 66, 6600, 90);
    }

    private static void habitLess() {
        c.about("HABIT is less by what it PAYS by 100");
        plain(1, 60, 2, 100, 1, 100, 59);
        plain(2, 60, 2, 100, 2, 200, 58);
        plain(2, 60, 2, 99, 2, 198, 59);
        plain(2, 90, 2, 99, 3, 297, 88);
    }

    private static void habitMore() {
        c.about("but 1 more, if it PAYS less than 100 (99 at most)");
        plain(2, 60, 1, 99, 1, 99, 61);
        plain(1, 60, 2, 100, 1, 100, 59);
        plain(1, 98, 0, 20, 0, 0, 99);
        plain(1, 99, 0, 20, 0, 0, 99);
        plain(1, 99, 1, 99, 0, 0, 99);
        plain(1, 0, 1, 20, 0, 0, 1);
    }

    private static void habitNineAtMost() {
        c.about("HABIT is less by what it PAYS by 100 (9 at most)");
        plain(2, 60, 8, 100, 8, 800, 52);
        plain(2, 60, 9, 100, 9, 900, 51);
        plain(4, 60, 5, 100, 10, 1000, 51);
        plain(9, 99, 9, 100, 66, 6600, 90);
    }

    private static void habitNoughtAtLeast() {
        c.about("HABIT is less by what it PAYS by 100 (0 at least)");
        int[][] saints = {{0, 0}, {1, 0}, {8, 0}, {9, 0}, {10, 1}};
        for (int[] s : saints) {
            SeaJar x = one(4, 1, s[0], 0, 100);
            c.due("a saint's of " + s[0], x.of(0, THEN), s[1]);
            x.weeks(1);
            c.due("a saint's of " + s[0], x.of(0, HABIT), s[1]);
        }
        SeaJar guest = one(2, 9, 5, 9, 100);
        c.due("405 by 120 is 3, twice 300", guest.of(0, PAYS), 600);
        c.due("5 less 6", guest.of(0, THEN), 0);
    }

    private static void buyerWords() {
        c.about("1 BUYER: WORDS: twice as many (99 at most)");
        int[][] due = {{1, 5, 4, 0}, {1, 3, 7, 2}, {49, 3, 7, 98}, {50, 3, 7, 99}, {99, 9, 9, 99}};
        for (int[] d : due) {
            SeaJar x = one(1, d[1], d[0], d[2], 1);
            c.due("of habit " + d[0], x.of(0, WORDS), d[3]);
            c.due("in all", x.count(7), d[3]);
        }
        c.due("twice 1, not 79 by 20", one(1, 1, 79, 1, 20).of(0, WORDS), 2);
    }

    private static void buyerPays() {
        c.about("PAYS 10 times PRICE, however many");
        for (int price : new int[] {1, 9, 10, 100}) {
            c.due("no words", one(1, 1, 0, 0, price).of(0, PAYS), 10 * price);
            c.due("many words", one(1, 9, 99, 9, price).of(0, PAYS), 10 * price);
            c.due("comes to the jar", one(1, 1, 0, 0, price).weeks(1), 10 * price);
        }
    }

    private static void buyerHabit() {
        c.about("HABIT 1 more always (99 at most)");
        for (int price : new int[] {1, 9, 10, 100}) {
            c.due("of 0", one(1, 1, 0, 9, price).of(0, THEN), 1);
            c.due("of 98", one(1, 9, 98, 9, price).of(0, THEN), 99);
            SeaJar x = one(1, 9, 99, 9, price);
            c.due("of 99", x.of(0, THEN), 99);
            x.weeks(60);
            c.due("of 99", x.of(0, HABIT), 99);
        }
    }

    private static void guestPays() {
        c.about("2 GUEST (below PLAIN): PAYS twice as much");
        SeaJar x = one(2, 2, 60, 1, 49);
        c.due("120 by 69", x.of(0, WORDS), 1);
        c.due("twice 49", x.of(0, PAYS), 98);
        c.due("98 is less than 100", x.of(0, THEN), 61);
        x = one(2, 2, 60, 1, 50);
        c.due("twice 50", x.of(0, PAYS), 100);
        c.due("100 is not", x.of(0, THEN), 59);
        c.due("99 words at most", one(2, 9, 99, 9, 1).of(0, WORDS), 99);
        c.due("9 at most", one(2, 9, 99, 9, 100).of(0, THEN), 90);
        c.due("99 at most", one(2, 1, 99, 0, 20).of(0, THEN), 99);
    }

    private static void hushedPays() {
        c.about("3 HUSHED (below PLAIN): PAYS half as much; what is divided is cut");
        SeaJar x = one(3, 3, 1, 7, 1);
        c.due("1 word", x.of(0, WORDS), 1);
        c.due("half of 1", x.of(0, PAYS), 0);
        x = one(3, 2, 60, 2, 99);
        c.due("half of 198", x.of(0, PAYS), 99);
        c.due("less than 100", x.of(0, THEN), 61);
        x = one(3, 2, 60, 2, 100);
        c.due("half of 200", x.of(0, PAYS), 100);
        c.due("not less than 100", x.of(0, THEN), 59);
        x = one(3, 2, 90, 2, 99);
        c.due("half of 297", x.of(0, PAYS), 148);
        c.due("half of it, not of each", one(3, 9, 3, 7, 3).of(0, PAYS), 8 * 3 / 2);
        c.due("99 words at most", one(3, 9, 99, 9, 1).of(0, WORDS), 99);
        c.due("9 at most", one(3, 9, 99, 9, 100).of(0, THEN), 90);
    }

    private static void saintWords() {
        c.about("4 SAINT: WORDS: none, but 50 in WEEKS that are a multiple of 20");
        SeaJar x = one(4, 9, 99, 9, 1);
        for (int week = 0; week <= 61; week++) {
            c.due("in week " + week, x.of(0, WORDS), week == 0 || week == 20 || week == 40 || week == 60 ? 50 : 0);
            x.weeks(1);
        }
        SeaJar y = one(4, 1, 0, 0, 100);
        c.due("by no mishaps, no habit too", y.of(0, WORDS), 50);
        y.weeks(60);
        c.due("drifts too", y.drift(20), 50);
        c.due("a week of a drift", y.drift(1), 50);
        c.due("a week of a drift", y.drift(1), 0);
    }

    private static void saintIsHushed() {
        c.about("4 SAINT (below HUSHED)");
        SeaJar x = one(4, 1, 60, 0, 3);
        c.due("half of 150", x.of(0, PAYS), 75);
        c.due("75 is less than 100", x.of(0, THEN), 61);
        x.rule(PRICE, 4);
        c.due("half of 200", x.of(0, PAYS), 100);
        c.due("100 is not", x.of(0, THEN), 59);
        x.rule(PRICE, 100);
        c.due("half of 5000", x.of(0, PAYS), 2500);
        c.due("9 at most", x.of(0, THEN), 51);
        x.weeks(1);
        c.due("none", x.of(0, PAYS), 0);
        c.due("1 more", x.of(0, THEN), 52);
    }

    private static void childWords() {
        c.about("5 CHILD (below PLAIN): WORDS: none");
        SeaJar x = one(5, 9, 98, 9, 1);
        c.due("none", x.of(0, WORDS), 0);
        c.due("none", x.of(0, PAYS), 0);
        c.due("1 more", x.of(0, THEN), 99);
        x.weeks(1);
        c.due("99 at most", x.of(0, THEN), 99);
        c.due("none in week 20", x.weeks(19) + x.of(0, WORDS), 0);
    }

    private static void childrenMakeMishaps() {
        c.about("of CHILDREN who HOPE each makes MISHAPS 1 more");
        SeaJar x = new SeaJar();
        x.rule(MISHAPS, 9);
        for (int k = 0; k < 6; k++) {
            c.due(k + " children", x.count(6), 9 + k);
            c.due("as a set", x.count(9), (1 << k) - 1);
            x.person(5, 1, 0);
        }
        c.due("6 children", x.count(6), 15);
        c.due("as a set", x.count(9), 63);
        c.due("mishaps are as told", x.count(5), 9);
        for (int k = 0; k < 6; k++) {
            x.hope(k, 0);
            c.due("one less", x.count(6), 14);
            c.due("as a set", x.count(9), 63 - (1 << k));
            x.hope(k, 1);
        }
        x.rule(MISHAPS, 0);
        c.due("of none", x.count(6), 6);
        SeaJar y = Check.jarOf("9999,100,9;c111,c111,c111,c111,c111,p999");
        c.due("126 * 99 by 120 is above 99", y.of(5, WORDS), 99);
        Check.house(y, "9999,100,9;c111,c111,c111,c111,c111,p908");
        c.due("126 * 8 by 120", y.of(5, WORDS), 8);
    }

    private static void lessThanNeeded() {
        c.about("in a WEEK ahead of which there is less in THE JAR than it NEEDS");
        SeaJar x = Check.jarOf("201,20,0;b100,c111,p110");
        x.weeks(1);
        x.rule(MISHAPS, 3);
        c.due("pence", x.count(2), 200);
        c.due("one less than it needs", x.count(6), 4);
        c.due("words by 4: 44 by 40", x.of(2, WORDS), 1);
        x.rule(NEEDS, 200);
        c.due("just what it needs", x.count(6), 3);
        c.due("words by 3: 33 by 40", x.of(2, WORDS), 0);
        x.rule(NEEDS, 199);
        c.due("more than it needs", x.count(6), 3);
        c.due("they hope on", x.count(9), 2);
        x.take(2);
        c.due("less again", x.count(6), 4);
        SeaJar empty = Check.jarOf("1,20,3;c111");
        c.due("an empty jar needs 1", empty.count(6), 4);
        SeaJar full = Check.jarOf("9999,100,3;b100,b100,c111");
        full.weeks(60);
        c.due("a full jar", full.count(6), 3);
        full.take(1);
        c.due("9998", full.count(6), 4);
    }

    private static void hopesAheadOfTheWeek() {
        c.about("all say WORDS, by MISHAPS, what HOPES make of them; then all PAY");
        // The buyer's 1000 come ahead of the second one's words only if they are paid too early.
        SeaJar x = Check.jarOf("1000,100,1;b100,c111,p960");
        c.due("2 mishaps, 1080 by 120", x.of(2, WORDS), 9);
        c.due("all by 2", x.count(7), 9);
        c.due("1000 and 900", x.weeks(1), 1900);
        c.due("next week by 1", x.of(2, WORDS), 9 * 51 / 120);
        c.due("1000 and 300", x.weeks(1), 3200);
    }

    private static void habitsAsTheyAre() {
        c.about("HABITS as they are; then HABITS are others; it is the next WEEK");
        SeaJar x = Check.jarOf("1,100,2;p260,p260,s160");
        c.due("2 * 2 * 60 by 120, twice, and 50", x.count(7), 54);
        c.due("200 each, and 2500", x.weeks(1), 2900);
        c.due("58", x.of(0, HABIT), 58);
        c.due("58", x.of(1, HABIT), 58);
        c.due("51", x.of(2, HABIT), 51);
        c.due("week", x.count(1), 1);
        c.due("232 by 120, twice", x.count(7), 2);
    }

    private static void payAtMost() {
        c.about("then all PAY into THE JAR (9999 at most)");
        SeaJar x = Check.jarOf("9999,100,9;p999,p999,p999,p999,p999,p999");
        c.due("what all pay", x.count(8), 6 * 6600);
        c.due("is cut in the jar", x.weeks(1), 9999);
        c.due("habits are by what is paid", x.of(5, HABIT), 90);
        c.due("what all pay", x.count(8), 6 * 6000);
        c.due("9999 again", x.weeks(1), 9999);
    }

    private static void calls() {
        c.about("An object is used for at most 512 calls");
        SeaJar x = new SeaJar();
        x.person(1, 1, 0);
        x.rule(PRICE, 1);
        for (int k = 2; k < 166; k++) {
            x.weeks(60);
        }
        for (int k = 166; k < 511; k++) {
            x.take(1);
        }
        c.due("the 512th", x.count(2), 9999 - 345);
    }
}
