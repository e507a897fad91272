/** The boundary cases of THE TAPE and of a HOUSE's TEXT: the document's sentences above answers. */
public final class TextEdgesTest {
    private static final Check c = new Check();

    public static void main(String[] args) {
        letters();
        full();
        emptyThen();
        needs();
        price();
        mishaps();
        howManyPeople();
        kinds();
        temper();
        habit();
        hopes();
        inPlaceOfAll();
        numbersOfDigits();
        firstLetter();
        theEnd();
        blanks();
        blanksEndANumber();
        allElseStays();
        everyOtherLetter();
        c.end("TextEdgesTest");
    }

    /** The answer of a new object. */
    private static int house(String text) {
        return Check.house(new SeaJar(), text);
    }

    private static void fault(String text, int place) {
        c.due(text, house(text), -20 - place);
    }

    private static SeaJar right(String text, int people) {
        SeaJar x = new SeaJar();
        c.due(text, Check.house(x, text), people);
        return x;
    }

    private static void letters() {
        c.about("promise 6: how many it has; BAD: not 32 .. 126");
        SeaJar x = new SeaJar();
        c.due("31", x.type(31), SeaJar.BAD);
        c.due("32", x.type(32), 1);
        c.due("126", x.type(126), 2);
        c.due("127", x.type(127), SeaJar.BAD);
        c.due("-1", x.type(-1), SeaJar.BAD);
        c.due("one more", x.type('0'), 3);
        for (int letter = 32; letter <= 126; letter++) {
            c.due("letter " + letter, new SeaJar().type(letter), 1);
        }
    }

    private static void full() {
        c.about("promise 6: FULL: 60");
        SeaJar x = new SeaJar();
        String text = "4000,20,3;" + " ".repeat(45) + "p560x";
        for (int k = 0; k < 59; k++) {
            x.type(text.charAt(k));
        }
        c.due("the sixtieth", x.type(text.charAt(59)), 60);
        c.due("one more", x.type('y'), SeaJar.FULL);
        c.due("one more", x.type('y'), SeaJar.FULL);
        c.due("a bad one more", x.type(127), SeaJar.BAD);
        c.due("the sixty are a house", x.house(), 1);
        c.due("x is the sixtieth", x.of(0, 3), 0);
        fault("4000,20,3;p560" + " ".repeat(45) + "!", 59);
    }

    private static void emptyThen() {
        c.about("promise 7: THE TAPE, which is empty then");
        SeaJar x = new SeaJar();
        c.due("nothing", x.house(), -20);
        c.due("a house", Check.house(x, "4000,20,3;p560"), 1);
        c.due("empty behind a house", x.type(' '), 1);
        c.due("a fault", x.house(), -21);
        c.due("empty behind a fault", x.type(' '), 1);
        c.due("a fault", x.house(), -21);
        c.due("nothing", x.house(), -20);
        c.due("60 letters", Check.house(x, "z".repeat(60)), -20);
        c.due("empty behind a full one", x.type(' '), 1);
    }

    private static void needs() {
        c.about("A HOUSE: a number 1 .. 9999 (NEEDS)");
        c.due("1", right("1,20,3;p560", 1).count(3), 1);
        c.due("9999", right("9999,20,3;p560", 1).count(3), 9999);
        fault("0,20,3;p560", 0);
        fault("00,20,3;p560", 0);
        fault("0000,20,3;p560", 0);
        fault("  0,20,3;p560", 2);
        fault("10000,20,3;p560", 4);
        fault("-1,20,3;p560", 0);
        fault("+1,20,3;p560", 0);
        fault(",20,3;p560", 0);
        fault("", 0);
    }

    private static void price() {
        c.about("A HOUSE: then , and a number 1 .. 100 (PRICE)");
        c.due("1", right("4000,1,3;p560", 1).count(4), 1);
        c.due("99", right("4000,99,3;p560", 1).count(4), 99);
        c.due("100", right("4000,100,3;p560", 1).count(4), 100);
        fault("4000,0,3;p560", 5);
        fault("4000,000,3;p560", 5);
        fault("4000,101,3;p560", 5);
        fault("4000,9999,3;p560", 5);
        fault("4000,  101,3;p560", 7);
        fault("4000,,3;p560", 5);
        fault("4000;20,3;p560", 4);
        fault("4000", 4);
        fault("4000,", 5);
    }

    private static void mishaps() {
        c.about("A HOUSE: then , and a digit (MISHAPS)");
        for (int m = 0; m <= 9; m++) {
            c.due("" + m, right("4000,20," + m + ";p560", 1).count(5), m);
        }
        fault("4000,20,10;p560", 9);
        fault("4000,20,03;p560", 9);
        fault("4000,20,;p560", 8);
        fault("4000,20,x;p560", 8);
        fault("4000,20;3;p560", 7);
        fault("4000,20", 7);
        fault("4000,20,", 8);
        // The signs on both sides of the digits.
        fault("4000,20,/;p560", 8);
        fault("4000,20,:;p560", 8);
    }

    private static void howManyPeople() {
        c.about("A HOUSE: then ; and 1 to 6 PEOPLE with , between");
        String text = "4000,20,3;";
        fault("4000,20,3", 9);
        fault("4000,20,3,p560", 9);
        fault("4000,20,3p560", 9);
        fault(text, 10);
        fault(text + ",p560", 10);
        for (int people = 1; people <= 6; people++) {
            text += people == 1 ? "p560" : ",p560";
            c.due("of " + people, right(text, people).count(0), people);
            if (people < 6) {
                fault(text + ",", text.length() + 1);
                fault(text + ",,p560", text.length() + 1);
            }
            fault(text + ";p560", text.length());
            fault(text + "p560", text.length());
        }
        fault(text + ",", text.length());
        fault(text + ",p560", text.length());
        fault(text + "x,p560", text.length() + 1);
    }

    private static void kinds() {
        c.about("A HOUSE: p b g h s c (KINDS in this order)");
        SeaJar x = right("4000,20,3;p560,b560,g560,h560,s560,c560", 6);
        for (int kind = 0; kind < 6; kind++) {
            c.due("kind", x.of(kind, 0), kind);
            c.due("alone", right("4000,20,3;" + "pbghsc".charAt(kind) + "560", 1).of(0, 0), kind);
        }
        for (char letter = ' ' + 1; letter <= '~'; letter++) {
            if ("pbghsc".indexOf(letter) < 0) {
                fault("4000,20,3;" + letter + "560", 10);
                fault("4000,20,3;p560," + letter + "560", 15);
            }
        }
        fault("4000,20,3;560", 10);
    }

    private static void temper() {
        c.about("A HOUSE: a digit 1 .. 9 (TEMPER)");
        for (int temper = 1; temper <= 9; temper++) {
            c.due("" + temper, right("4000,20,3;p" + temper + "60", 1).of(0, 1), temper);
        }
        fault("4000,20,3;p060", 11);
        fault("4000,20,3;p:60", 11);
        fault("4000,20,3;p", 11);
        fault("4000,20,3;pp560", 11);
        fault("4000,20,3;p,p560", 11);
    }

    private static void habit() {
        c.about("A HOUSE: two digits (HABIT)");
        for (int habit : new int[] {0, 1, 9, 10, 98, 99}) {
            c.due("" + habit, right("4000,20,3;p5" + habit / 10 + habit % 10, 1).of(0, 2), habit);
        }
        fault("4000,20,3;p5", 12);
        fault("4000,20,3;p5,p560", 12);
        fault("4000,20,3;p56", 13);
        fault("4000,20,3;p56,p560", 13);
        fault("4000,20,3;p56x", 13);
        fault("4000,20,3;p5600", 14);
        fault("4000,20,3;p5/0", 12);
        fault("4000,20,3;p5:0", 12);
        fault("4000,20,3;p56/", 13);
        fault("4000,20,3;p56:", 13);
    }

    private static void hopes() {
        c.about("A HOUSE: perhaps x (it does not HOPE)");
        SeaJar x = right("4000,20,3;c111,c111x,p111x,c111", 4);
        int[] due = {1, 0, 0, 1};
        for (int who = 0; who < 4; who++) {
            c.due("hopes of " + who, x.of(who, 3), due[who]);
        }
        c.due("children who hope", x.count(9), 9);
        fault("4000,20,3;c111xx", 15);
        fault("4000,20,3;c111X", 14);
        fault("4000,20,3;cx111", 11);
        fault("4000,20,3;xc111", 10);
        fault("4000,20,3;c111,x", 15);
        // Who did not hope in the house ahead of it leaves no trace.
        Check.house(x, "4000,20,3;c111");
        c.due("a second one hopes", x.person(5, 1, 1) + x.of(1, 3), 2);
        c.due("children who hope", x.count(9), 3);
    }

    private static void inPlaceOfAll() {
        c.about("in place of all PEOPLE, NEEDS, PRICE, MISHAPS; PENCE 0, WEEK 0 (THE DRAW stays)");
        SeaJar x = right("3000,20,2;p560,b430,g355,h870,s999,c111", 6);
        x.drift(3);
        int draw = Twins.draw(x);
        x.image();
        c.due("a smaller house", Check.house(x, "1,2,9;s100x"), 1);
        int[] due = {1, 0, 0, 1, 2, 9, 9, 50, 50, 0, 0};
        for (int what = 0; what < due.length; what++) {
            c.due("count(" + what + ")", x.count(what), due[what]);
        }
        c.due("who was second is gone", x.of(1, 0), SeaJar.BAD);
        c.due("the draw stays", Twins.draw(x), draw);
        c.due("who comes is second", x.person(0, 1, 0), 1);
        c.due("the image stays", x.restore(), 1);
        c.due("six people", x.count(0), 6);
        c.due("week 3", x.count(1), 3);
        Check.house(x, "9999,20,0;c111,c111,c111,c111,c111,c111");
        Check.house(x, "9999,20,0;p140,b100");
        c.due("no children", x.count(9), 0);
        c.due("no more mishaps", x.count(6), 0);
        c.due("nobody to hope", x.hoped(1, 0), 0);
        c.due("a buyer's 200 alone", x.hoped(1, 1), 200);
    }

    private static void numbersOfDigits() {
        c.about("Numbers have 1 to 4 digits");
        c.due("1", right("7,7,3;p560", 1).count(3), 7);
        c.due("2", right("07,07,3;p560", 1).count(4), 7);
        c.due("3", right("007,007,3;p560", 1).count(3), 7);
        c.due("4", right("0007,0007,3;p560", 1).count(4), 7);
        c.due("4", right("0100,0100,3;p560", 1).count(4), 100);
        fault("10000,20,3;p560", 4);
        fault("00070,20,3;p560", 4);
        fault("99999", 4);
        fault("4000,00070,3;p560", 9);
        fault("4000,01000,3;p560", 9);
        // What the first four are is looked at ahead of a fifth.
        fault("00007,20,3;p560", 0);
        fault("4000,10000,3;p560", 5);
        fault("4000,00007,3;p560", 5);
    }

    private static void firstLetter() {
        c.about("-20 less the place of the first letter (behind blanks) that can't stand there, or of the number's first digit");
        fault("x", 0);
        fault("   x", 3);
        fault("4000.", 4);
        fault("4000   .", 7);
        fault("0,101,x", 0);
        fault("4000,101,x;q", 5);
        fault("4000,20,x;q", 8);
        fault("4000,20,3;q0", 10);
        fault("4000,20,3;   q0", 13);
        fault("4000,20,3;p560!", 14);
        fault("4000,20,3;p560  !", 16);
        fault("0!", 0);
        fault("4000,101!", 5);
    }

    private static void theEnd() {
        c.about("(the end: how many there are)");
        String text = "4000,20,3;p560,b430x";
        int[] houses = {14, 19, 20};
        for (int many = 0; many <= text.length(); many++) {
            String some = text.substring(0, many);
            boolean is = false;
            for (int house : houses) {
                is |= house == many;
            }
            if (is) {
                right(some, many == 14 ? 1 : 2);
                right(some + "  ", many == 14 ? 1 : 2);
            } else {
                fault(some, many);
                fault(some + "  ", many + 2);
            }
        }
        fault(" ".repeat(60), 60);
        fault("4000,20,3;" + " ".repeat(50), 60);
    }

    private static void blanks() {
        c.about("blanks count for nothing");
        StringBuilder text = new StringBuilder("  ");
        for (char letter : "4000,20,3;p560x,c111".toCharArray()) {
            text.append(letter).append(Character.isDigit(letter) && text.indexOf(";") < 0 ? "" : "  ");
        }
        SeaJar x = right(text.toString(), 2);
        c.due("habit", x.of(0, 2), 60);
        c.due("hopes", x.of(0, 3), 0);
        c.due("habit", x.of(1, 2), 11);
        c.due("hopes", x.of(1, 3), 1);
        right(" 1 , 1 , 1 ; p 1 1 1 x ", 1);
        fault(" 1 , 1 , 1 ; p 1 1 1 x x ", 23);
    }

    private static void blanksEndANumber() {
        c.about("blanks end a number");
        fault("4 000,20,3;p560", 2);
        fault("4000 0,20,3;p560", 5);
        fault("400   0,20,3;p560", 6);
        fault("4000,2 0,3;p560", 7);
        fault("4000,10 0,3;p560", 8);
        fault("0 1,20,3;p560", 0);
        fault("4000,0 1,3;p560", 5);
        c.due("behind it is ,", right("4000 ,20 ,3;p560", 1).count(3), 4000);
    }

    private static void allElseStays() {
        c.about("promise 7: A FAULT (all else stays)");
        SeaJar x = right("500,30,2;p560,c133x,b430", 3);
        x.weeks(3);
        x.image();
        x.drift(2);
        x.sheet(0, 0, 7);
        String seen = Check.seen(x);
        for (String text : new String[] {"", "1", "1,1,1", "1,1,1;", "1,1,1;p111,", "1,1,1;p111,s222x,g33", "1,1,1;p111!",
            "1,1,1;p111,p111,p111,p111,p111,p111,"}) {
            c.holds(text + " is a fault", Check.house(x, text) <= -20);
        }
        c.holds("all stays", seen.equals(Check.seen(x)));
        c.due("what may be undone", x.undo(), 4);
        c.due("the image", x.restore() + x.count(1), 4);
        c.due("sheets", x.drop(0), 7);
    }

    /** Each letter of right texts is left out, is another, or has another ahead of it: as the oracle reads it. */
    private static void everyOtherLetter() {
        c.about("as the oracle reads it");
        for (String text : new String[] {"9,1,0;p111", "4000,20,3;p560,b430x", "0123,0045,6;c101x,s999",
            "1 ,99 ,9 ; h 1 0 0 x ,g222", "77,7,7;p111,b222,g333,h444,s555,c666"}) {
            for (int place = 0; place <= text.length(); place++) {
                String ahead = text.substring(0, place);
                String behind = text.substring(Math.min(text.length(), place + 1));
                asTheOracle(ahead + behind);
                for (char letter = ' '; letter <= '~'; letter++) {
                    asTheOracle(ahead + letter + behind);
                    asTheOracle(ahead + letter + text.substring(place));
                }
            }
        }
    }

    private static void asTheOracle(String text) {
        SeaJar x = new SeaJar();
        Oracle o = new Oracle();
        for (char letter : text.toCharArray()) {
            x.type(letter);
            o.type(letter);
        }
        c.due(text, x.house(), o.house());
        for (int what = 3; what <= 9; what++) {
            c.due(text + ": count(" + what + ")", x.count(what), o.count(what));
        }
    }
}
