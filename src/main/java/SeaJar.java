/**
 * A swear jar that saves for a trip to the sea: people pay for their words, their habits change
 * by it, and what comes of that can be lived, undone or foretold. The document's words are kept
 * as names: words, pays, habit, hopes, mishaps, needs, price, week, the draw.
 */
public final class SeaJar {
    public static final int BAD = -1, NOT = -2, FULL = -3, NONE = -4, NULL = -11, CAST = -12, INDEX = -13, SIZE = -14;

    private static final int MOST_PEOPLE = 6, MOST_PENCE = 9999, MOST_PRICE = 100, MOST_MISHAPS = 9;
    private static final int MOST_TEMPER = 9, MOST_HABIT = 99, MOST_WORDS = 99;
    private static final int LAST_WEEK = 9999, MOST_WEEKS_AT_ONCE = 60, MOST_FORETOLD = 99, MOST_BY_LUCK = 6;
    private static final int PLAIN = 0, BUYER = 1, GUEST = 2, HUSHED = 3, SAINT = 4, CHILD = 5;
    private static final int KNOWN_PAST = 8, TAPE_LENGTH = 60, FAULT = -20, NUMBER_DIGITS = 4;
    private static final int LOWEST_31_BITS = 0x7fffffff;
    private static final int SHEETS = 4, LANES = 4, MOST_ITEMS = 24, MOST_TAKEN_WEEKS = 8;

    private final House now = new House();
    private final Past past = new Past();
    private final House imageOfNow = new House();
    private final Past imageOfPast = new Past();
    private boolean hasImage = false;
    /** What is foretold, or read from the tape, is tried out here so that nothing real changes. */
    private final House trial = new House();
    private final Tape tape = new Tape();
    private final Row[] rows = new Row[SHEETS];

    public SeaJar() {
        for (int s = 0; s < SHEETS; s++) {
            rows[s] = new Row();
        }
    }

    // ---- 1 people, a jar

    public int person(int kind, int temper, int habit) {
        if (!within(kind, PLAIN, CHILD) || !within(temper, 1, MOST_TEMPER) || !within(habit, 0, MOST_HABIT)) {
            return BAD;
        }
        if (now.size >= MOST_PEOPLE) {
            return FULL;
        }
        now.add(newPerson(kind, temper), habit, true);
        past.forget();
        return now.size - 1;
    }

    public int of(int person, int what) {
        if (!isPerson(person)) {
            return BAD;
        }
        switch (what) {
            case 0: return now.people[person].kind();
            case 1: return now.people[person].temper;
            case 2: return now.habits[person];
            case 3: return now.hopes >> person & 1;
            case 4: return now.wordsOf(person);
            case 5: return now.paysOf(person);
            case 6: return now.habitThenOf(person);
            default: return BAD;
        }
    }

    public int rule(int what, int v) {
        int was;
        if (what == 0 && within(v, 1, MOST_PENCE)) {
            was = now.needs;
            now.needs = v;
        } else if (what == 1 && within(v, 1, MOST_PRICE)) {
            was = now.price;
            now.price = v;
        } else if (what == 2 && within(v, 0, MOST_MISHAPS)) {
            was = now.mishaps;
            now.mishaps = v;
        } else {
            was = BAD;
        }
        return was;
    }

    public int hope(int person, int is) {
        if (!isPerson(person) || !within(is, 0, 1)) {
            return BAD;
        }
        int was = now.hopes >> person & 1;
        now.hopes = now.hopes & ~(1 << person) | is << person;
        return was;
    }

    public int type(int letter) {
        if (!within(letter, 32, 126)) {
            return BAD;
        }
        if (tape.length >= TAPE_LENGTH) {
            return FULL;
        }
        tape.letters[tape.length] = (char) letter;
        tape.length++;
        return tape.length;
    }

    public int house() {
        trial.become(now);
        trial.moveOut();
        int fault = tape.readInto(trial);
        tape.length = 0;
        if (fault != Tape.NO_FAULT) {
            return FAULT - fault;
        }
        now.become(trial);
        past.forget();
        return now.size;
    }

    public int count(int what) {
        switch (what) {
            case 0: return now.size;
            case 1: return now.week;
            case 2: return now.pence;
            case 3: return now.needs;
            case 4: return now.price;
            case 5: return now.mishaps;
            case 6: return now.withHopes(now.mishaps);
            case 7: return now.wordsOfAll();
            case 8: return now.paysOfAll();
            case 9: return now.hopes & now.children;
            case 10: return past.known;
            default: return BAD;
        }
    }

    // ---- what is done

    public int weeks(int n) {
        if (!within(n, 1, MOST_WEEKS_AT_ONCE)) {
            return BAD;
        }
        if (now.week + n > LAST_WEEK) {
            return FULL;
        }
        for (int w = 0; w < n; w++) {
            past.remember(now);
            now.live(now.mishaps);
        }
        return now.pence;
    }

    public int take(int n) {
        if (!within(n, 1, MOST_PENCE)) {
            return BAD;
        }
        if (n > now.pence) {
            return NOT;
        }
        past.remember(now);
        now.pence -= n;
        return now.pence;
    }

    public int drift(int n) {
        if (!within(n, 1, MOST_WEEKS_AT_ONCE)) {
            return BAD;
        }
        if (now.week + n > LAST_WEEK) {
            return FULL;
        }
        int said = 0;
        for (int w = 0; w < n; w++) {
            past.remember(now);
            said += now.live(now.drawMishaps());
        }
        return said;
    }

    public int undo() {
        if (past.known == 0) {
            return NONE;
        }
        past.bringBack(now);
        return past.known;
    }

    public int seed(int v) {
        if (v < 0) {
            return BAD;
        }
        int was = now.draw;
        now.draw = v;
        return was;
    }

    // ---- 2 foretold

    public int ahead(int n, int what) {
        if (!within(n, 0, MOST_FORETOLD) || !within(what, 0, 2)) {
            return BAD;
        }
        trial.become(now);
        if (what == 1) {
            return trial.wordsInLast(n);
        }
        int said = trial.liveOn(n);
        return what == 0 ? trial.pence : said;
    }

    public int due() {
        trial.become(now);
        for (int w = 0; w <= MOST_FORETOLD; w++) {
            if (trial.pence >= trial.needs) {
                return w;
            }
            trial.live(trial.mishaps);
        }
        return NONE;
    }

    public int dearest(int n, int what) {
        if (!within(n, 0, MOST_FORETOLD) || !within(what, 0, 1)) {
            return BAD;
        }
        int best = 0;
        int most = -1;
        for (int price = 1; price <= MOST_PRICE; price++) {
            tryPrice(price);
            trial.liveOn(n);
            if (trial.pence > most) {
                best = price;
                most = trial.pence;
            }
        }
        return what == 0 ? best : most;
    }

    public int quiet(int n, int what) {
        if (!within(n, 0, MOST_FORETOLD) || !within(what, 0, 1)) {
            return BAD;
        }
        int best = 0;
        int fewest = 0;
        for (int price = 1; price <= MOST_PRICE; price++) {
            tryPrice(price);
            int said = trial.liveOn(n);
            if (best == 0 || said < fewest) {
                best = price;
                fewest = said;
            }
        }
        return what == 0 ? best : fewest;
    }

    public int ends(int n) {
        if (!within(n, 1, MOST_FORETOLD)) {
            return BAD;
        }
        for (int price = 1; price <= MOST_PRICE; price++) {
            tryPrice(price);
            if (trial.wordsInLast(n) == 0) {
                return price;
            }
        }
        return NONE;
    }

    public int raised(int q, int n, int how) {
        if (!within(q, 1, MOST_PRICE) || !within(n, 0, MOST_FORETOLD) || !within(how, 0, 1)) {
            return BAD;
        }
        trial.become(now);
        int said = 0;
        for (int w = 0; w < n; w++) {
            trial.price = how == 0 ? q : oneNearer(trial.price, q);
            said += trial.live(trial.mishaps);
        }
        return said;
    }

    public int hoped(int n, int what) {
        if (!within(n, 0, MOST_FORETOLD) || !within(what, 0, 1)) {
            return BAD;
        }
        int best = 0;
        int most = -1;
        for (int set = 0; set < 1 << MOST_PEOPLE; set++) {
            if ((set & ~now.children) != 0) {
                continue;
            }
            trial.become(now);
            trial.hopes = set;
            trial.liveOn(n);
            if (trial.pence > most) {
                best = set;
                most = trial.pence;
            }
        }
        return what == 0 ? best : most;
    }

    public int mean(int n, int what) {
        if (!within(n, 0, MOST_BY_LUCK) || !within(what, 0, 1)) {
            return BAD;
        }
        int below = 1;
        for (int w = 0; w < n; w++) {
            below *= 3;
        }
        int above = 0;
        for (int luck = 0; luck < below; luck++) {
            above += penceByLuck(luck, n);
        }
        // What is below is a power of 3, so 3 is all that the two can share.
        for (int w = 0; w < n && above % 3 == 0; w++) {
            above /= 3;
            below /= 3;
        }
        return what == 0 ? above : below;
    }

    public int image() {
        imageOfNow.become(now);
        imageOfPast.become(past);
        hasImage = true;
        return 1;
    }

    public int restore() {
        if (!hasImage) {
            return NONE;
        }
        now.become(imageOfNow);
        past.become(imageOfPast);
        return 1;
    }

    // ---- 3 sheets

    public int taken(int sheet, int lane, int i, int n, int what) {
        if (!isSheet(sheet) || !isLane(lane) || !within(n, 1, MOST_TAKEN_WEEKS) || !within(what, 0, 1)) {
            return BAD;
        }
        Row row = rows[sheet];
        int refused = row.refuses(lane, i, n);
        if (refused != 0) {
            return refused;
        }
        int below = Math.min(now.pence, now.needs - 1);
        if (what == 0) {
            return starts(row, i, n, 0, below, 0) + starts(row, i, n, now.needs, now.pence, 0);
        }
        int most = starts(row, i, n, now.needs, now.pence, 1);
        if (most == NONE) {
            most = starts(row, i, n, 0, below, 1);
        }
        return most == NONE ? NONE : now.pence - most;
    }

    public int film(int n, int sheet, int lane, int i) {
        if (!within(n, 1, MOST_ITEMS) || !isSheet(sheet) || !isLane(lane)) {
            return BAD;
        }
        Row row = rows[sheet];
        int refused = row.refuses(lane, i, n);
        if (refused != 0) {
            return refused;
        }
        trial.become(now);
        for (int w = 0; w < n; w++) {
            trial.live(trial.mishaps);
            row.put(i + w, trial.pence);
        }
        return n;
    }

    public int sheet(int sheet, int lane, int n) {
        if (!isSheet(sheet) || !isLane(lane) || n > MOST_ITEMS) {
            return BAD;
        }
        if (n < 0) {
            return SIZE;
        }
        rows[sheet].begin(lane, n);
        return n;
    }

    public int drop(int sheet) {
        if (!isSheet(sheet)) {
            return BAD;
        }
        Row row = rows[sheet];
        if (!row.held) {
            return NULL;
        }
        row.held = false;
        return row.size;
    }

    public int item(int sheet, int lane, int i, long v) {
        if (!isSheet(sheet) || !isLane(lane)) {
            return BAD;
        }
        Row row = rows[sheet];
        int refused = row.refuses(lane, i, 1);
        if (refused != 0) {
            return refused;
        }
        row.put(i, v);
        return 1;
    }

    public int copy(int from, int i, int to, int j, int n) {
        if (!isSheet(from) || !isSheet(to)) {
            return BAD;
        }
        Row source = rows[from];
        Row target = rows[to];
        if (!source.held || !target.held) {
            return NULL;
        }
        if (source.lane != target.lane) {
            return CAST;
        }
        if (source.lacks(i, n) || target.lacks(j, n)) {
            return INDEX;
        }
        System.arraycopy(source.items, i, target.items, j, n);
        return n;
    }

    // ---- what the calls share

    private static boolean within(int v, int least, int most) {
        return v >= least && v <= most;
    }

    private static boolean isSheet(int sheet) {
        return within(sheet, 0, SHEETS - 1);
    }

    private static boolean isLane(int lane) {
        return within(lane, 0, LANES - 1);
    }

    private boolean isPerson(int person) {
        return within(person, 0, now.size - 1);
    }

    private static Plain newPerson(int kind, int temper) {
        switch (kind) {
            case BUYER: return new Buyer(temper);
            case GUEST: return new Guest(temper);
            case HUSHED: return new Hushed(temper);
            case SAINT: return new Saint(temper);
            case CHILD: return new Child(temper);
            default: return new Plain(temper);
        }
    }

    private void tryPrice(int price) {
        trial.become(now);
        trial.price = price;
    }

    private void tryPence(int pence) {
        trial.become(now);
        trial.pence = pence;
    }

    private static int oneNearer(int price, int q) {
        if (price == q) {
            return q;
        }
        return price < q ? price + 1 : price - 1;
    }

    /** PENCE behind n WEEKS in which MISHAPS are more by the digits of luck to the base 3. */
    private int penceByLuck(int luck, int n) {
        trial.become(now);
        int rest = luck;
        for (int w = 0; w < n; w++) {
            trial.live(trial.mishaps + rest % 3);
            rest /= 3;
        }
        return trial.pence;
    }

    /**
     * Of lo .. hi PENCE in the jar now: how many give the row (what 0), the most that do (1; NONE).
     * Lo and hi are on one side of NEEDS, so that from each of them the same is paid in the first
     * WEEK: but one can end it at a given number below the jar's limit, and all that reach the
     * limit go on alike.
     */
    private int starts(Row row, int i, int n, int lo, int hi, int what) {
        int none = what == 0 ? 0 : NONE;
        if (lo > hi) {
            return none;
        }
        tryPence(hi);
        int paid = trial.paysOfAll();
        long first = row.items[i];
        long least = first - paid;
        long most = least;
        if (first == MOST_PENCE) {
            least = Math.max(lo, MOST_PENCE - paid);
            most = hi;
        }
        if (least > most || least < lo || most > hi || !gives(row, i, n, (int) most)) {
            return none;
        }
        return what == 0 ? (int) (most - least) + 1 : (int) most;
    }

    private boolean gives(Row row, int i, int n, int pence) {
        tryPence(pence);
        for (int w = 0; w < n; w++) {
            trial.live(trial.mishaps);
            if (row.items[i + w] != trial.pence) {
                return false;
            }
        }
        return true;
    }

    // ---- people by kinds; they never change, so that a house and its image may share them

    private static class Plain {
        final int temper;

        Plain(int temper) {
            this.temper = temper;
        }

        int kind() {
            return PLAIN;
        }

        boolean isChild() {
            return false;
        }

        int words(int mishaps, int habit, int price, int week) {
            int words = mishaps * temper * habit / (price + 20);
            return words < MOST_WORDS ? words : MOST_WORDS;
        }

        int pays(int words, int price) {
            return words * price;
        }

        int habitThen(int habit, int paid) {
            if (paid < 100) {
                return Math.min(MOST_HABIT, habit + 1);
            }
            return Math.max(0, habit - Math.min(9, paid / 100));
        }
    }

    private static final class Buyer extends Plain {
        Buyer(int temper) {
            super(temper);
        }

        @Override
        int kind() {
            return BUYER;
        }

        @Override
        int words(int mishaps, int habit, int price, int week) {
            return Math.min(MOST_WORDS, 2 * super.words(mishaps, habit, price, week));
        }

        @Override
        int pays(int words, int price) {
            return 10 * price;
        }

        @Override
        int habitThen(int habit, int paid) {
            return Math.min(MOST_HABIT, habit + 1);
        }
    }

    private static final class Guest extends Plain {
        Guest(int temper) {
            super(temper);
        }

        @Override
        int kind() {
            return GUEST;
        }

        @Override
        int pays(int words, int price) {
            return 2 * super.pays(words, price);
        }
    }

    private static class Hushed extends Plain {
        Hushed(int temper) {
            super(temper);
        }

        @Override
        int kind() {
            return HUSHED;
        }

        @Override
        int pays(int words, int price) {
            return super.pays(words, price) / 2;
        }
    }

    private static final class Saint extends Hushed {
        Saint(int temper) {
            super(temper);
        }

        @Override
        int kind() {
            return SAINT;
        }

        @Override
        int words(int mishaps, int habit, int price, int week) {
            return week % 20 == 0 ? 50 : 0;
        }
    }

    private static final class Child extends Plain {
        Child(int temper) {
            super(temper);
        }

        @Override
        int kind() {
            return CHILD;
        }

        @Override
        boolean isChild() {
            return true;
        }

        @Override
        int words(int mishaps, int habit, int price, int week) {
            return 0;
        }
    }

    // ---- the jar and those who pay into it

    private static final class House {
        final Plain[] people = new Plain[MOST_PEOPLE];
        final int[] habits = new int[MOST_PEOPLE];
        int size = 0;
        /** Sets: who hopes, of whatever kind; who is a child. */
        int hopes = 0;
        int children = 0;
        int pence = 0;
        int needs = 4000;
        int price = 20;
        int mishaps = 3;
        int week = 0;
        int draw = 1;

        void become(House other) {
            for (int k = 0; k < MOST_PEOPLE; k++) {
                people[k] = other.people[k];
                habits[k] = other.habits[k];
            }
            size = other.size;
            hopes = other.hopes;
            children = other.children;
            pence = other.pence;
            needs = other.needs;
            price = other.price;
            mishaps = other.mishaps;
            week = other.week;
            draw = other.draw;
        }

        /** Nobody, no PENCE, WEEK 0. */
        void moveOut() {
            size = 0;
            hopes = 0;
            children = 0;
            pence = 0;
            week = 0;
        }

        void add(Plain who, int habit, boolean hoping) {
            if (size >= MOST_PEOPLE) {
                return;
            }
            people[size] = who;
            habits[size] = habit;
            int bit = 1 << size;
            hopes = hoping ? hopes | bit : hopes & ~bit;
            children = who.isChild() ? children | bit : children & ~bit;
            size++;
        }

        int withHopes(int m) {
            return pence < needs ? m + Integer.bitCount(hopes & children) : m;
        }

        int wordsOf(int k) {
            return people[k].words(withHopes(mishaps), habits[k], price, week);
        }

        int paysOf(int k) {
            return people[k].pays(wordsOf(k), price);
        }

        int habitThenOf(int k) {
            return people[k].habitThen(habits[k], paysOf(k));
        }

        int wordsOfAll() {
            int said = 0;
            for (int k = 0; k < size; k++) {
                said += wordsOf(k);
            }
            return said;
        }

        int paysOfAll() {
            int paid = 0;
            for (int k = 0; k < size; k++) {
                paid += paysOf(k);
            }
            return paid;
        }

        /** A WEEK of m MISHAPS, HOPES not counted yet: WORDS of all in it. */
        int live(int m) {
            int all = withHopes(m);
            int said = 0;
            int paid = 0;
            for (int k = 0; k < size; k++) {
                Plain who = people[k];
                int words = who.words(all, habits[k], price, week);
                int pays = who.pays(words, price);
                habits[k] = who.habitThen(habits[k], pays);
                said += words;
                paid += pays;
            }
            pence = Math.min(MOST_PENCE, pence + paid);
            week++;
            return said;
        }

        /** N WEEKS: WORDS of all in these. */
        int liveOn(int n) {
            int said = 0;
            for (int w = 0; w < n; w++) {
                said += live(mishaps);
            }
            return said;
        }

        /** N WEEKS: WORDS of all in the last of these. */
        int wordsInLast(int n) {
            int said = 0;
            for (int w = 0; w < n; w++) {
                said = live(mishaps);
            }
            return said;
        }

        int drawMishaps() {
            draw = draw * 1103515245 + 12345 & LOWEST_31_BITS;
            return draw / 65536 % 10;
        }
    }

    // ---- what may be undone: the latest few, the oldest being lost for a new one

    private static final class Past {
        final int[] pence = new int[KNOWN_PAST];
        final int[] weekOf = new int[KNOWN_PAST];
        final int[] draws = new int[KNOWN_PAST];
        final int[] habits = new int[KNOWN_PAST * MOST_PEOPLE];
        int known = 0;
        /** The slot for the next one, 0 .. KNOWN_PAST - 1; the latest is in the one ahead of it. */
        int next = 0;

        void become(Past other) {
            System.arraycopy(other.pence, 0, pence, 0, KNOWN_PAST);
            System.arraycopy(other.weekOf, 0, weekOf, 0, KNOWN_PAST);
            System.arraycopy(other.draws, 0, draws, 0, KNOWN_PAST);
            System.arraycopy(other.habits, 0, habits, 0, KNOWN_PAST * MOST_PEOPLE);
            known = other.known;
            next = other.next;
        }

        void forget() {
            known = 0;
        }

        void remember(House house) {
            pence[next] = house.pence;
            weekOf[next] = house.week;
            draws[next] = house.draw;
            System.arraycopy(house.habits, 0, habits, next * MOST_PEOPLE, MOST_PEOPLE);
            next = (next + 1) % KNOWN_PAST;
            known = Math.min(KNOWN_PAST, known + 1);
        }

        void bringBack(House house) {
            if (known == 0) {
                return;
            }
            next = (next + KNOWN_PAST - 1) % KNOWN_PAST;
            known--;
            house.pence = pence[next];
            house.week = weekOf[next];
            house.draw = draws[next];
            System.arraycopy(habits, next * MOST_PEOPLE, house.habits, 0, MOST_PEOPLE);
        }
    }

    // ---- a house as a text

    private static final class Tape {
        static final int NO_FAULT = -1;
        static final char END = 0;

        final char[] letters = new char[TAPE_LENGTH];
        int length = 0;
        private int place = 0;
        private int fault = NO_FAULT;

        /** What is read comes to a house where nobody is: the place of the first fault, or NO_FAULT. */
        int readInto(House house) {
            place = 0;
            fault = NO_FAULT;
            house.needs = number(MOST_PENCE);
            expect(',');
            house.price = number(MOST_PRICE);
            expect(',');
            house.mishaps = digit(0);
            expect(';');
            boolean more = true;
            for (int k = 1; more && k <= MOST_PEOPLE; k++) {
                readPerson(house);
                more = k < MOST_PEOPLE && accept(',');
            }
            if (look() != END) {
                failAt(place);
            }
            return fault;
        }

        private void readPerson(House house) {
            int kind = "pbghsc".indexOf(look());
            if (kind < 0) {
                failAt(place);
                return;
            }
            place++;
            int temper = digit(1);
            int tens = digit(0);
            int habit = tens * 10 + digit(0);
            boolean hoping = !accept('x');
            if (fault == NO_FAULT) {
                house.add(newPerson(kind, temper), habit, hoping);
            }
        }

        /** A number 1 .. most: one of four digits at most, so that a fifth is no part of it. */
        private int number(int most) {
            look();
            int first = place;
            int v = 0;
            while (place < length && place < first + NUMBER_DIGITS && isDigit(letters[place], 0)) {
                v = v * 10 + letters[place] - '0';
                place++;
            }
            if (!within(v, 1, most)) {
                failAt(first);
            }
            return v;
        }

        private int digit(int least) {
            char letter = look();
            if (!isDigit(letter, least)) {
                failAt(place);
                return least;
            }
            place++;
            return letter - '0';
        }

        private static boolean isDigit(char letter, int least) {
            return within(letter - '0', least, 9);
        }

        private void expect(char letter) {
            if (!accept(letter)) {
                failAt(place);
            }
        }

        private boolean accept(char letter) {
            if (look() != letter) {
                return false;
            }
            place++;
            return true;
        }

        /** The letter behind blanks, where place is then; END. */
        private char look() {
            while (place < length && letters[place] == ' ') {
                place++;
            }
            return place < length ? letters[place] : END;
        }

        /** Only the first fault counts, so that what is behind it may be read on as it comes. */
        private void failAt(int where) {
            if (fault == NO_FAULT) {
                fault = where;
            }
        }
    }

    // ---- what a sheet holds; the room for its items is made once and used again

    private static final class Row {
        final long[] items = new long[MOST_ITEMS];
        boolean held = false;
        int lane = 0;
        int size = 0;

        void begin(int newLane, int n) {
            held = true;
            lane = newLane;
            size = n;
            for (int k = 0; k < MOST_ITEMS; k++) {
                items[k] = 0;
            }
        }

        /** What the machine would find of n items from i on, taken as of a lane; 0: nothing. */
        int refuses(int asLane, int i, int n) {
            if (!held) {
                return NULL;
            }
            if (lane != asLane) {
                return CAST;
            }
            return lacks(i, n) ? INDEX : 0;
        }

        boolean lacks(int i, int n) {
            return i < 0 || n < 0 || i > size || n > size - i;
        }

        void put(int i, long v) {
            if (lacks(i, 1)) {
                return;
            }
            switch (lane) {
                case 0: items[i] = (byte) v; break;
                case 1: items[i] = (short) v; break;
                case 2: items[i] = (int) v; break;
                default: items[i] = v; break;
            }
        }
    }
}
