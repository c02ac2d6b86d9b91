/** Sixty volumes: what a dealer brings, what readers say of it, and who could have known. */
public final class SafeVolumes {
    public static final int NONE = -1;

    private static final int LAST_WEEK = 519;
    private static final int LAST_DAY = 9999;
    private static final int LAST_PLACE = 99;
    /** A DAY of a PIECE or of a SOURCE is kept under one number: the owner's times DAYS, and the DAY. */
    private static final int DAYS = 10000;
    private static final int SOURCES = 6;
    private static final int NOT_ANY = -2;
    private static final int NO_TELLS = -2000;
    private static final int NO_CLAUSE_HOLDS = 500;

    private static final int MOST_STUFFS = 10;
    private static final int MOST_TRUTH = 200;
    private static final int MOST_FACTS = 300;
    private static final int MOST_PIECES = 90;
    private static final int MOST_PAGES = 400;
    private static final int MOST_LOOKS = 200;
    private static final int MOST_TESTS = 200;
    private static final int MOST_PEOPLE = 8;
    private static final int MOST_READERS = 8;
    private static final int MOST_MAKERS = 6;
    private static final int MOST_IMAGES = 4;
    private static final int MOST_BYTES = 400;
    private static final int MOST_CLAUSES = 12;
    private static final int MOST_ITEMS = 60;
    private static final int MOST_DEPTH = 10;
    private static final int MOST_DIGITS = 5;
    private static final int MOST_MADE = 60;
    private static final int MOST_IN_ROW = 6;

    private static final int VOLUME = 0;
    private static final int TRUE_ONE = 1;

    // columns of the STUFFS
    private static final int YEAR = 0;
    private static final int PRICE_OF_TEST = 1;
    // columns of the PIECES
    private static final int SORT = 0;
    private static final int HAND = 1;
    private static final int HAND_NUMBERS = 5;
    private static final int STUFFS_IN = 6;
    private static final int PRICE = 7;
    private static final int CAME = 8;
    private static final int KEPT_TILL = 9;
    // columns of the LOOKS
    private static final int LOOKED_AT = 0;
    private static final int LAID_BESIDE = 1;
    private static final int SAID_IN = 2;
    private static final int SAID_YES = 3;
    // columns of the TESTS
    private static final int TESTED = 0;
    private static final int TESTED_STUFF = 1;
    private static final int TESTED_IN = 2;
    // columns of the PEOPLE
    private static final int KNEW_FROM = 0;
    private static final int KNEW_TO = 1;
    private static final int GAINS = 2;
    private static final int GAINS_FROM = 3;
    private static final int ASKED_IN = 4;

    /** Every word of the two languages, each with a blank behind it; a word's number is its place here. */
    private static final String WORDS =
            "apart own late wrong shared nowhere pages price week volumes yes takes coins pace slips from of if or and not ";
    private static final int APART = 0;
    private static final int OWN = 1;
    private static final int LATE = 2;
    private static final int WRONG = 3;
    private static final int SHARED = 4;
    private static final int NOWHERE = 5;
    private static final int PAGES = 6;
    private static final int PRICE_WORD = 7;
    private static final int WEEK = 8;
    private static final int VOLUMES = 9;
    private static final int VALUE_WORDS = 10;
    private static final int YES = 10;
    private static final int TAKES = 11;
    private static final int COINS = 12;
    private static final int PACE = 13;
    private static final int SLIPS = 14;
    private static final int FROM = 15;
    private static final int OF = 16;
    private static final int IF = 17;
    private static final int OR = 18;
    private static final int AND = 19;
    private static final int NOT = 20;
    // tokens that are no words
    private static final int NUMBER = 21;
    private static final int LESS = 22;
    private static final int LESS_OR_EQUAL = 23;
    private static final int EQUAL = 24;
    private static final int GREATER_OR_EQUAL = 25;
    private static final int GREATER = 26;
    private static final int PLUS = 27;
    private static final int MINUS = 28;
    private static final int TIMES = 29;
    private static final int OPENING = 30;
    private static final int CLOSING = 31;
    private static final int SEMICOLON = 32;
    private static final int THE_END = 33;
    private static final int OTHER = 34;

    private static final int CANNOT_STAND = 0;
    private static final int BAD_NUMBER = 1;
    private static final int TOO_DEEP = 2;
    private static final int ONE_TOO_MANY = 3;
    private static final int CLAUSE_TOO_MANY = 4;

    private final World world = new World();
    private final World[] images = new World[MOST_IMAGES];
    private final Tape tape = new Tape();
    private final Parser parser = new Parser();
    private final Reader[] readers = new Reader[MOST_READERS];
    private int readersTold = 0;
    private final Maker[] makers = new Maker[MOST_MAKERS];
    private int makersTold = 0;
    private final int[] words = new int[VALUE_WORDS];
    private final ReaderRow row = new ReaderRow();

    public SafeVolumes() {
        for (int i = 0; i < readers.length; i++) {
            readers[i] = new Reader();
        }
        for (int i = 0; i < makers.length; i++) {
            makers[i] = new Maker();
        }
    }

    // ---- what is told

    public boolean clock(int week) {
        if (!isFrom(week, world.now, LAST_WEEK)) {
            return false;
        }
        world.now = week;
        return true;
    }

    public int stuff(int year, int coins) {
        if (!isFrom(year, 1800, 1999) || !isFrom(coins, 1, 99)) {
            return NONE;
        }
        int number = world.stuffs.addRow();
        world.stuffs.put(number, YEAR, year);
        world.stuffs.put(number, PRICE_OF_TEST, coins);
        return number;
    }

    public int truth(int day, int place) {
        if (!isFrom(day, 0, LAST_DAY) || !isFrom(place, 0, LAST_PLACE)) {
            return NONE;
        }
        return world.truth.insert(day, place);
    }

    public int fact(int source, int day, int place) {
        if (!isFrom(source, 0, SOURCES - 1) || !isFrom(day, 0, LAST_DAY) || !isFrom(place, 0, LAST_PLACE)) {
            return NONE;
        }
        return world.facts.insert(source * DAYS + day, place);
    }

    public int piece(int sort, int a, int b, int c, int d, int e, int stuffs, int price) {
        if (!isFrom(sort, 0, 2) || !isFrom(price, 0, 9999) || !isHand(a, b, c, d, e)) {
            return NONE;
        }
        if (!isFrom(stuffs, 0, (1 << world.stuffs.size()) - 1)) {
            return NONE;
        }
        Rows pieces = world.pieces;
        int number = pieces.addRow();
        pieces.put(number, SORT, sort);
        pieces.put(number, HAND, a);
        pieces.put(number, HAND + 1, b);
        pieces.put(number, HAND + 2, c);
        pieces.put(number, HAND + 3, d);
        pieces.put(number, HAND + 4, e);
        pieces.put(number, STUFFS_IN, stuffs);
        pieces.put(number, PRICE, price);
        pieces.put(number, CAME, world.now);
        return number;
    }

    public int page(int piece, int day, int place) {
        if (!world.pieces.has(piece) || !isFrom(day, 0, LAST_DAY) || !isFrom(place, 0, LAST_PLACE)) {
            return NONE;
        }
        return world.pages.insert(piece * DAYS + day, place);
    }

    public int of(int piece, int what) {
        if (!world.pieces.has(piece)) {
            return NONE;
        }
        switch (what) {
            case 0:
                return world.pagesOf(piece);
            case 1:
                return world.wrongPages(piece);
            case 2:
                return world.sharedPages(piece);
            case 3:
                return world.nowherePages(piece);
            case 4:
                return world.ageOf(piece);
            case 5:
                return world.pieces.at(piece, CAME);
            case 6:
                return world.pieces.at(piece, STUFFS_IN);
            case 7:
                return world.tooYoung(piece);
            default:
                return NONE;
        }
    }

    public int shared(int piece, int source) {
        if (!world.pieces.has(piece) || !isFrom(source, 0, SOURCES - 1)) {
            return NONE;
        }
        return world.pagesSharedWith(piece, source);
    }

    // ---- texts

    public int feed(int a, int b, int c, int d, int e) {
        if (tape.size() + 20 > MOST_BYTES) {
            return NONE;
        }
        tape.addFour(a);
        tape.addFour(b);
        tape.addFour(c);
        tape.addFour(d);
        tape.addFour(e);
        return tape.size();
    }

    public int end(int n) {
        if (!isFrom(n, 0, tape.size())) {
            return NONE;
        }
        tape.cut(n);
        return n;
    }

    public int reader() {
        if (!isFrom(readersTold, 0, readers.length - 1)) {
            return NONE;
        }
        int fault = parser.parse(tape, readers[readersTold], null);
        tape.cut(0);
        if (fault != 0) {
            return -2 - fault;
        }
        readersTold++;
        return readersTold - 1;
    }

    public int maker() {
        if (!isFrom(makersTold, 0, makers.length - 1)) {
            return NONE;
        }
        int fault = parser.parse(tape, null, makers[makersTold]);
        tape.cut(0);
        if (fault != 0) {
            return -2 - fault;
        }
        makersTold++;
        return makersTold - 1;
    }

    public int chance(int reader, int piece, int beside) {
        Reader asked = readerAt(reader);
        if (asked == null || !world.areUnlike(piece, beside)) {
            return NONE;
        }
        return chanceOf(asked, piece, beside);
    }

    public int tells(int reader, int piece, int other, int beside) {
        Reader asked = readerAt(reader);
        if (asked == null || !world.areUnlike(piece, other)) {
            return NO_TELLS;
        }
        if (!world.areUnlike(piece, beside) || !world.areUnlike(other, beside)) {
            return NO_TELLS;
        }
        return chanceOf(asked, piece, beside) - chanceOf(asked, other, beside);
    }

    // ---- looks and tests

    public int look(int reader, int piece, int beside, int seed) {
        Reader asked = readerAt(reader);
        if (asked == null || !world.areUnlike(piece, beside) || seed < 0) {
            return NONE;
        }
        if (world.looks.isFull() || world.isKeptClose(piece)) {
            return NONE;
        }
        int yes = perMille(drawn(seed)) < chanceOf(asked, piece, beside) ? 1 : 0;
        int number = world.looks.addRow();
        world.looks.put(number, LOOKED_AT, piece);
        world.looks.put(number, LAID_BESIDE, beside);
        world.looks.put(number, SAID_IN, Math.min(world.now + asked.takes, LAST_WEEK));
        world.looks.put(number, SAID_YES, yes);
        return yes;
    }

    public int test(int piece, int stuff) {
        if (!world.pieces.has(piece) || !isFrom(stuff, 0, MOST_STUFFS - 1)) {
            return NONE;
        }
        if (world.tests.isFull() || world.isKeptClose(piece)) {
            return NONE;
        }
        if (!hasBit(world.pieces.at(piece, STUFFS_IN), stuff)) {
            return NONE;
        }
        int number = world.tests.addRow();
        world.tests.put(number, TESTED, piece);
        world.tests.put(number, TESTED_STUFF, stuff);
        world.tests.put(number, TESTED_IN, world.now);
        return hasBit(world.tooYoung(piece), stuff) ? 1 : 0;
    }

    public int keep(int piece, int till) {
        if (!world.pieces.has(piece) || !isFrom(till, 0, LAST_WEEK)) {
            return NONE;
        }
        int before = world.pieces.at(piece, KEPT_TILL);
        world.pieces.put(piece, KEPT_TILL, till);
        return before;
    }

    public int stand(int piece, int week) {
        if (!world.pieces.has(piece) || !isFrom(week, 0, LAST_WEEK)) {
            return NONE;
        }
        return world.standUpTo(piece, week);
    }

    public int cost(int piece) {
        return world.pieces.has(piece) ? world.costOfKeeping(piece) : NONE;
    }

    public int cheapest(int piece) {
        return world.pieces.has(piece) ? world.cheapestTooYoung(piece) : NONE;
    }

    // ---- whose it may be

    public int likely(int piece) {
        return world.pieces.has(piece) ? world.likeliestSource(piece) : NONE;
    }

    public int kin(int a, int b) {
        if (!world.areUnlike(a, b)) {
            return NONE;
        }
        return Integer.bitCount(world.sourcesOf(a) & world.sourcesOf(b));
    }

    public int could(int piece) {
        if (!world.pieces.has(piece)) {
            return NONE;
        }
        int bits = 0;
        for (int i = 0; i < makersTold && i < makers.length; i++) {
            Maker one = makers[i];
            if (one != null && one.canMake(world, piece)) {
                bits |= 1 << i;
            }
        }
        return bits;
    }

    public int outrun(int maker, int from) {
        Maker one = makerAt(maker);
        if (one == null || !isFrom(from, 0, world.now)) {
            return NONE;
        }
        return world.weekTooFast(one.pace, from);
    }

    public int grows() {
        return world.growth();
    }

    public int make(int maker, int piece, int day, int n, int seed) {
        Maker one = makerAt(maker);
        if (one == null || !world.pieces.has(piece) || seed < 0) {
            return NONE;
        }
        if (!isFrom(day, 0, LAST_DAY) || !isFrom(n, 1, MOST_MADE)) {
            return NONE;
        }
        if (!isFrom(one.stuffs, 0, (1 << world.stuffs.size()) - 1)) {
            return NONE;
        }
        int more = one.writePages(world, piece, day, n, seed, false);
        if (world.pages.size() + more > MOST_PAGES) {
            return NONE;
        }
        one.writePages(world, piece, day, n, seed, true);
        world.pieces.put(piece, STUFFS_IN, world.pieces.at(piece, STUFFS_IN) | one.stuffs);
        return more;
    }

    // ---- rows of readers

    public long soonest(int set, int piece, int beside, int what) {
        if (!isFrom(set, 1, (1 << readersTold) - 1) || Integer.bitCount(set) > MOST_IN_ROW) {
            return NONE;
        }
        if (!world.areUnlike(piece, beside) || !isFrom(what, 0, MOST_IN_ROW)) {
            return NONE;
        }
        fillRow(set, piece, beside);
        row.findLeastWaits();
        return what == MOST_IN_ROW ? row.leastWait() : row.readerInPlace(what);
    }

    public int surest(int coins, int piece, int beside) {
        if (!isFrom(coins, 0, 9999) || !world.areUnlike(piece, beside)) {
            return NONE;
        }
        int all = Math.min(readersTold, MOST_IN_ROW);
        fillRow((1 << all) - 1, piece, beside);
        return row.surestFor(coins);
    }

    // ---- people

    public int person(int from, int to, int coins, int week) {
        if (!isFrom(from, 0, LAST_DAY) || !isFrom(to, from, LAST_DAY)) {
            return NONE;
        }
        if (!isFrom(coins, 0, 999) || !isFrom(week, 0, LAST_WEEK)) {
            return NONE;
        }
        int number = world.people.addRow();
        world.people.put(number, KNEW_FROM, from);
        world.people.put(number, KNEW_TO, to);
        world.people.put(number, GAINS, coins);
        world.people.put(number, GAINS_FROM, week);
        world.people.put(number, ASKED_IN, NONE);
        return number;
    }

    public boolean ask(int person) {
        if (!world.people.has(person) || world.people.at(person, ASKED_IN) != NONE) {
            return false;
        }
        world.people.put(person, ASKED_IN, world.now);
        return true;
    }

    public int unasked(int piece, int week) {
        if (!world.pieces.has(piece) || !isFrom(week, 0, LAST_WEEK)) {
            return NONE;
        }
        return world.unaskedUpTo(piece, week);
    }

    public int gain(int person, int week) {
        if (!world.people.has(person) || !isFrom(week, 0, LAST_WEEK)) {
            return NONE;
        }
        return world.gainUpTo(person, week);
    }

    public int count(int what) {
        switch (what) {
            case 0:
                return world.now;
            case 1:
                return world.stuffs.size();
            case 2:
                return world.truth.size();
            case 3:
                return world.facts.size();
            case 4:
                return world.pieces.size();
            case 5:
                return world.pages.size();
            case 6:
                return readersTold;
            case 7:
                return makersTold;
            case 8:
                return world.looks.size();
            case 9:
                return world.tests.size();
            case 10:
                return world.people.size();
            case 11:
                return tape.size();
            default:
                return NONE;
        }
    }

    // ---- images

    public int image(int k) {
        if (!isFrom(k, 0, images.length - 1)) {
            return NONE;
        }
        if (images[k] == null) {
            images[k] = new World();
        }
        images[k].copyFrom(world);
        return world.now;
    }

    public int back(int k) {
        if (!isFrom(k, 0, images.length - 1) || images[k] == null) {
            return NONE;
        }
        world.copyFrom(images[k]);
        return world.now;
    }

    // ---- helpers of the face

    private static boolean isFrom(int number, int least, int most) {
        return number >= least && number <= most;
    }

    private static boolean hasBit(int bits, int number) {
        return (bits >> number & 1) != 0;
    }

    private static boolean isHand(int a, int b, int c, int d, int e) {
        return isFrom(a, 0, 99) && isFrom(b, 0, 99) && isFrom(c, 0, 99) && isFrom(d, 0, 99) && isFrom(e, 0, 99);
    }

    private static int drawn(int x) {
        return (int) ((x * 1103515245L + 12345L) & 0x7fffffffL);
    }

    private static int perMille(int x) {
        return (x >> 16) % 1000;
    }

    private Reader readerAt(int number) {
        return isFrom(number, 0, Math.min(readersTold, readers.length) - 1) ? readers[number] : null;
    }

    private Maker makerAt(int number) {
        return isFrom(number, 0, Math.min(makersTold, makers.length) - 1) ? makers[number] : null;
    }

    private int chanceOf(Reader asked, int piece, int beside) {
        world.fillWords(words, piece, beside);
        return asked.chanceBy(words);
    }

    private void fillRow(int set, int piece, int beside) {
        world.fillWords(words, piece, beside);
        row.clear();
        for (int i = 0; i < readersTold && i < readers.length; i++) {
            Reader one = readers[i];
            if (hasBit(set, i) && one != null) {
                row.add(i, one.chanceBy(words), one.takes, one.coins);
            }
        }
    }

    // ---- tables

    /** Rows of numbers, as many columns in each. */
    private static final class Rows {
        private final int[] cells;
        private final int width;
        private final int limit;
        private int size = 0;

        Rows(int limit, int width) {
            this.limit = Math.max(limit, 0);
            this.width = Math.max(width, 0);
            this.cells = new int[Math.max(this.limit * this.width, 0)];
        }

        int size() {
            return size;
        }

        boolean isFull() {
            return size >= limit;
        }

        boolean has(int number) {
            return number >= 0 && number < size;
        }

        /** A new row of zeros: its number; NONE when there is no room. */
        int addRow() {
            if (isFull()) {
                return NONE;
            }
            size++;
            for (int i = 0; i < width; i++) {
                put(size - 1, i, 0);
            }
            return size - 1;
        }

        int at(int number, int column) {
            int i = cellOf(number, column);
            return i >= 0 && i < cells.length ? cells[i] : NONE;
        }

        void put(int number, int column, int value) {
            int i = cellOf(number, column);
            if (i >= 0 && i < cells.length) {
                cells[i] = value;
            }
        }

        private int cellOf(int number, int column) {
            return has(number) && column >= 0 && column < width ? number * width + column : NONE;
        }

        void copyFrom(Rows other) {
            int filled = other.size * other.width;
            if (filled <= cells.length && filled <= other.cells.length && width == other.width) {
                System.arraycopy(other.cells, 0, cells, 0, filled);
                size = other.size;
            }
        }
    }

    /** PLACES by numbers (a DAY with its owner), kept in the order of these numbers. */
    private static final class Places {
        private final int[] keys;
        private final int[] places;
        private int size = 0;

        Places(int limit) {
            keys = new int[Math.max(limit, 0)];
            places = new int[Math.max(limit, 0)];
        }

        int size() {
            return size;
        }

        int keyAt(int i) {
            return i >= 0 && i < size && i < keys.length ? keys[i] : NONE;
        }

        int placeAt(int i) {
            return i >= 0 && i < size && i < places.length ? places[i] : NONE;
        }

        /** Where the first key that is not below this one stands. */
        int firstFrom(int key) {
            int low = 0;
            int high = Math.min(size, keys.length);
            while (low < high) {
                int middle = (low + high) / 2;
                if (keys[middle] < key) {
                    low = middle + 1;
                } else {
                    high = middle;
                }
            }
            return low;
        }

        boolean hasKey(int key) {
            return keyAt(firstFrom(key)) == key;
        }

        int placeOf(int key) {
            int i = firstFrom(key);
            return keyAt(i) == key ? placeAt(i) : NONE;
        }

        /** How many there are then; NONE when there is no room, or the key is here. */
        int insert(int key, int place) {
            int i = firstFrom(key);
            if (size >= keys.length || size >= places.length || i < 0 || i > size || keyAt(i) == key) {
                return NONE;
            }
            System.arraycopy(keys, i, keys, i + 1, size - i);
            System.arraycopy(places, i, places, i + 1, size - i);
            keys[i] = key;
            places[i] = place;
            size++;
            return size;
        }

        void copyFrom(Places other) {
            if (other.size <= keys.length && other.size <= places.length && keys.length == other.keys.length) {
                System.arraycopy(other.keys, 0, keys, 0, other.size);
                System.arraycopy(other.places, 0, places, 0, other.size);
                size = other.size;
            }
        }
    }

    /** All that an IMAGE holds, and what can be found in it. */
    private static final class World {
        private int now = 0;
        private final Rows stuffs = new Rows(MOST_STUFFS, 2);
        private final Places truth = new Places(MOST_TRUTH);
        private final Places facts = new Places(MOST_FACTS);
        private final Rows pieces = new Rows(MOST_PIECES, 10);
        private final Places pages = new Places(MOST_PAGES);
        private final Rows looks = new Rows(MOST_LOOKS, 4);
        private final Rows tests = new Rows(MOST_TESTS, 3);
        private final Rows people = new Rows(MOST_PEOPLE, 5);

        void copyFrom(World other) {
            now = other.now;
            stuffs.copyFrom(other.stuffs);
            truth.copyFrom(other.truth);
            facts.copyFrom(other.facts);
            pieces.copyFrom(other.pieces);
            pages.copyFrom(other.pages);
            looks.copyFrom(other.looks);
            tests.copyFrom(other.tests);
            people.copyFrom(other.people);
        }

        boolean areUnlike(int piece, int other) {
            return pieces.has(piece) && pieces.has(other) && piece != other;
        }

        boolean isKeptClose(int piece) {
            return now < pieces.at(piece, KEPT_TILL);
        }

        private boolean isVolume(int piece) {
            return pieces.at(piece, SORT) == VOLUME;
        }

        int volumes() {
            int found = 0;
            for (int i = 0; i < pieces.size(); i++) {
                if (isVolume(i)) {
                    found++;
                }
            }
            return found;
        }

        // The PAGES of a PIECE stand side by side: from firstPage to ahead of pagesEnd.

        int firstPage(int piece) {
            return pages.firstFrom(piece * DAYS);
        }

        int pagesEnd(int piece) {
            return pages.firstFrom((piece + 1) * DAYS);
        }

        int dayOfPage(int i) {
            return pages.keyAt(i) % DAYS;
        }

        int pagesOf(int piece) {
            return pagesEnd(piece) - firstPage(piece);
        }

        private boolean isWrong(int i) {
            int was = truth.placeOf(dayOfPage(i));
            return was != NONE && was != pages.placeAt(i);
        }

        /** The SOURCES with which a PAGE is SHARED, as bits. */
        private int sourcesOfPage(int i) {
            int day = dayOfPage(i);
            int place = pages.placeAt(i);
            int was = truth.placeOf(day);
            if (was == NONE || was == place) {
                return 0;
            }
            int bits = 0;
            for (int source = 0; source < SOURCES; source++) {
                if (facts.placeOf(source * DAYS + day) == place) {
                    bits |= 1 << source;
                }
            }
            return bits;
        }

        private boolean isNowhere(int i) {
            int day = dayOfPage(i);
            boolean known = truth.hasKey(day);
            for (int source = 0; source < SOURCES; source++) {
                known = known || facts.hasKey(source * DAYS + day);
            }
            return !known;
        }

        int wrongPages(int piece) {
            int found = 0;
            int end = pagesEnd(piece);
            for (int i = firstPage(piece); i < end; i++) {
                if (isWrong(i)) {
                    found++;
                }
            }
            return found;
        }

        int sharedPages(int piece) {
            int found = 0;
            int end = pagesEnd(piece);
            for (int i = firstPage(piece); i < end; i++) {
                if (sourcesOfPage(i) != 0) {
                    found++;
                }
            }
            return found;
        }

        int pagesSharedWith(int piece, int source) {
            int found = 0;
            int end = pagesEnd(piece);
            for (int i = firstPage(piece); i < end; i++) {
                if (hasBit(sourcesOfPage(i), source)) {
                    found++;
                }
            }
            return found;
        }

        int nowherePages(int piece) {
            int found = 0;
            int end = pagesEnd(piece);
            for (int i = firstPage(piece); i < end; i++) {
                if (isNowhere(i)) {
                    found++;
                }
            }
            return found;
        }

        int ageOf(int piece) {
            int end = pagesEnd(piece);
            return end > firstPage(piece) ? 1900 + dayOfPage(end - 1) / 365 : 1900;
        }

        int tooYoung(int piece) {
            int inIt = pieces.at(piece, STUFFS_IN);
            int age = ageOf(piece);
            int bits = 0;
            for (int i = 0; i < stuffs.size(); i++) {
                if (hasBit(inIt, i) && stuffs.at(i, YEAR) > age) {
                    bits |= 1 << i;
                }
            }
            return bits;
        }

        private int apart(int piece, int beside) {
            int sum = 0;
            for (int i = HAND; i < HAND + HAND_NUMBERS; i++) {
                sum += Math.abs(pieces.at(piece, i) - pieces.at(beside, i));
            }
            return sum;
        }

        private int late(int piece) {
            int inIt = pieces.at(piece, STUFFS_IN);
            int age = ageOf(piece);
            int most = 0;
            for (int i = 0; i < stuffs.size(); i++) {
                if (hasBit(inIt, i)) {
                    most = Math.max(most, stuffs.at(i, YEAR) - age);
                }
            }
            return most;
        }

        /** What each VALUE word is of a PIECE that lies beside another one. */
        void fillWords(int[] values, int piece, int beside) {
            if (values.length < VALUE_WORDS) {
                return;
            }
            values[APART] = apart(piece, beside);
            values[OWN] = pieces.at(beside, SORT) == TRUE_ONE ? 0 : 1;
            values[LATE] = late(piece);
            values[WRONG] = wrongPages(piece);
            values[SHARED] = sharedPages(piece);
            values[NOWHERE] = nowherePages(piece);
            values[PAGES] = pagesOf(piece);
            values[PRICE_WORD] = pieces.at(piece, PRICE);
            values[WEEK] = now;
            values[VOLUMES] = volumes();
        }

        int standUpTo(int piece, int week) {
            int young = tooYoung(piece);
            for (int i = 0; i < tests.size(); i++) {
                boolean done = tests.at(i, TESTED) == piece && tests.at(i, TESTED_IN) <= week;
                if (done && hasBit(young, tests.at(i, TESTED_STUFF))) {
                    return 3;
                }
            }
            int worst = 0;
            for (int i = 0; i < looks.size(); i++) {
                boolean said = looks.at(i, LOOKED_AT) == piece && looks.at(i, SAID_IN) <= week;
                if (said && looks.at(i, SAID_YES) == 0) {
                    boolean besideTrue = pieces.at(looks.at(i, LAID_BESIDE), SORT) == TRUE_ONE;
                    worst = Math.max(worst, besideTrue ? 2 : 1);
                }
            }
            return worst;
        }

        int costOfKeeping(int piece) {
            int young = tooYoung(piece);
            if (young == 0) {
                return 0;
            }
            int came = pieces.at(piece, CAME);
            // TESTS stand in the order of their WEEKS, so the first that fits is the earliest
            for (int i = 0; i < tests.size(); i++) {
                if (tests.at(i, TESTED) == piece && hasBit(young, tests.at(i, TESTED_STUFF))) {
                    return tests.at(i, TESTED_IN) - came;
                }
            }
            return now - came;
        }

        int cheapestTooYoung(int piece) {
            int young = tooYoung(piece);
            int best = NOT_ANY;
            for (int i = 0; i < stuffs.size(); i++) {
                boolean less = best < 0 || stuffs.at(i, PRICE_OF_TEST) < stuffs.at(best, PRICE_OF_TEST);
                if (hasBit(young, i) && less) {
                    best = i;
                }
            }
            return best;
        }

        int likeliestSource(int piece) {
            int best = NOT_ANY;
            int most = 0;
            for (int source = 0; source < SOURCES; source++) {
                int here = pagesSharedWith(piece, source);
                if (here > most) {
                    most = here;
                    best = source;
                }
            }
            return best;
        }

        /** The SOURCES with which some PAGE of a PIECE is SHARED, as bits. */
        int sourcesOf(int piece) {
            int bits = 0;
            int end = pagesEnd(piece);
            for (int i = firstPage(piece); i < end; i++) {
                bits |= sourcesOfPage(i);
            }
            return bits;
        }

        /** The first WEEK with more PAGES since a WEEK than this pace allows. */
        int weekTooFast(int pace, int from) {
            int written = 0;
            int next = 0;
            for (int week = from; week <= now; week++) {
                // PIECES stand in the order in which they CAME
                while (next < pieces.size() && pieces.at(next, CAME) <= week) {
                    if (isVolume(next) && pieces.at(next, CAME) >= from) {
                        written += pagesOf(next);
                    }
                    next++;
                }
                if (written > pace * (week - from + 1)) {
                    return week;
                }
            }
            return NOT_ANY;
        }

        int growth() {
            int sum = 0;
            int ahead = NONE;
            for (int i = 0; i < pieces.size(); i++) {
                if (isVolume(i)) {
                    sum += ahead == NONE ? 0 : growthBehind(ahead, i);
                    ahead = i;
                }
            }
            return sum;
        }

        /** What a VOLUME and the one ahead of it add to GROWS with each VOLUME behind them. */
        private int growthBehind(int ahead, int volume) {
            int paid = pieces.at(ahead, PRICE);
            int gap = pieces.at(volume, CAME) - pieces.at(ahead, CAME);
            int sum = 0;
            int last = volume;
            for (int i = volume + 1; i < pieces.size(); i++) {
                if (isVolume(i)) {
                    int morePaid = Integer.signum(pieces.at(last, PRICE) - paid);
                    int longer = Integer.signum(pieces.at(i, CAME) - pieces.at(last, CAME) - gap);
                    sum -= morePaid * longer;
                    last = i;
                }
            }
            return sum;
        }

        private boolean knewWrongDay(int person, int piece) {
            int from = people.at(person, KNEW_FROM);
            int to = people.at(person, KNEW_TO);
            int end = pagesEnd(piece);
            for (int i = firstPage(piece); i < end; i++) {
                if (isFrom(dayOfPage(i), from, to) && isWrong(i)) {
                    return true;
                }
            }
            return false;
        }

        int unaskedUpTo(int piece, int week) {
            int bits = 0;
            for (int i = 0; i < people.size(); i++) {
                int asked = people.at(i, ASKED_IN);
                boolean askedByThen = asked != NONE && asked <= week;
                if (!askedByThen && knewWrongDay(i, piece)) {
                    bits |= 1 << i;
                }
            }
            return bits;
        }

        int gainUpTo(int person, int week) {
            int from = people.at(person, GAINS_FROM);
            int found = 0;
            for (int i = 0; i < pieces.size(); i++) {
                if (isVolume(i) && isFrom(pieces.at(i, CAME), from, week)) {
                    found++;
                }
            }
            return found * people.at(person, GAINS);
        }
    }

    // ---- texts

    /** The TAPE, and the tokens that stand on it one after the other. */
    private static final class Tape {
        private final int[] bytes = new int[MOST_BYTES];
        private int size = 0;
        private int at = 0;
        private int start = 0;
        private int kind = OTHER;
        private int number = 0;
        private int digits = 0;

        int size() {
            return size;
        }

        void addFour(int number) {
            for (int shift = 24; shift >= 0; shift -= 8) {
                if (size >= 0 && size < bytes.length) {
                    bytes[size] = number >> shift & 255;
                    size++;
                }
            }
        }

        void cut(int n) {
            if (n >= 0 && n <= size) {
                size = n;
            }
        }

        void rewind() {
            at = 0;
        }

        private int byteAt(int i) {
            return i >= 0 && i < size && i < bytes.length ? bytes[i] : NONE;
        }

        /** Goes on to the next token: kind tells which it is, start where it begins. */
        void nextToken() {
            while (at < size && byteAt(at) == ' ') {
                at++;
            }
            start = at;
            int sign = byteAt(at);
            if (isFrom(sign, '0', '9')) {
                goOverNumber();
            } else if (isFrom(sign, 'a', 'z')) {
                goOverWord();
            } else {
                goOverSign(sign);
            }
        }

        private void goOverNumber() {
            kind = NUMBER;
            number = 0;
            digits = 0;
            while (at < size && isFrom(byteAt(at), '0', '9')) {
                if (digits < MOST_DIGITS) {
                    number = number * 10 + byteAt(at) - '0';
                }
                digits++;
                at++;
            }
        }

        private void goOverWord() {
            while (at < size && isFrom(byteAt(at), 'a', 'z')) {
                at++;
            }
            int word = wordNumber(start, at);
            kind = word == NONE ? OTHER : word;
        }

        private int wordNumber(int from, int to) {
            int word = 0;
            int i = from;
            boolean alike = true;
            for (int k = 0; k < WORDS.length(); k++) {
                char sign = WORDS.charAt(k);
                if (sign != ' ') {
                    alike = alike && i < to && byteAt(i) == sign;
                    i++;
                } else if (alike && i == to) {
                    return word;
                } else {
                    word++;
                    i = from;
                    alike = true;
                }
            }
            return NONE;
        }

        private void goOverSign(int sign) {
            kind = kindOfSign(sign);
            if (kind == THE_END) {
                return;
            }
            at++;
            if (byteAt(at) == '=' && (kind == LESS || kind == GREATER)) {
                kind = kind == LESS ? LESS_OR_EQUAL : GREATER_OR_EQUAL;
                at++;
            }
        }

        private static int kindOfSign(int sign) {
            switch (sign) {
                case '<':
                    return LESS;
                case '=':
                    return EQUAL;
                case '>':
                    return GREATER;
                case '+':
                    return PLUS;
                case '-':
                    return MINUS;
                case '*':
                    return TIMES;
                case '[':
                    return OPENING;
                case ']':
                    return CLOSING;
                case ';':
                    return SEMICOLON;
                case NONE:
                    return THE_END;
                default:
                    return OTHER;
            }
        }
    }

    /**
     * Reads the text of a READER or of a MAKER, token by token. A READER's yes CLAUSES become one
     * code, each sign behind what it joins: signs that still wait for what comes stand in waiting.
     */
    private static final class Parser {
        // what may come next
        private static final int CLAUSE_DUE = 0;
        private static final int NUMBER_DUE = 1;
        private static final int CLAUSE_OVER = 2;
        private static final int VALUE_DUE = 3;
        private static final int FACT_DUE = 4;
        private static final int VALUE_OVER = 5;
        private static final int FACT_OVER = 6;
        private static final int ALL_READ = 7;
        // which SUM it stands in
        private static final int SUM_OF_YES = 0;
        private static final int AHEAD_OF_SIGN = 1;
        private static final int BEHIND_SIGN = 2;

        private Reader reader = null;
        private Maker maker = null;
        private int due = CLAUSE_DUE;
        private int sum = SUM_OF_YES;
        private int clause = NONE;
        private int clauses = 0;
        private int onceSeen = 0;
        private int items = 0;
        private int fault = 0;
        private final int[] waiting = new int[MOST_BYTES];
        private int waits = 0;
        private int depth = 0;
        private int brackets = 0;

        /** 0 when the text is as told, and the READER or the MAKER has it; its FAULT otherwise. */
        int parse(Tape tape, Reader toReader, Maker toMaker) {
            begin(toReader, toMaker);
            tape.rewind();
            for (int n = 0; n <= MOST_BYTES && due != ALL_READ && fault == 0; n++) {
                tape.nextToken();
                switch (due) {
                    case CLAUSE_DUE:
                        takeClause(tape);
                        break;
                    case NUMBER_DUE:
                        takeSetting(tape);
                        break;
                    case VALUE_DUE:
                        takeValue(tape);
                        break;
                    case FACT_DUE:
                        takeFactStart(tape);
                        break;
                    case VALUE_OVER:
                        takeBehindValue(tape);
                        break;
                    case FACT_OVER:
                        takeBehindFact(tape);
                        break;
                    default:
                        takeBehindClause(tape);
                        break;
                }
            }
            return fault;
        }

        private void begin(Reader toReader, Maker toMaker) {
            reader = toReader;
            maker = toMaker;
            if (reader != null) {
                reader.clear();
            }
            if (maker != null) {
                maker.clear();
            }
            due = CLAUSE_DUE;
            clauses = 0;
            onceSeen = 0;
            items = 0;
            fault = 0;
        }

        private void fail(Tape token, int why) {
            fault = 1 + 8 * token.start + why;
        }

        private boolean beginsClause(int kind) {
            if (reader != null) {
                return kind == YES || kind == TAKES || kind == COINS;
            }
            return kind == PACE || kind == SLIPS || kind == FROM || kind == OF;
        }

        private void takeClause(Tape token) {
            clause = token.kind;
            boolean once = clause == TAKES || clause == COINS || clause == PACE || clause == SLIPS;
            if (!beginsClause(clause)) {
                fail(token, CANNOT_STAND);
            } else if (clauses >= MOST_CLAUSES || once && hasBit(onceSeen, clause)) {
                fail(token, CLAUSE_TOO_MANY);
            } else {
                clauses++;
                onceSeen |= once ? 1 << clause : 0;
                sum = SUM_OF_YES;
                waits = 0;
                depth = 0;
                brackets = 0;
                due = clause == YES ? VALUE_DUE : NUMBER_DUE;
            }
        }

        private void takeSetting(Tape token) {
            if (token.kind != NUMBER) {
                fail(token, CANNOT_STAND);
            } else if (token.digits > MOST_DIGITS || !set(token.number)) {
                fail(token, BAD_NUMBER);
            } else {
                due = CLAUSE_OVER;
            }
        }

        private boolean set(int number) {
            if (reader != null) {
                return reader.set(clause, number);
            }
            return maker != null && maker.set(clause, number);
        }

        private void takeFactStart(Tape token) {
            if (token.kind != NOT && token.kind != OPENING) {
                sum = AHEAD_OF_SIGN;
                takeValue(token);
            } else if (depth >= MOST_DEPTH) {
                fail(token, TOO_DEEP);
            } else {
                depth++;
                brackets += token.kind == OPENING ? 1 : 0;
                putOff(token.kind);
            }
        }

        private void takeValue(Tape token) {
            boolean isNumber = token.kind == NUMBER;
            if (!isNumber && !isFrom(token.kind, 0, VALUE_WORDS - 1)) {
                fail(token, CANNOT_STAND);
            } else if (isNumber && token.digits > MOST_DIGITS) {
                fail(token, BAD_NUMBER);
            } else if (items >= MOST_ITEMS) {
                fail(token, ONE_TOO_MANY);
            } else {
                items++;
                emit(isNumber ? Reader.codeOfNumber(token.number) : token.kind);
                due = VALUE_OVER;
            }
        }

        private void takeBehindValue(Tape token) {
            int kind = token.kind;
            if (kind == PLUS || kind == MINUS || kind == TIMES) {
                join(kind);
                due = VALUE_DUE;
            } else if (sum == BEHIND_SIGN) {
                takeBehindFact(token);
            } else if (sum == AHEAD_OF_SIGN) {
                takeSign(token);
            } else if (kind == IF) {
                emitDownTo(1);
                clause = IF;
                due = FACT_DUE;
            } else {
                takeBehindClause(token);
            }
        }

        private void takeSign(Tape token) {
            if (!isFrom(token.kind, LESS, GREATER)) {
                fail(token, CANNOT_STAND);
            } else if (items >= MOST_ITEMS) {
                fail(token, ONE_TOO_MANY);
            } else {
                items++;
                join(token.kind);
                sum = BEHIND_SIGN;
                due = VALUE_DUE;
            }
        }

        private void takeBehindFact(Tape token) {
            if (token.kind == AND || token.kind == OR) {
                join(token.kind);
                due = FACT_DUE;
            } else if (token.kind == CLOSING && brackets > 0) {
                emitDownTo(1);
                dropBracket();
                due = FACT_OVER;
            } else if (brackets > 0) {
                fail(token, CANNOT_STAND);
            } else {
                takeBehindClause(token);
            }
        }

        private void takeBehindClause(Tape token) {
            if (token.kind != SEMICOLON && token.kind != THE_END) {
                fail(token, CANNOT_STAND);
                return;
            }
            if (clause == YES || clause == IF) {
                emitDownTo(1);
                emit(clause);
            }
            due = token.kind == THE_END ? ALL_READ : CLAUSE_DUE;
        }

        /** How closely a sign joins; a bracket that is open holds back all that is ahead of it. */
        private static int closeness(int sign) {
            switch (sign) {
                case OPENING:
                    return 0;
                case OR:
                    return 1;
                case AND:
                    return 2;
                case NOT:
                    return 3;
                case PLUS:
                case MINUS:
                    return 5;
                case TIMES:
                    return 6;
                default:
                    return 4;
            }
        }

        private void join(int sign) {
            emitDownTo(closeness(sign));
            putOff(sign);
        }

        private void putOff(int sign) {
            if (waits >= 0 && waits < waiting.length) {
                waiting[waits] = sign;
                waits++;
            }
        }

        private int lastWaiting() {
            return waits > 0 && waits <= waiting.length ? waiting[waits - 1] : OPENING;
        }

        /** Emits the signs that wait and join at least so closely. */
        private void emitDownTo(int least) {
            while (waits > 0 && closeness(lastWaiting()) >= least) {
                if (lastWaiting() == NOT) {
                    depth--;
                }
                emit(lastWaiting());
                waits--;
            }
        }

        private void dropBracket() {
            if (waits > 0) {
                waits--;
                depth--;
                brackets--;
            }
        }

        private void emit(int code) {
            if (reader != null) {
                reader.addCode(code);
            }
        }
    }

    /** A READER: weeks and coins that he takes, and the code of his yes CLAUSES. */
    private static final class Reader {
        private int takes = 1;
        private int coins = 1;
        private final int[] code = new int[MOST_BYTES];
        private int size = 0;
        private final long[] stack = new long[MOST_ITEMS];
        private int height = 0;

        static int codeOfNumber(int number) {
            return -1 - number;
        }

        void clear() {
            takes = 1;
            coins = 1;
            size = 0;
        }

        boolean set(int word, int number) {
            if (word == TAKES && isFrom(number, 1, 99)) {
                takes = number;
                return true;
            }
            if (word == COINS && isFrom(number, 1, 999)) {
                coins = number;
                return true;
            }
            return false;
        }

        void addCode(int one) {
            if (size >= 0 && size < code.length) {
                code[size] = one;
                size++;
            }
        }

        int chanceBy(int[] values) {
            height = 0;
            for (int i = 0; i < size && i < code.length; i++) {
                int one = code[i];
                if (one == YES) {
                    return held(pop());
                }
                if (one == IF) {
                    boolean holds = pop() != 0;
                    long sum = pop();
                    if (holds) {
                        return held(sum);
                    }
                } else {
                    step(one, values);
                }
            }
            return NO_CLAUSE_HOLDS;
        }

        private static int held(long sum) {
            return (int) Math.max(0L, Math.min(1000L, sum));
        }

        private void step(int one, int[] values) {
            if (one < 0) {
                push(-1 - one);
            } else if (one < VALUE_WORDS) {
                push(one < values.length ? values[one] : 0);
            } else if (one == NOT) {
                push(bit(pop() == 0));
            } else {
                long right = pop();
                long left = pop();
                push(joined(one, left, right));
            }
        }

        private static long joined(int sign, long left, long right) {
            switch (sign) {
                case PLUS:
                    return left + right;
                case MINUS:
                    return left - right;
                case TIMES:
                    return left * right;
                case LESS:
                    return bit(left < right);
                case LESS_OR_EQUAL:
                    return bit(left <= right);
                case EQUAL:
                    return bit(left == right);
                case GREATER_OR_EQUAL:
                    return bit(left >= right);
                case GREATER:
                    return bit(left > right);
                case AND:
                    return left & right;
                default:
                    return left | right;
            }
        }

        private static long bit(boolean holds) {
            return holds ? 1 : 0;
        }

        private void push(long value) {
            if (height >= 0 && height < stack.length) {
                stack[height] = value;
                height++;
            }
        }

        private long pop() {
            if (height <= 0 || height > stack.length) {
                return 0;
            }
            height--;
            return stack[height];
        }
    }

    /** A MAKER: how fast he is, how often he slips, what he copies and on what he writes. */
    private static final class Maker {
        private int pace = 1;
        private int slips = 0;
        private int stuffs = 0;
        private final int[] sources = new int[MOST_CLAUSES];
        private int sourcesTold = 0;

        void clear() {
            pace = 1;
            slips = 0;
            stuffs = 0;
            sourcesTold = 0;
        }

        boolean set(int word, int number) {
            if (word == PACE && isFrom(number, 1, 99)) {
                pace = number;
                return true;
            }
            if (word == SLIPS && isFrom(number, 0, 1000)) {
                slips = number;
                return true;
            }
            if (word == OF && isFrom(number, 0, MOST_STUFFS - 1)) {
                stuffs |= 1 << number;
                return true;
            }
            if (word == FROM && isFrom(number, 0, SOURCES - 1) && sourcesTold < sources.length) {
                sources[sourcesTold] = number;
                sourcesTold++;
                return true;
            }
            return false;
        }

        /** The PLACE that his SOURCE with this number has for a DAY. */
        private int placeFrom(World world, int number, int day) {
            if (number < 0 || number >= sourcesTold || number >= sources.length) {
                return NONE;
            }
            return world.facts.placeOf(sources[number] * DAYS + day);
        }

        boolean canMake(World world, int piece) {
            if ((world.pieces.at(piece, STUFFS_IN) & ~stuffs) != 0) {
                return false;
            }
            int end = world.pagesEnd(piece);
            for (int i = world.firstPage(piece); i < end; i++) {
                if (!canWrite(world, world.dayOfPage(i), world.pages.placeAt(i))) {
                    return false;
                }
            }
            return true;
        }

        private boolean canWrite(World world, int day, int place) {
            if (world.truth.placeOf(day) == place) {
                return true;
            }
            for (int i = 0; i < sourcesTold; i++) {
                if (placeFrom(world, i, day) == place) {
                    return true;
                }
            }
            return false;
        }

        /** How many PAGES he adds; they are added only if really. */
        int writePages(World world, int piece, int day, int n, int seed, boolean really) {
            int x = seed;
            int added = 0;
            for (int i = 0; i < n; i++) {
                int first = drawn(x);
                x = drawn(first);
                int here = day + i;
                int place = placeFor(world, here, perMille(first) < slips, x);
                boolean fits = place != NONE && here <= LAST_DAY && !world.pages.hasKey(piece * DAYS + here);
                if (fits) {
                    added++;
                }
                if (fits && really) {
                    world.pages.insert(piece * DAYS + here, place);
                }
            }
            return added;
        }

        private int placeFor(World world, int day, boolean slip, int draw) {
            if (slip) {
                return sourcesTold > 0 ? placeFrom(world, (draw >> 16) % sourcesTold, day) : NONE;
            }
            int place = world.truth.placeOf(day);
            for (int i = 0; i < sourcesTold && place == NONE; i++) {
                place = placeFrom(world, i, day);
            }
            return place;
        }
    }

    /** READERS one after the other: what each says, takes and wants. */
    private static final class ReaderRow {
        private final int[] numbers = new int[MOST_IN_ROW];
        private final int[] chances = new int[MOST_IN_ROW];
        private final int[] takes = new int[MOST_IN_ROW];
        private final int[] coins = new int[MOST_IN_ROW];
        private int size = 0;
        /** The least WAIT of each part of them (as bits of their places here). */
        private final long[] waits = new long[1 << MOST_IN_ROW];

        void clear() {
            size = 0;
        }

        void add(int number, int chance, int weeks, int price) {
            if (size >= 0 && size < MOST_IN_ROW) {
                numbers[size] = number;
                chances[size] = chance;
                takes[size] = weeks;
                coins[size] = price;
                size++;
            }
        }

        private long waitOf(int part) {
            return part >= 0 && part < waits.length ? waits[part] : 0;
        }

        /** The least WAIT of a part if one of it is the first: what he takes, then his CHANCE of the rest's. */
        private long waitWith(int part, int first) {
            if (first < 0 || first >= MOST_IN_ROW) {
                return 0;
            }
            int rest = part & ~(1 << first);
            long weeks = takes[first];
            for (int i = Integer.bitCount(rest); i > 0; i--) {
                weeks *= 1000;
            }
            return weeks + chances[first] * waitOf(rest);
        }

        void findLeastWaits() {
            for (int part = 1; part < 1 << size && part < waits.length; part++) {
                waits[part] = NONE;
                for (int i = 0; i < size; i++) {
                    long here = hasBit(part, i) ? waitWith(part, i) : NONE;
                    if (here >= 0 && (waits[part] < 0 || here < waits[part])) {
                        waits[part] = here;
                    }
                }
            }
        }

        long leastWait() {
            return waitOf((1 << size) - 1);
        }

        /** The first READER with whom the least WAIT of a part can begin. */
        private int firstOf(int part, boolean any) {
            for (int i = 0; i < size; i++) {
                if (hasBit(part, i) && (any || waitWith(part, i) == waitOf(part))) {
                    return i;
                }
            }
            return NONE;
        }

        int readerInPlace(int place) {
            int part = (1 << size) - 1;
            // behind a CHANCE of 0 nobody is waited for: all orders are alike there
            boolean any = false;
            for (int i = 0; i < size; i++) {
                int first = firstOf(part, any);
                if (first < 0 || first >= MOST_IN_ROW) {
                    return NONE;
                }
                if (i == place) {
                    return numbers[first];
                }
                any = any || chances[first] == 0;
                part &= ~(1 << first);
            }
            return NONE;
        }

        /** Bits of READERS: the places here are their numbers then. */
        int surestFor(int purse) {
            int best = 0;
            long least = chanceOfAll(0);
            for (int part = 1; part < 1 << size; part++) {
                int price = coinsOf(part);
                long here = chanceOfAll(part);
                boolean better = here < least || here == least && price < coinsOf(best);
                if (price <= purse && better) {
                    best = part;
                    least = here;
                }
            }
            return best;
        }

        /** That all of a part say yes, as thousandths to the power of the whole row's size. */
        private long chanceOfAll(int part) {
            long product = 1;
            for (int i = 0; i < size && i < MOST_IN_ROW; i++) {
                product *= hasBit(part, i) ? chances[i] : 1000;
            }
            return product;
        }

        private int coinsOf(int part) {
            int sum = 0;
            for (int i = 0; i < size && i < MOST_IN_ROW; i++) {
                sum += hasBit(part, i) ? coins[i] : 0;
            }
            return sum;
        }
    }
}
