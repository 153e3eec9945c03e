import java.util.Arrays;
import java.util.NoSuchElementException;

/**
 * The pump of a dry town gives by names, from the first letter of its order of letters on, once
 * through in a day, till its water is out.
 */
public final class WaterByLetters {
    public static final int NONE = -1;

    private static final int MOST_HOUSES = 8;
    private static final int LETTERS = 8;
    private static final int MOST_NAME = 6;
    private static final int MOST_THIRST = 9;
    private static final int MOST_YIELD = 99;
    private static final int MOST_TEXT = 80;
    private static final int MOST_HOUSES_TEXT = 71;
    private static final int MOST_HEAT = 20;
    private static final int MOST_RULE = 40;
    private static final int MOST_YEAR = 60;
    private static final int MOST_BRACKETS = 4;
    private static final int MOST_NUMBER = 3;
    private static final int MOST_DAYS = 60;
    private static final int MOST_AHEAD = 99;
    private static final int MOST_UNDONE = 15;
    private static final int MOST_KEPT = 3;
    private static final int MOST_SEEN = 8;
    private static final int LAW_DAYS = 10;
    private static final int MOST_ASKED = 9;
    private static final int MOST_RESTED = 18;

    /** All sets of eight things (HOUSES or LETTERS). */
    private static final int SETS = 256;
    private static final int SQUARE = 64;

    /** Where no sign stands wrong. */
    private static final int FINE = -1;
    /** Where a text has ended. */
    private static final int NO_SIGN = -1;

    private static final int NO_SUCH = -100;
    private static final int NOBODY = -2;
    private static final int BELOW = -2;
    private static final int MISSING = -3;
    /** What a fault is told from, where the answers below 0 are in use. */
    private static final int FAULT_FAR = -10000;

    /** A NAME in a key of THE BOOK has a digit a LETTER, 0 where it has ended, so that a beginning is ahead. */
    private static final int KEY_BASE = LETTERS + 1;
    /** What one place of the first LETTER counts in a key: KEY_BASE to the fifth, times MOST_HOUSES. */
    private static final int FIRST_LETTER_KEY = 472392;

    private static final int BYTES = 0;
    private static final int SHORTS = 1;
    private static final int NO_SHEET = 3;

    private final Text text = new Text();
    private final Row told = new Row();
    private final Rule rule = new Rule();
    private final Rule otherRule = new Rule();
    private final Town town = new Town();
    private final Town spare = new Town();
    private final Book book = new Book();
    private final Book otherBook = new Book();
    private final Pump pump = new Pump();
    private final Past past = new Past();
    private final Town[] kept = new Town[MOST_KEPT];
    private int keptBits;
    private final int[] seenAhead = new int[MOST_SEEN];
    private final int[] seenBehind = new int[MOST_SEEN];
    private int seen;
    private final Orders orders = new Orders();
    private final Thrift thrift = new Thrift();
    private final Matching matching = new Matching();
    /** A row that is made ready ahead of being told. */
    private final int[] draft = new int[LETTERS];
    private int drawn;

    public WaterByLetters() {
        for (int i = 0; i < MOST_KEPT; i++) {
            kept[i] = new Town();
        }
    }

    // ---- houses, letters

    public int sign(int v) {
        return text.add(v) ? text.length : NONE;
    }

    public boolean end(int n) {
        if (n < 0 || n > text.length) {
            return false;
        }
        text.length = n;
        return true;
    }

    public int houses() {
        if (text.length == 0) {
            return 0;
        }
        int fault = text.faultInHouses(town.count);
        int before = town.count;
        if (fault == FINE) {
            addHouses();
            past.size = 0;
            keptBits = 0;
        }
        text.length = 0;
        return fault == FINE ? town.count - before : -1 - fault;
    }

    private void addHouses() {
        for (int p = 0; p < text.length && town.count < MOST_HOUSES; p++) {
            int letter = letterOf(text.at(p));
            int digit = digitOf(text.at(p));
            if (letter != NONE) {
                town.lengthen(town.count, letter);
            } else if (digit != NONE) {
                pump.thirst[town.count] = digit;
                town.count++;
            }
        }
    }

    public int heat() {
        int fault = text.faultInHeat();
        if (fault == FINE) {
            pump.takeHeat(text);
        }
        text.length = 0;
        return fault == FINE ? pump.heatLength : -1 - fault;
    }

    public int rule() {
        int fault = takeRule(rule);
        return fault == FINE ? 0 : -1 - fault;
    }

    private int takeRule(Rule taker) {
        int fault = text.length == 0 ? FINE : Rule.faultIn(text);
        if (fault == FINE) {
            taker.take(text);
        }
        text.length = 0;
        return fault;
    }

    public int house(int house, int what) throws NoSuchElementException {
        if (!town.has(house)) {
            throw new NoSuchElementException();
        }
        switch (what) {
            case 0:
                return town.lengths[house];
            case 1:
                return pump.thirst[house];
            case 2:
                return town.dry[house];
            case 3:
                return town.had[house];
            case 4:
                return placeNow(house);
            case 5:
                pourToday();
                return pump.cups[house];
            default:
                throw new NoSuchElementException();
        }
    }

    public int letter(int house, int i) throws NoSuchElementException {
        if (!town.has(house) || i < 0 || i >= town.lengths[house]) {
            throw new NoSuchElementException();
        }
        return town.letterAt(house, i);
    }

    public int sheet(int kind, int n, int f, int step) {
        if (kind < BYTES || kind > NO_SHEET || n > MOST_HOUSES) {
            return NONE;
        }
        if (kind != NO_SHEET && n < 0) {
            return BELOW;
        }
        int entries = kind == NO_SHEET ? 0 : n;
        for (int house = 0; house < town.count; house++) {
            pump.thirst[house] = house < entries ? thirstOf(kind, f + house * step) : 1;
        }
        return kind == NO_SHEET ? MISSING : pump.thirstOfAll(town.count);
    }

    private static int thirstOf(int kind, int entry) {
        int cups = kind == BYTES ? (byte) entry : kind == SHORTS ? (short) entry : entry;
        return Math.max(1, Math.min(MOST_THIRST, cups));
    }

    // ---- days

    public int order() {
        int fault = text.faultInOrder();
        int first = town.order[0];
        if (fault == FINE) {
            past.push(town);
            text.copyOrder(town.order);
        }
        text.length = 0;
        return fault == FINE ? town.placeOfLetter(first) : -1 - fault;
    }

    public int name(int house) {
        if (!town.has(house)) {
            text.length = 0;
            return NO_SUCH;
        }
        int fault = text.faultInName();
        if (fault == FINE) {
            past.push(town);
            town.lengths[house] = 0;
            for (int p = 0; p < text.length; p++) {
                town.lengthen(house, letterOf(text.at(p)));
            }
        }
        text.length = 0;
        return fault == FINE ? placeNow(house) : -1 - fault;
    }

    public int marry(int house, int other) {
        if (!town.canMarry(house, other)) {
            return NO_SUCH;
        }
        past.push(town);
        int before = placeNow(house);
        town.takeName(house, other);
        return before - placeNow(house);
    }

    public int days(int n) {
        if (n < 0 || n > MOST_DAYS) {
            return NONE;
        }
        past.push(town);
        int often = pump.live(town, book, rule, n);
        told.tellTwo(pump.dryBitsOfAll, pump.leftOfAll);
        return often;
    }

    public int year() {
        int fault = text.faultInYear();
        if (fault != FINE) {
            text.length = 0;
            return -1 - fault;
        }
        spare.become(town);
        int done = 0;
        boolean refused = false;
        for (int p = 0; p < text.length && !refused; p += Math.max(1, Text.signsOfAct(text.at(p)))) {
            refused = !act(p);
            done += refused ? 0 : 1;
        }
        text.length = 0;
        if (done > 0) {
            past.push(spare);
        }
        told.tellTwo(refused ? 1 : 0, town.dryOfAll());
        return done;
    }

    /** Does the act of a year that is told at p; false if it is refused. */
    private boolean act(int p) {
        switch (text.at(p)) {
            case 'd':
                pump.live(town, book, rule, digitOf(text.at(p + 1)));
                return true;
            case 'm':
                return wed(digitOf(text.at(p + 1)), digitOf(text.at(p + 2)));
            case 'r':
                town.turnRound();
                return true;
            default:
                town.firstBecomesLast();
                return true;
        }
    }

    private boolean wed(int house, int other) {
        if (!town.canMarry(house, other)) {
            return false;
        }
        town.takeName(house, other);
        return true;
    }

    public int undo() {
        return past.pop(town) ? past.size : NONE;
    }

    // ---- a day

    public int book() {
        book.write(town, town.order);
        told.tellAll(book.turn, town.count);
        return town.count;
    }

    public int yields(int n) {
        if (n < 0 || n > MOST_AHEAD) {
            return NONE;
        }
        int cups = pump.yieldOn(rule, town.count, town.day + n);
        book.write(town, town.order);
        int dry = pump.pour(book, cups);
        told.tellTwo(town.count - dry, pump.left);
        return cups;
    }

    public int stops() {
        pourToday();
        for (int place = 0; place < town.count; place++) {
            int house = book.turn[place];
            if (pump.cups[house] < pump.thirst[house]) {
                told.tellTwo(town.letterAt(house, 0), pump.cups[house]);
                return house;
            }
        }
        return NOBODY;
    }

    public int dry(int house, int n) {
        if (!town.has(house) || n < 0 || n > MOST_DAYS) {
            return NONE;
        }
        spare.become(town);
        pump.live(spare, book, rule, n);
        told.tellOne(spare.had[house] - town.had[house]);
        return spare.dry[house] - town.dry[house];
    }

    public int waits() {
        pourToday();
        int all = 0;
        int last = 0;
        int drunk = 0;
        for (int place = 0; place < town.count; place++) {
            int cups = pump.cups[book.turn[place]];
            if (cups > 0) {
                last = drunk;
                all += drunk;
                drunk += cups;
            }
        }
        told.tellTwo(fewestMinutes(), last);
        return all;
    }

    /** Those who drink the least go first: then the fewest minutes are waited. */
    private int fewestMinutes() {
        int all = 0;
        int drunk = 0;
        for (int cups = 1; cups <= MOST_THIRST; cups++) {
            for (int house = 0; house < town.count; house++) {
                if (pump.cups[house] == cups) {
                    all += drunk;
                    drunk += cups;
                }
            }
        }
        return all;
    }

    private int yieldToday() {
        return pump.yieldOn(rule, town.count, town.day);
    }

    private void pourToday() {
        book.write(town, town.order);
        pump.pour(book, yieldToday());
    }

    private int placeNow(int house) {
        book.write(town, town.order);
        return book.places[house];
    }

    // ---- orders of letters

    public int fewest() {
        int served = thrift.seek(town, pump, orders, yieldToday());
        told.tellAll(thrift.best, LETTERS);
        return town.count - served;
    }

    public int likes(int house) {
        if (!town.has(house)) {
            return NONE;
        }
        int place = orders.leastPlace(town, house, draft);
        told.tellAll(draft, LETTERS);
        return place;
    }

    public int rounds(int n) {
        if (n < 1 || n > MOST_DAYS) {
            return NONE;
        }
        spare.become(town);
        int often = 0;
        for (int day = 0; day < n; day++) {
            often += pump.live(spare, book, rule, 1);
            spare.firstBecomesLast();
        }
        int most = 0;
        int least = town.count == 0 ? 0 : n;
        for (int house = 0; house < town.count; house++) {
            int times = spare.dry[house] - town.dry[house];
            most = Math.max(most, times);
            least = Math.min(least, times);
        }
        told.tellTwo(most, least);
        return often;
    }

    public int votes() {
        int fault = readOtherOrder();
        if (fault != FINE) {
            return FAULT_FAR - fault;
        }
        int earlier = book.earlierIn(otherBook);
        told.tellTwo(earlier, otherBook.earlierIn(book));
        return Integer.bitCount(earlier);
    }

    public int sways() {
        int fault = readOtherOrder();
        if (fault != FINE) {
            return FAULT_FAR - fault;
        }
        int won = book.earlierIn(otherBook);
        int needed = town.count == 0 ? 0 : Math.max(0, town.count / 2 + 1 - Integer.bitCount(won));
        told.tellOne(leastThirsty(won, needed));
        return needed;
    }

    /** THE BOOK as it is and, of THE TEXT, the one by the other order; where THE TEXT is at fault. */
    private int readOtherOrder() {
        int fault = text.faultInOrder();
        if (fault == FINE) {
            text.copyOrder(draft);
            book.write(town, town.order);
            otherBook.write(town, draft);
        }
        text.length = 0;
        return fault;
    }

    /** So many HOUSES, none of a set: those with the least THIRST, of like ones the first (the least bits). */
    private int leastThirsty(int without, int many) {
        int found = 0;
        int bits = 0;
        for (int cups = 1; cups <= MOST_THIRST; cups++) {
            for (int house = 0; house < town.count && found < many; house++) {
                if (pump.thirst[house] == cups && !isIn(without, house)) {
                    bits |= 1 << house;
                    found++;
                }
            }
        }
        return bits;
    }

    public int initial(int house) {
        if (!town.has(house)) {
            return NONE;
        }
        book.write(town, town.order);
        int old = town.placeOfLetter(town.letterAt(house, 0));
        int best = 0;
        int least = MOST_HOUSES;
        for (int letter = 0; letter < LETTERS; letter++) {
            int moved = town.placeOfLetter(letter) - old;
            int place = book.placeByKey(house, book.keys[house] + moved * FIRST_LETTER_KEY);
            if (place < least) {
                least = place;
                best = letter;
            }
        }
        told.tellOne(least);
        return best;
    }

    // ---- marriages, books

    public int matches() {
        book.write(town, town.order);
        matching.weigh(book);
        return matching.tellPairs(told, town.count);
    }

    public int lines() {
        int fault = text.faultInBook(town.count);
        if (fault != FINE) {
            text.length = 0;
            return -1 - fault;
        }
        book.write(town, town.order);
        int all = 0;
        for (int p = 0; p < text.length; p++) {
            all |= 1 << digitOf(text.at(p));
        }
        int best = all;
        for (int struck = 0; struck < SETS; struck++) {
            if ((struck & ~all) == 0 && Integer.bitCount(struck) < Integer.bitCount(best) && isBookWithout(struck)) {
                best = struck;
            }
        }
        text.length = 0;
        told.tellOne(best);
        return Integer.bitCount(best);
    }

    private boolean isBookWithout(int struck) {
        int latest = -1;
        for (int p = 0; p < text.length; p++) {
            int house = digitOf(text.at(p));
            if (town.has(house) && !isIn(struck, house)) {
                if (book.places[house] < latest) {
                    return false;
                }
                latest = book.places[house];
            }
        }
        return true;
    }

    // ---- lots, shares

    public int lot(int house) {
        if (!town.has(house)) {
            return NONE;
        }
        int room = yieldToday() - pump.thirst[house];
        int others = town.count - 1;
        long good = 0;
        for (int ahead = 0; ahead < 1 << town.count; ahead++) {
            if (!isIn(ahead, house) && pump.thirstOfSet(ahead) <= room) {
                int many = Integer.bitCount(ahead);
                good += factorial(many) * factorial(others - many);
            }
        }
        told.tellFraction(good, factorial(town.count));
        return 0;
    }

    private static long factorial(int n) {
        long product = 1;
        for (int i = 2; i <= n; i++) {
            product *= i;
        }
        return product;
    }

    public int shares(int v) {
        if (v < 0 || v > MOST_YIELD) {
            return NONE;
        }
        int all = pump.thirstOfAll(town.count);
        if (all == 0) {
            told.size = 0;
            return 0;
        }
        int left = v;
        for (int house = 0; house < town.count; house++) {
            draft[house] = v * pump.thirst[house] / all;
            left -= draft[house];
        }
        int given = 0;
        for (int i = 0; i < left; i++) {
            int next = greatestRest(v, all, given);
            draft[next] += 1;
            given |= 1 << next;
        }
        told.tellAll(draft, town.count);
        return draft[0];
    }

    /** The HOUSE with the greatest rest, of those that have no cup of the rest yet. */
    private int greatestRest(int v, int all, int given) {
        int best = 0;
        int greatest = -1;
        for (int house = 0; house < town.count; house++) {
            int rest = all > 0 ? v * pump.thirst[house] % all : 0;
            if (!isIn(given, house) && rest > greatest) {
                greatest = rest;
                best = house;
            }
        }
        return best;
    }

    // ---- which order it was

    public int saw(int one, int other) {
        if (!town.canMarry(one, other) || seen >= MOST_SEEN) {
            return NONE;
        }
        seenAhead[seen] = one;
        seenBehind[seen] = other;
        seen++;
        return seen;
    }

    public int forget() {
        int were = seen;
        seen = 0;
        return were;
    }

    public int fits() {
        int all = fitAll();
        boolean any = orders.leastFit(draft);
        told.tellAll(draft, any ? LETTERS : 0);
        return all;
    }

    /** How many orders fit what was seen, by the NAMES as they are now. */
    private int fitAll() {
        orders.demandNothing();
        for (int i = 0; i < seen; i++) {
            orders.demand(town, seenAhead[i], seenBehind[i]);
        }
        return orders.fitDemands();
    }

    public int sure(int i, int j) {
        if (i < 0 || i >= LETTERS || j < 0 || j >= LETTERS || i == j) {
            return NONE;
        }
        int all = fitAll();
        int ahead = orders.fitsWith(i, j);
        told.tellFraction(ahead, all);
        return ahead;
    }

    public int ask() {
        int all = fitAll();
        if (all == 0) {
            return NOBODY;
        }
        int least = all + 1;
        for (int i = 0; i < LETTERS; i++) {
            for (int j = i + 1; j < LETTERS; j++) {
                int ahead = orders.fitsWith(i, j);
                int most = Math.max(ahead, all - ahead);
                if (most < least) {
                    least = most;
                    told.tellTwo(i, j);
                }
            }
        }
        return least;
    }

    // ---- laws, rests, years

    public int law() {
        int fault = takeRule(otherRule);
        if (fault != FINE) {
            return FAULT_FAR - fault;
        }
        spare.become(town);
        int other = pump.live(spare, book, otherRule, LAW_DAYS);
        spare.become(town);
        int now = pump.live(spare, book, rule, LAW_DAYS);
        told.tellTwo(other, now);
        return other - now;
    }

    public int rests(int v) {
        if (v < 0 || v > MOST_RESTED) {
            return NONE;
        }
        told.size = 0;
        int pairs = 0;
        for (int x = 0; x <= MOST_ASKED; x++) {
            for (int y = 0; y <= MOST_ASKED; y++) {
                if (gain(x, v) == mostGain(v) && gain(y, leftBy(x, v)) == mostGain(leftBy(x, v))) {
                    pairs++;
                    if (pairs == 1) {
                        told.tellTwo(x, y);
                    }
                }
            }
        }
        return pairs;
    }

    private static int leftBy(int asked, int cups) {
        return cups - Math.min(asked, cups);
    }

    private static int gain(int asked, int cups) {
        return Math.min(asked, cups) - asked / 3;
    }

    private static int mostGain(int cups) {
        int most = 0;
        for (int asked = 0; asked <= MOST_ASKED; asked++) {
            most = Math.max(most, gain(asked, cups));
        }
        return most;
    }

    public int years(int seed, int n) {
        if (n < 1 || n > MOST_DAYS) {
            return NONE;
        }
        drawn = seed;
        spare.become(town);
        int often = 0;
        for (int i = 0; i < n; i++) {
            int what = draw(5);
            if (what < 3) {
                often += pump.live(spare, book, rule, 1);
            } else if (what == 4) {
                spare.firstBecomesLast();
            } else if (spare.count > 0) {
                drawMarriage();
            }
        }
        book.write(spare, spare.order);
        told.tellTwo(spare.count == 0 ? NONE : book.turn[0], spare.mostDry());
        return often;
    }

    private void drawMarriage() {
        int house = draw(spare.count);
        int other = draw(spare.count);
        if (spare.canMarry(house, other)) {
            spare.takeName(house, other);
        }
    }

    private int draw(int n) {
        drawn = drawn * 1103515245 + 12345;
        return n > 0 ? (drawn >>> 16) % n : 0;
    }

    // ---- kept

    public boolean keep(int i) {
        if (i < 0 || i >= MOST_KEPT) {
            return false;
        }
        kept[i].become(town);
        keptBits |= 1 << i;
        return true;
    }

    public boolean again(int i) {
        if (i < 0 || i >= MOST_KEPT || !isIn(keptBits, i)) {
            return false;
        }
        town.become(kept[i]);
        past.size = 0;
        return true;
    }

    public int count(int what) {
        switch (what) {
            case 0:
                return town.count;
            case 1:
                return town.day;
            case 2:
                return yieldToday();
            case 3:
                return pump.thirstOfAll(town.count);
            case 4:
                return town.dryOfAll();
            case 5:
                return town.hadOfAll();
            case 6:
                return town.order[0];
            case 7:
                return pump.heatLength;
            case 8:
                return seen;
            case 9:
                return past.size;
            case 10:
                return told.size;
            case 11:
                return text.length;
            default:
                return NO_SUCH;
        }
    }

    public long row(int i) throws NoSuchElementException {
        if (i < 0 || i >= told.size) {
            throw new NoSuchElementException();
        }
        return told.numbers[i];
    }

    // ---- signs, sets

    private static int letterOf(int sign) {
        return sign >= 'a' && sign <= 'h' ? sign - 'a' : NONE;
    }

    private static int digitOf(int sign) {
        return sign >= '0' && sign <= '9' ? sign - '0' : NONE;
    }

    private static boolean isIn(int set, int i) {
        return (set >> i & 1) != 0;
    }

    /** THE TEXT. Each fault is where the first sign stands that can't stand there, or FINE. */
    private static final class Text {
        final int[] signs = new int[MOST_TEXT];
        int length;

        int at(int p) {
            return p >= 0 && p < length ? signs[p] : NO_SIGN;
        }

        boolean add(int four) {
            if (length + 4 > MOST_TEXT) {
                return false;
            }
            for (int shift = 24; shift >= 0; shift -= 8) {
                signs[length] = four >>> shift & 255;
                length++;
            }
            return true;
        }

        int faultInHouses(int have) {
            int lines = have;
            int name = 0;
            boolean closed = false;
            for (int p = 0; p < length && p < MOST_HOUSES_TEXT; p++) {
                int sign = signs[p];
                if (closed) {
                    if (sign != ';') {
                        return p;
                    }
                    closed = false;
                } else if (name > 0 && digitOf(sign) > 0) {
                    lines++;
                    name = 0;
                    closed = true;
                } else if (letterOf(sign) == NONE || name == MOST_NAME || lines >= MOST_HOUSES) {
                    return p;
                } else {
                    name++;
                }
            }
            return faultAtEnd(MOST_HOUSES_TEXT, closed);
        }

        /** The fault of a text that is right as far as it may go, and may end where it does or not. */
        int faultAtEnd(int most, boolean mayEnd) {
            if (length > most) {
                return most;
            }
            return mayEnd ? FINE : length;
        }

        int faultInHeat() {
            for (int p = 0; p < length && p < MOST_HEAT; p++) {
                if (digitOf(signs[p]) == NONE) {
                    return p;
                }
            }
            return faultAtEnd(MOST_HEAT, length > 0);
        }

        int faultInOrder() {
            int there = 0;
            for (int p = 0; p < length && p < LETTERS; p++) {
                int letter = letterOf(signs[p]);
                if (letter == NONE || isIn(there, letter)) {
                    return p;
                }
                there |= 1 << letter;
            }
            return faultAtEnd(LETTERS, length == LETTERS);
        }

        void copyOrder(int[] into) {
            for (int p = 0; p < length && p < LETTERS; p++) {
                into[p] = letterOf(signs[p]);
            }
        }

        int faultInName() {
            for (int p = 0; p < length && p < MOST_NAME; p++) {
                if (letterOf(signs[p]) == NONE) {
                    return p;
                }
            }
            return faultAtEnd(MOST_NAME, length > 0);
        }

        int faultInYear() {
            int open = 0;
            for (int p = 0; p < length && p < MOST_YEAR; p++) {
                if (open > 0) {
                    if (digitOf(signs[p]) == NONE) {
                        return p;
                    }
                    open--;
                } else {
                    if (signsOfAct(signs[p]) == 0) {
                        return p;
                    }
                    open = signsOfAct(signs[p]) - 1;
                }
            }
            return faultAtEnd(MOST_YEAR, open == 0);
        }

        /** How many signs an act of a year has, by its first one; 0 if none begins so. */
        static int signsOfAct(int first) {
            switch (first) {
                case 'd':
                    return 2;
                case 'm':
                    return 3;
                case 'r':
                case 's':
                    return 1;
                default:
                    return 0;
            }
        }

        int faultInBook(int count) {
            int there = 0;
            for (int p = 0; p < length; p++) {
                int house = digitOf(signs[p]);
                if (house == NONE || house >= count || isIn(there, house)) {
                    return p;
                }
                there |= 1 << house;
            }
            return FINE;
        }
    }

    /** The ROW. */
    private static final class Row {
        final long[] numbers = new long[MOST_HOUSES];
        int size;

        void add(long number) {
            if (size < MOST_HOUSES) {
                numbers[size] = number;
                size++;
            }
        }

        void tellOne(long number) {
            size = 0;
            add(number);
        }

        void tellTwo(long first, long second) {
            tellOne(first);
            add(second);
        }

        void tellAll(int[] given, int many) {
            size = 0;
            for (int i = 0; i < many && i < given.length; i++) {
                add(given[i]);
            }
        }

        void tellFraction(long upper, long lower) {
            long divisor = divisorOf(upper, lower);
            if (upper == 0 || divisor == 0) {
                tellTwo(0, 1);
            } else {
                tellTwo(upper / divisor, lower / divisor);
            }
        }

        private static long divisorOf(long one, long other) {
            for (int i = 0; i < 100 && other != 0; i++) {
                long rest = one % other;
                one = other;
                other = rest;
            }
            return one;
        }
    }

    /** THE ORDER, HOUSES by their NAMES, and what befell them: what is undone and kept (THIRST is not). */
    private static final class Town {
        final int[] order = new int[LETTERS];
        final int[] names = new int[MOST_HOUSES * MOST_NAME];
        final int[] lengths = new int[MOST_HOUSES];
        final int[] dry = new int[MOST_HOUSES];
        final int[] had = new int[MOST_HOUSES];
        int count;
        int day;

        Town() {
            for (int i = 0; i < LETTERS; i++) {
                order[i] = i;
            }
        }

        void become(Town other) {
            System.arraycopy(other.order, 0, order, 0, LETTERS);
            System.arraycopy(other.names, 0, names, 0, MOST_HOUSES * MOST_NAME);
            System.arraycopy(other.lengths, 0, lengths, 0, MOST_HOUSES);
            System.arraycopy(other.dry, 0, dry, 0, MOST_HOUSES);
            System.arraycopy(other.had, 0, had, 0, MOST_HOUSES);
            count = other.count;
            day = other.day;
        }

        boolean has(int house) {
            return house >= 0 && house < count;
        }

        boolean canMarry(int house, int other) {
            return has(house) && has(other) && house != other;
        }

        /** A LETTER of a NAME, NONE behind its end. */
        int letterAt(int house, int i) {
            return i < lengths[house] ? names[house * MOST_NAME + i] : NONE;
        }

        void lengthen(int house, int letter) {
            if (lengths[house] < MOST_NAME) {
                names[house * MOST_NAME + lengths[house]] = letter;
                lengths[house]++;
            }
        }

        void takeName(int house, int other) {
            System.arraycopy(names, other * MOST_NAME, names, house * MOST_NAME, MOST_NAME);
            lengths[house] = lengths[other];
        }

        void turnRound() {
            for (int i = 0; i < LETTERS / 2; i++) {
                int letter = order[i];
                order[i] = order[LETTERS - 1 - i];
                order[LETTERS - 1 - i] = letter;
            }
        }

        void firstBecomesLast() {
            int first = order[0];
            System.arraycopy(order, 1, order, 0, LETTERS - 1);
            order[LETTERS - 1] = first;
        }

        int placeOfLetter(int letter) {
            for (int place = 0; place < LETTERS; place++) {
                if (order[place] == letter) {
                    return place;
                }
            }
            return NONE;
        }

        int dryOfAll() {
            int all = 0;
            for (int house = 0; house < count; house++) {
                all += dry[house];
            }
            return all;
        }

        int hadOfAll() {
            int all = 0;
            for (int house = 0; house < count; house++) {
                all += had[house];
            }
            return all;
        }

        int mostDry() {
            int most = 0;
            for (int house = 0; house < count; house++) {
                most = Math.max(most, dry[house]);
            }
            return most;
        }

        /** The LETTER of one HOUSE where its NAME first has another one than the other's, NONE if no two differ. */
        int tellingLetter(int one, int other) {
            int both = Math.min(lengths[one], lengths[other]);
            for (int i = 0; i < both; i++) {
                if (letterAt(one, i) != letterAt(other, i)) {
                    return letterAt(one, i);
                }
            }
            return NONE;
        }

        /** Whether one HOUSE is ahead of the other by any order, where no two LETTERS differ. */
        boolean isAheadAnyway(int one, int other) {
            if (lengths[one] != lengths[other]) {
                return lengths[one] < lengths[other];
            }
            return one < other;
        }
    }

    /** THE BOOK by an order of LETTERS. */
    private static final class Book {
        /** HOUSES in turn. */
        final int[] turn = new int[MOST_HOUSES];
        /** The place of each HOUSE. */
        final int[] places = new int[MOST_HOUSES];
        /** A number for each HOUSE's NAME and number: the lesser one is ahead. */
        final int[] keys = new int[MOST_HOUSES];
        private final int[] ranks = new int[LETTERS];
        int count;

        void write(Town town, int[] order) {
            count = town.count;
            for (int place = 0; place < LETTERS; place++) {
                ranks[order[place]] = place;
            }
            for (int house = 0; house < count; house++) {
                keys[house] = keyOf(town, house);
            }
            for (int house = 0; house < count; house++) {
                places[house] = placeByKey(house, keys[house]);
                turn[places[house]] = house;
            }
        }

        private int keyOf(Town town, int house) {
            int key = 0;
            for (int i = 0; i < MOST_NAME; i++) {
                int letter = town.letterAt(house, i);
                key = key * KEY_BASE + (letter == NONE ? 0 : ranks[letter] + 1);
            }
            return key * MOST_HOUSES + house;
        }

        /** The place that a HOUSE would have, if its key alone were this one. */
        int placeByKey(int house, int key) {
            int ahead = 0;
            for (int other = 0; other < count; other++) {
                if (other != house && keys[other] < key) {
                    ahead++;
                }
            }
            return ahead;
        }

        /** The place that a HOUSE would have with the NAME of another one. */
        int placeByName(int house, int other) {
            return placeByKey(house, keys[other] - other + house);
        }

        /** The HOUSES (bits) that have an earlier place in another book. */
        int earlierIn(Book other) {
            int bits = 0;
            for (int house = 0; house < count; house++) {
                if (other.places[house] < places[house]) {
                    bits |= 1 << house;
                }
            }
            return bits;
        }
    }

    /** A RULE, as its text tells it; without one it is 20-h*2. */
    private static final class Rule {
        private final int[] signs = new int[MOST_RULE];
        private int length;
        // What is open in each ( ) that stands in another one, the outermost first.
        private final int[] compared = new int[MOST_BRACKETS + 1];
        private final int[] comparisons = new int[MOST_BRACKETS + 1];
        private final int[] sums = new int[MOST_BRACKETS + 1];
        private final int[] addings = new int[MOST_BRACKETS + 1];
        private final int[] products = new int[MOST_BRACKETS + 1];
        private final int[] factorings = new int[MOST_BRACKETS + 1];
        private final boolean[] negated = new boolean[MOST_BRACKETS + 1];
        private int depth;

        void take(Text text) {
            length = Math.min(text.length, MOST_RULE);
            System.arraycopy(text.signs, 0, signs, 0, length);
        }

        static int faultIn(Text text) {
            int depth = 0;
            int compared = 0;
            int digits = 0;
            boolean behindThing = false;
            for (int p = 0; p < text.length && p < MOST_RULE; p++) {
                int sign = text.at(p);
                boolean digit = digitOf(sign) != NONE;
                if (digit ? behindThing && (digits == 0 || digits == MOST_NUMBER)
                        : !canStand(sign, behindThing, depth, isIn(compared, depth))) {
                    return p;
                }
                if (sign == '(') {
                    depth++;
                    compared &= ~(1 << depth);
                } else if (sign == ')') {
                    depth--;
                } else if (isComparison(sign)) {
                    compared |= 1 << depth;
                }
                digits = digit ? digits + 1 : 0;
                behindThing = digit || sign == ')' || isVariable(sign);
            }
            return text.faultAtEnd(MOST_RULE, behindThing && depth == 0);
        }

        /** Whether a sign that is no digit can stand behind a thing, or where a thing is due. */
        private static boolean canStand(int sign, boolean behindThing, int depth, boolean isCompared) {
            if (!behindThing) {
                return sign == '-' || isVariable(sign) || sign == '(' && depth < MOST_BRACKETS;
            }
            if (sign == ')') {
                return depth > 0;
            }
            return isAdding(sign) || isFactoring(sign) || isComparison(sign) && !isCompared;
        }

        private static boolean isVariable(int sign) {
            return sign == 'h' || sign == 'd' || sign == 'n' || sign == 't';
        }

        private static boolean isAdding(int sign) {
            return sign == '+' || sign == '-';
        }

        private static boolean isFactoring(int sign) {
            return sign == '*' || sign == '/';
        }

        private static boolean isComparison(int sign) {
            return sign == '<' || sign == '>' || sign == '=';
        }

        /** The value, for which things are taken one by one; what is open waits for the next one. */
        int valueOf(int h, int d, int n, int t) {
            if (length == 0) {
                return 20 - h * 2;
            }
            depth = 0;
            comparisons[0] = 0;
            openSum();
            boolean behindThing = false;
            int number = 0;
            for (int p = 0; p < length; p++) {
                int sign = signs[p];
                int digit = digitOf(sign);
                if (digit != NONE) {
                    number = number * 10 + digit;
                    if (p + 1 == length || digitOf(signs[p + 1]) == NONE) {
                        takeThing(number);
                        number = 0;
                    }
                } else if (isVariable(sign)) {
                    takeThing(sign == 'h' ? h : sign == 'd' ? d : sign == 'n' ? n : t);
                } else {
                    takeSign(sign, behindThing);
                }
                behindThing = digit != NONE || sign == ')' || isVariable(sign);
            }
            closeProduct();
            return comparedValue();
        }

        private void openSum() {
            sums[depth] = 0;
            addings[depth] = '+';
            factorings[depth] = 0;
            negated[depth] = false;
        }

        private void takeThing(int thing) {
            int value = negated[depth] ? -thing : thing;
            negated[depth] = false;
            if (factorings[depth] == '*') {
                products[depth] *= value;
            } else if (factorings[depth] == '/') {
                products[depth] = value == 0 ? 0 : products[depth] / value;
            } else {
                products[depth] = value;
            }
        }

        private void takeSign(int sign, boolean behindThing) {
            if (sign == '(') {
                if (depth < MOST_BRACKETS) {
                    depth++;
                    comparisons[depth] = 0;
                    openSum();
                }
            } else if (sign == ')') {
                closeProduct();
                int value = comparedValue();
                if (depth > 0) {
                    depth--;
                }
                takeThing(value);
            } else if (!behindThing) {
                negated[depth] = !negated[depth];
            } else if (isFactoring(sign)) {
                factorings[depth] = sign;
            } else if (isAdding(sign)) {
                closeProduct();
                addings[depth] = sign;
            } else {
                closeProduct();
                compared[depth] = sums[depth];
                comparisons[depth] = sign;
                openSum();
            }
        }

        private void closeProduct() {
            sums[depth] += addings[depth] == '+' ? products[depth] : -products[depth];
            factorings[depth] = 0;
        }

        private int comparedValue() {
            switch (comparisons[depth]) {
                case '<':
                    return compared[depth] < sums[depth] ? 1 : 0;
                case '>':
                    return compared[depth] > sums[depth] ? 1 : 0;
                case '=':
                    return compared[depth] == sums[depth] ? 1 : 0;
                default:
                    return sums[depth];
            }
        }
    }

    /** HEAT, THIRST, and how the cups of a DAY are given. */
    private static final class Pump {
        final int[] thirst = new int[MOST_HOUSES];
        private final int[] heat = new int[MOST_HEAT];
        int heatLength = 1;
        // The DAY poured last.
        final int[] cups = new int[MOST_HOUSES];
        int left;
        private int dryBits;
        // The DAYS lived last.
        int leftOfAll;
        int dryBitsOfAll;

        void takeHeat(Text text) {
            heatLength = Math.min(text.length, MOST_HEAT);
            for (int p = 0; p < heatLength; p++) {
                heat[p] = digitOf(text.at(p));
            }
        }

        int thirstOfAll(int count) {
            return thirstOfSet((1 << count) - 1);
        }

        int thirstOfSet(int set) {
            int all = 0;
            for (int house = 0; house < MOST_HOUSES; house++) {
                if (isIn(set, house)) {
                    all += thirst[house];
                }
            }
            return all;
        }

        int yieldOn(Rule rule, int count, int day) {
            int h = heatLength > 0 ? heat[day % heatLength] : 0;
            int value = rule.valueOf(h, day % 10, count, thirstOfAll(count));
            return Math.max(0, Math.min(MOST_YIELD, value));
        }

        /** The cups of each HOUSE, by THE BOOK: how many have less than their THIRST. */
        int pour(Book book, int cupsToday) {
            left = cupsToday;
            dryBits = 0;
            for (int place = 0; place < book.count; place++) {
                int house = book.turn[place];
                cups[house] = Math.min(thirst[house], left);
                left -= cups[house];
                if (cups[house] < thirst[house]) {
                    dryBits |= 1 << house;
                }
            }
            return Integer.bitCount(dryBits);
        }

        /** So many DAYS pass in a town: how often HOUSES had less than their THIRST. */
        int live(Town town, Book book, Rule rule, int days) {
            book.write(town, town.order);
            leftOfAll = 0;
            dryBitsOfAll = 0;
            int often = 0;
            for (int i = 0; i < days; i++) {
                often += pour(book, yieldOn(rule, town.count, town.day));
                leftOfAll += left;
                dryBitsOfAll |= dryBits;
                for (int house = 0; house < town.count; house++) {
                    town.had[house] += cups[house];
                    town.dry[house] += isIn(dryBits, house) ? 1 : 0;
                }
                town.day++;
            }
            return often;
        }
    }

    /** What can be undone: the town as it was ahead of each of the latest acts. */
    private static final class Past {
        private final Town[] towns = new Town[MOST_UNDONE];
        private int next;
        int size;

        Past() {
            for (int i = 0; i < MOST_UNDONE; i++) {
                towns[i] = new Town();
            }
        }

        void push(Town town) {
            towns[next].become(town);
            next = next + 1 < MOST_UNDONE ? next + 1 : 0;
            size = Math.min(size + 1, MOST_UNDONE);
        }

        boolean pop(Town town) {
            if (size == 0) {
                return false;
            }
            next = next > 0 ? next - 1 : MOST_UNDONE - 1;
            size--;
            town.become(towns[next]);
            return true;
        }
    }

    /** Orders of LETTERS, built from the first LETTER on: sets of LETTERS stand for all orders of them. */
    private static final class Orders {
        /** How much is lost if the second LETTER (column) is ahead of the first one (line). */
        private final int[] losses = new int[SQUARE];
        /** The LETTERS (bits) by which each one loses anything. */
        private final int[] losers = new int[LETTERS];
        private final int[] least = new int[SETS];
        /** The LETTERS (bits) that must be ahead of each one. */
        private final int[] demands = new int[LETTERS];
        private boolean possible;
        /** How many orders of a set fit, as a beginning. */
        private final int[] beginnings = new int[SETS];
        /** How many orders of all but a set fit, behind it. */
        private final int[] endings = new int[SETS];

        /** The least place that a HOUSE can have by an order of LETTERS; the least such order comes into a row. */
        int leastPlace(Town town, int house, int[] into) {
            int anyway = lossesOf(town, house);
            for (int set = SETS - 1; set >= 0; set--) {
                least[set] = set == SETS - 1 ? 0 : MOST_HOUSES;
                for (int letter = 0; letter < LETTERS; letter++) {
                    if (!isIn(set, letter)) {
                        least[set] = Math.min(least[set], loss(letter, set) + least[set | 1 << letter]);
                    }
                }
            }
            int set = 0;
            for (int i = 0; i < LETTERS; i++) {
                int letter = leastNext(set);
                into[i] = letter;
                set |= 1 << letter;
            }
            return anyway + least[0];
        }

        /** What each LETTER ahead of another one costs a HOUSE: how many are ahead of it anyway. */
        private int lossesOf(Town town, int house) {
            Arrays.fill(losses, 0);
            Arrays.fill(losers, 0);
            int anyway = 0;
            for (int other = 0; other < town.count; other++) {
                int own = town.tellingLetter(house, other);
                int their = town.tellingLetter(other, house);
                if (own != NONE && their != NONE) {
                    losses[own * LETTERS + their]++;
                    losers[own] |= 1 << their;
                } else if (town.isAheadAnyway(other, house)) {
                    anyway++;
                }
            }
            return anyway;
        }

        /** What is lost if a LETTER comes next behind a set of LETTERS. */
        private int loss(int letter, int set) {
            int lost = 0;
            int by = losers[letter] & set;
            for (int ahead = 0; ahead < LETTERS && by >> ahead != 0; ahead++) {
                if (isIn(by, ahead)) {
                    lost += losses[letter * LETTERS + ahead];
                }
            }
            return lost;
        }

        private int leastNext(int set) {
            for (int letter = 0; letter < LETTERS; letter++) {
                if (!isIn(set, letter) && loss(letter, set) + least[set | 1 << letter] == least[set]) {
                    return letter;
                }
            }
            return 0;
        }

        void demandNothing() {
            possible = true;
            Arrays.fill(demands, 0);
        }

        void demandAhead(int letter, int behind) {
            if (behind >= 0 && behind < LETTERS) {
                demands[behind] |= 1 << letter;
            }
        }

        /** One HOUSE is ahead of the other one. */
        void demand(Town town, int one, int other) {
            int ahead = town.tellingLetter(one, other);
            if (ahead != NONE) {
                demandAhead(ahead, town.tellingLetter(other, one));
            } else if (!town.isAheadAnyway(one, other)) {
                possible = false;
            }
        }

        /** How many orders fit all demands. */
        int fitDemands() {
            Arrays.fill(beginnings, 0);
            Arrays.fill(endings, 0);
            beginnings[0] = possible ? 1 : 0;
            endings[SETS - 1] = possible ? 1 : 0;
            for (int set = 0; set < SETS; set++) {
                for (int letter = 0; letter < LETTERS; letter++) {
                    if (canFollow(set, letter)) {
                        beginnings[set | 1 << letter] += beginnings[set];
                    }
                }
            }
            for (int set = SETS - 1; set >= 0; set--) {
                for (int letter = 0; letter < LETTERS; letter++) {
                    if (canFollow(set, letter)) {
                        endings[set] += endings[set | 1 << letter];
                    }
                }
            }
            return endings[0];
        }

        private boolean canFollow(int set, int letter) {
            return !isIn(set, letter) && (demands[letter] & ~set) == 0;
        }

        /** The least order that fits all demands; false if none does. */
        boolean leastFit(int[] into) {
            int set = 0;
            for (int i = 0; i < LETTERS; i++) {
                int letter = leastFollowing(set);
                if (letter == NONE) {
                    return false;
                }
                into[i] = letter;
                set |= 1 << letter;
            }
            return possible;
        }

        private int leastFollowing(int set) {
            for (int letter = 0; letter < LETTERS; letter++) {
                if (canFollow(set, letter)) {
                    return letter;
                }
            }
            return NONE;
        }

        /** How many of the orders that fit have one LETTER ahead of the other: it comes while that one has not. */
        int fitsWith(int one, int other) {
            int many = 0;
            for (int set = 0; set < SETS; set++) {
                if (!isIn(set, other) && canFollow(set, one)) {
                    many += beginnings[set] * endings[set | 1 << one];
                }
            }
            return many;
        }
    }

    /**
     * Seeks the order of LETTERS by which the most HOUSES have all of their THIRST. They are the first ones
     * of THE BOOK then, so each set of HOUSES for which there are cups is tried as the first ones.
     */
    private static final class Thrift {
        final int[] best = new int[LETTERS];
        private final int[] tried = new int[LETTERS];
        /** THIRST of each set of HOUSES. */
        private final int[] sums = new int[SETS];
        /** The LETTER of a HOUSE (line) by which it is told from another one (column), or NONE. */
        private final int[] telling = new int[SQUARE];
        /** The HOUSES (bits) that are ahead of each one by any order. */
        private final int[] aheadAnyway = new int[MOST_HOUSES];
        private int count;

        /** How many HOUSES have all of their THIRST at most; best is the least order for it. */
        int seek(Town town, Pump pump, Orders orders, int cups) {
            count = town.count;
            addUp(pump);
            compareNames(town);
            int most = -1;
            for (int set = 0; set < 1 << count; set++) {
                int many = Integer.bitCount(set);
                if (many >= most && sums[set] <= cups && canBeFirst(set, orders)) {
                    if (many > most || isLess(tried, best)) {
                        System.arraycopy(tried, 0, best, 0, LETTERS);
                    }
                    most = many;
                }
            }
            return most;
        }

        private void addUp(Pump pump) {
            for (int house = 0; house < count; house++) {
                for (int set = 0; set < 1 << house; set++) {
                    sums[set | 1 << house] = sums[set] + pump.thirst[house];
                }
            }
        }

        private void compareNames(Town town) {
            for (int one = 0; one < count; one++) {
                aheadAnyway[one] = 0;
                for (int other = 0; other < count; other++) {
                    int letter = town.tellingLetter(one, other);
                    telling[one * MOST_HOUSES + other] = letter;
                    if (letter == NONE && town.isAheadAnyway(other, one)) {
                        aheadAnyway[one] |= 1 << other;
                    }
                }
            }
        }

        /** Whether a set of HOUSES is ahead of all others by any order: the least such order is tried then. */
        private boolean canBeFirst(int set, Orders orders) {
            orders.demandNothing();
            for (int one = 0; one < count; one++) {
                if (isIn(set, one)) {
                    if ((aheadAnyway[one] & ~set) != 0) {
                        return false;
                    }
                    demandBehind(one, set, orders);
                }
            }
            return orders.leastFit(tried);
        }

        private void demandBehind(int one, int set, Orders orders) {
            for (int other = 0; other < count; other++) {
                int own = telling[one * MOST_HOUSES + other];
                if (own != NONE && !isIn(set, other)) {
                    orders.demandAhead(own, telling[other * MOST_HOUSES + one]);
                }
            }
        }

        private static boolean isLess(int[] one, int[] other) {
            for (int i = 0; i < LETTERS; i++) {
                if (one[i] != other[i]) {
                    return one[i] < other[i];
                }
            }
            return false;
        }
    }

    /** Pairs of HOUSES by which the most is climbed. */
    private static final class Matching {
        /** A place outweighs as many pairs as there can be. */
        private static final int PLACE = 16;
        private final int[] climbs = new int[SQUARE];
        /** For each set of HOUSES: PLACE for each place that its pairs climb, less 1 for each pair. */
        private final int[] worth = new int[SETS];

        void weigh(Book book) {
            for (int one = 0; one < book.count; one++) {
                for (int other = 0; other < book.count; other++) {
                    boolean climber = book.places[one] > book.places[other];
                    int house = climber ? one : other;
                    int spouse = climber ? other : one;
                    climbs[one * MOST_HOUSES + other] = book.places[house] - book.placeByName(house, spouse);
                }
            }
            for (int set = 1; set < 1 << book.count; set++) {
                int first = firstOf(set);
                int rest = set & ~(1 << first);
                worth[set] = worth[rest];
                for (int other = first + 1; other < book.count; other++) {
                    if (isIn(rest, other)) {
                        worth[set] = Math.max(worth[set], worthWith(first, other, rest));
                    }
                }
            }
        }

        private int worthWith(int first, int other, int rest) {
            return climbs[first * MOST_HOUSES + other] * PLACE - 1 + worth[rest & ~(1 << other)];
        }

        private static int firstOf(int set) {
            for (int i = 0; i < MOST_HOUSES; i++) {
                if (isIn(set, i)) {
                    return i;
                }
            }
            return 0;
        }

        /** Tells the least row of the pairs: what they climb. The first HOUSE goes into a pair if it can. */
        int tellPairs(Row row, int count) {
            row.size = 0;
            int climbed = 0;
            int set = (1 << count) - 1;
            for (int first = 0; first < count; first++) {
                if (isIn(set, first)) {
                    int rest = set & ~(1 << first);
                    int other = spouseOf(first, rest, worth[set], count);
                    set = rest;
                    if (other != NONE) {
                        row.add(first);
                        row.add(other);
                        climbed += climbs[first * MOST_HOUSES + other];
                        set &= ~(1 << other);
                    }
                }
            }
            return climbed;
        }

        private int spouseOf(int first, int rest, int due, int count) {
            for (int other = first + 1; other < count; other++) {
                if (isIn(rest, other) && worthWith(first, other, rest) == due) {
                    return other;
                }
            }
            return NONE;
        }
    }
}
