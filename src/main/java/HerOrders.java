/** A house of speakers who, between them, say the orders of the old lady; see README.md. */
public final class HerOrders {
    public static final int BAD = -1, FULL = -2, FINDING = -3, STATE = -4, SPENT = -6, NONE = -9;

    private static final int NOTHING = 1, BEYOND = 2, UNLIKE = 3, NOUGHT = 4, SIZE = 5;
    private static final int FINE = 0;

    private static final int ROW_COUNT = 6, ROW_MOST = 40;
    private static final int TEXT_COUNT = 4, TEXT_MOST = 60;
    private static final int KEPT_COUNT = 3;
    private static final int SPEAKER_MOST = 6, WORD_COUNT = 6, ROOM_COUNT = 6;
    private static final int ORDER_MOST = 8, DEED_MOST = 40;
    private static final int WAY_MOST = 5, DUMB_MOST = 3, LONGEST_MOST = 4, TURNS_MOST = 3;
    private static final int TWELFTHS = 12;
    private static final int SPEAKER_WHATS = 6, COUNT_WHATS = 11;

    private static final int VOICE = 0, PARROT = 1, STAIR = 2, NEPHEW = 3, MAID = 4, CAGE = 5;
    private static final int KIND_COUNT = 6;
    private static final int[] KIND_LETTERS = {118, 112, 115, 110, 109, 99};

    private static final int ALL_WORDS = 63, EVEN_WORDS = 21;
    private static final int GUEST_BREATH = 9;
    private static final int BLANK = 32, FIGURE_0 = 48, FIGURE_1 = 49, FIGURE_5 = 53, FIGURE_9 = 57;
    private static final int ITEM_SIZE = 5;
    private static final int PUT_BASE = 1000;

    private static final int DEED_WORD = 0, DEED_END = 1, DEED_HOUR = 2, DEED_WALK = 3;

    private static final int LOTS_MOST = 20, LOTS_END_FROM = 4;
    private static final long LOTS_FACTOR = 48271L, LOTS_MODULUS = 2147483647L;

    private static final int LOSES = 1, WINS = 0;

    private final Row[] rows;
    private final Row[] texts;
    private final House home;
    private final Deeds[] kept;
    private final Ways search;
    private final Trials trials;
    private final Told told;

    public HerOrders() {
        rows = new Row[ROW_COUNT];
        for (int r = 0; r < ROW_COUNT; r++) rows[r] = new Row(ROW_MOST);
        texts = new Row[TEXT_COUNT];
        for (int t = 0; t < TEXT_COUNT; t++) texts[t] = new Row(TEXT_MOST);
        kept = new Deeds[KEPT_COUNT];
        for (int k = 0; k < KEPT_COUNT; k++) kept[k] = new Deeds(NONE);
        home = new House();
        search = new Ways(home);
        trials = new Trials(home);
        told = new Told();
    }

    // ---- 1 rows, texts, houses

    public int row(int r, int n) {
        return make(rows, r, n, 0);
    }

    public int lay(int r, int i, int v) {
        int refusal = refusalOfPlace(rows, r, i);
        if (refusal != FINE) return refusal;
        told.asked = rows[r].places[i];
        rows[r].places[i] = v;
        return 1;
    }

    public int at(int r, int i) {
        int refusal = refusalOfPlace(rows, r, i);
        if (refusal != FINE) return refusal;
        told.asked = rows[r].places[i];
        return 1;
    }

    public int tear(int r) {
        int refusal = refusalOfMissing(rows, r);
        if (refusal != FINE) return refusal;
        rows[r].size = NONE;
        return 1;
    }

    public int copy(int r, int i, int to, int j, int n) {
        if (!isWithin(r, ROW_COUNT) || !isWithin(to, ROW_COUNT)) return BAD;
        if (n < 0) return told.refuse(SIZE);
        Row from = rows[r];
        Row into = rows[to];
        if (from.isMissing() || into.isMissing()) return told.refuse(NOTHING);
        if (!from.hasPart(i, n) || !into.hasPart(j, n)) return told.refuse(BEYOND);
        System.arraycopy(from.places, i, into.places, j, n);
        return 1;
    }

    public int mean(int r) {
        int refusal = refusalOfMissing(rows, r);
        if (refusal != FINE) return refusal;
        int size = rows[r].size;
        if (size <= 0) return told.refuse(NOUGHT);
        told.asked = (int) (rows[r].sum() / size);
        return 1;
    }

    public int text(int t, int n) {
        return make(texts, t, n, BLANK);
    }

    public int put(int t, int i, int v) {
        int refusal = refusalOfPlace(texts, t, i);
        if (refusal != FINE) return refusal;
        int was = texts[t].places[i];
        texts[t].places[i] = (byte) v;
        return was + PUT_BASE;
    }

    public int fault(int t) {
        int refusal = refusalOfMissing(texts, t);
        if (refusal != FINE) return refusal;
        return faultOf(texts[t]);
    }

    public int house(int t) {
        int refusal = refusalOfMissing(texts, t);
        if (refusal != FINE) return refusal;
        if (faultOf(texts[t]) != NONE) return STATE;
        home.settle(texts[t]);
        for (int k = 0; k < KEPT_COUNT; k++) kept[k].size = NONE;
        return home.speakers;
    }

    public int speaker(int i, int what) {
        if (!isSpeaker(i) || !isWithin(what, SPEAKER_WHATS)) return BAD;
        told.asked = home.factOf(i, what);
        return 1;
    }

    public int mark(int i, int kind) {
        if (!isSpeaker(i) || kind == VOICE || !isWithin(kind, KIND_COUNT)) return BAD;
        if (!isOf(home.kind[i], kind)) return told.refuse(UNLIKE);
        switch (kind) {
            case PARROT: return home.echoesOf(i);
            case STAIR: return home.hour % 2;
            case NEPHEW: return home.othersWhoCan(i);
            case MAID: return Integer.bitCount(home.words[i] & EVEN_WORDS);
            default: return home.othersInRoom(i);
        }
    }

    // ---- 2 deeds

    public int say(int i, int word) {
        if (!isSpeaker(i) || !isWithin(word, WORD_COUNT)) return BAD;
        if (!home.can(i, word)) return STATE;
        if (home.isFull()) return FULL;
        home.enact(DEED_WORD, i, word);
        return home.size;
    }

    public int end() {
        if (home.size == 0) return STATE;
        if (home.isFull()) return FULL;
        int words = home.size;
        home.enact(DEED_END, 0, 0);
        return words;
    }

    public int hour() {
        if (home.speakers == 0) return STATE;
        if (home.isFull()) return FULL;
        home.enact(DEED_HOUR, 0, 0);
        return home.hour;
    }

    public int walk(int i, int room) {
        if (!isSpeaker(i) || !isWithin(room, ROOM_COUNT)) return BAD;
        int way = Math.abs(home.room[i] - room);
        if (way == 0) return STATE;
        if (home.isFull()) return FULL;
        home.enact(DEED_WALK, i, room);
        return way;
    }

    public int undo(int n) {
        int deeds = home.deeds.size;
        if (n < 0 || n > deeds) return BAD;
        home.goBackTo(n);
        return deeds - n;
    }

    public int keep(int k) {
        if (!isWithin(k, KEPT_COUNT)) return BAD;
        if (home.speakers == 0) return STATE;
        kept[k].become(home.deeds);
        return kept[k].size;
    }

    public int on(int k) {
        if (!isWithin(k, KEPT_COUNT)) return BAD;
        if (kept[k].isMissing()) return told.refuse(NOTHING);
        home.deeds.become(kept[k]);
        home.goBackTo(home.deeds.size);
        return home.deeds.size;
    }

    // ---- 3 what can be said next

    public int who(int word) {
        if (!isWithin(word, WORD_COUNT)) return BAD;
        int set = 0;
        for (int i = 0; i < home.speakers; i++) {
            if (home.can(i, word)) set |= 1 << i;
        }
        return set;
    }

    public int what(int i) {
        return isSpeaker(i) ? home.sayable(i) : BAD;
    }

    public int said(int i) {
        if (!isWithin(i, home.size)) return BAD;
        told.asked = home.teller[i];
        return home.order[i];
    }

    // ---- 4 orders

    public int ways(int r) {
        int refusal = refusalOfWords(r, WAY_MOST);
        if (refusal != FINE) return refusal;
        search.runWords(rows[r], NONE);
        told.share(search.fullWays(), 1);
        told.asked = search.inAll();
        return 1;
    }

    public int few(int r, int to) {
        if (!isWithin(to, ROW_COUNT)) return BAD;
        int refusal = refusalOfWords(r, WAY_MOST);
        if (refusal != FINE) return refusal;
        search.runWords(rows[r], NONE);
        if (search.fullWays() == 0) return NONE;
        rows[to].become(search.fewestWay, search.length);
        return search.fewest;
    }

    public int far(int r) {
        int refusal = refusalOfWords(r, WAY_MOST);
        if (refusal != FINE) return refusal;
        search.runWords(rows[r], NONE);
        int words = search.farthest();
        told.asked = search.waysOf[words];
        return words;
    }

    public int dumb() {
        if (home.speakers == 0) return STATE;
        for (int n = 1; n <= DUMB_MOST; n++) {
            int number = trials.firstDumb(n);
            if (number != NONE) {
                told.asked = number;
                return n;
            }
        }
        return NONE;
    }

    public int longest(int r) {
        if (!isWithin(r, ROW_COUNT)) return BAD;
        if (home.speakers == 0) return STATE;
        trials.seekLongest();
        rows[r].become(trials.best, trials.bestLength);
        return trials.bestLength;
    }

    // ---- 5 who said what

    public int heard(int r) {
        int refusal = refusalOfPairs(r);
        if (refusal != FINE) return refusal;
        search.runPairs(rows[r]);
        told.share(search.fullWays(), 1);
        told.asked = search.opener;
        return 1;
    }

    public int sure(int r) {
        int refusal = refusalOfPairs(r);
        if (refusal != FINE) return refusal;
        search.runPairs(rows[r]);
        if (search.fullWays() == 0) return told.refuse(NOUGHT);
        told.asked = home.allSpeakers() & ~search.any;
        return search.inAll();
    }

    // ---- 6 who one is

    public int kinds(int i, int r) {
        int refusal = refusalOfTriples(i, r);
        if (refusal != FINE) return refusal;
        return kindsBy(i, rows[r]);
    }

    public int test(int i, int r) {
        int refusal = refusalOfTriples(i, r);
        if (refusal != FINE) return refusal;
        int set = kindsBy(i, rows[r]);
        if (set == 0) return NONE;
        int best = 0;
        int least = KIND_COUNT + 1;
        for (int ahead = 0; ahead <= WORD_COUNT; ahead++) {
            for (int word = 0; word < WORD_COUNT; word++) {
                int part = greaterPart(i, set, ahead == 0 ? NONE : ahead - 1, word);
                if (part < least) {
                    least = part;
                    best = 10 * ahead + word;
                }
            }
        }
        told.asked = least;
        return best;
    }

    // ---- 7 a fourth, how far off, by turns

    public int fourth(int r, int room) {
        if (!isWithin(room, ROOM_COUNT)) return BAD;
        int refusal = refusalOfWords(r, WAY_MOST);
        if (refusal != FINE) return refusal;
        if (home.speakers >= SPEAKER_MOST) return NONE;
        home.invite(room);
        search.runWords(rows[r], home.speakers - 1);
        home.dismiss();
        if (search.guestWords == NONE) return NONE;
        told.asked = search.guestWords;
        return Integer.bitCount(search.guestWords);
    }

    public int off(int r) {
        int refusal = refusalOfWords(r, ORDER_MOST);
        if (refusal != FINE) return refusal;
        return trials.distanceTo(rows[r]);
    }

    public int struck(int n) {
        if (n < 0 || n > TURNS_MOST) return BAD;
        if (home.speakers == 0) return STATE;
        return outcome(home, n);
    }

    // ---- 8 chances, lots

    public int odds(int r, int p) {
        if (p < 0 || p > TWELFTHS) return BAD;
        int refusal = refusalOfWords(r, WAY_MOST);
        if (refusal != FINE) return refusal;
        search.runWords(rows[r], NONE);
        told.share(search.weightOfFull(p), search.weightOfAny());
        return 1;
    }

    public int mid(int r, int p) {
        if (p < 0 || p > TWELFTHS) return BAD;
        int refusal = refusalOfWords(r, WAY_MOST);
        if (refusal != FINE) return refusal;
        search.runWords(rows[r], NONE);
        told.share(search.weightOfWords(p), search.weightOfAny());
        return 1;
    }

    public int lots(int n, int seed) {
        if (n < 1 || n > LOTS_MOST || seed < 1 || seed >= LOTS_MODULUS) return BAD;
        if (home.speakers == 0) return STATE;
        if (home.deeds.size + n > DEED_MOST) return FULL;
        long lot = seed;
        for (int k = 0; k < n; k++) {
            lot = lot * LOTS_FACTOR % LOTS_MODULUS;
            home.enactLot(lot);
        }
        return home.size;
    }

    // ---- 9 what is told

    public int asked() {
        return told.asked;
    }

    public long upper() {
        return told.upper;
    }

    public long lower() {
        return told.lower;
    }

    public int count(int what) {
        return isWithin(what, COUNT_WHATS) ? tally(what) : BAD;
    }

    public int finding() {
        return told.latest;
    }

    public int findings(int f) {
        return f >= NOTHING && f <= SIZE ? told.times[f] : BAD;
    }

    public long digest() {
        long h = 17;
        for (int what = 0; what < COUNT_WHATS; what++) h = 31 * h + tally(what);
        h = home.mixedInto(h);
        for (int k = 0; k < KEPT_COUNT; k++) h = 31 * h + (kept[k].isMissing() ? -1 : kept[k].size);
        for (int r = 0; r < ROW_COUNT; r++) h = rows[r].mixedInto(h);
        for (int t = 0; t < TEXT_COUNT; t++) h = texts[t].mixedInto(h);
        return h;
    }

    // ---- refusals, in the document's order

    private static boolean isWithin(int i, int bound) {
        return i >= 0 && i < bound;
    }

    private boolean isSpeaker(int i) {
        return isWithin(i, home.speakers);
    }

    private int refusalOfMissing(Row[] shelf, int r) {
        if (!isWithin(r, shelf.length)) return BAD;
        return shelf[r].isMissing() ? told.refuse(NOTHING) : FINE;
    }

    private int refusalOfPlace(Row[] shelf, int r, int i) {
        int refusal = refusalOfMissing(shelf, r);
        if (refusal != FINE) return refusal;
        return isWithin(i, shelf[r].size) ? FINE : told.refuse(BEYOND);
    }

    private int refusalOfWords(int r, int most) {
        if (!isWithin(r, ROW_COUNT)) return BAD;
        if (home.speakers == 0) return STATE;
        if (rows[r].isMissing()) return told.refuse(NOTHING);
        if (rows[r].size > most) return told.refuse(SIZE);
        return rows[r].isOfWords() ? FINE : told.refuse(UNLIKE);
    }

    private int refusalOfPairs(int r) {
        if (!isWithin(r, ROW_COUNT)) return BAD;
        if (home.speakers == 0) return STATE;
        if (rows[r].isMissing()) return told.refuse(NOTHING);
        if (rows[r].size % 2 != 0 || rows[r].size > 2 * WAY_MOST) return told.refuse(SIZE);
        return rows[r].isOfPairs() ? FINE : told.refuse(UNLIKE);
    }

    private int refusalOfTriples(int i, int r) {
        if (!isSpeaker(i) || !isWithin(r, ROW_COUNT)) return BAD;
        if (rows[r].isMissing()) return told.refuse(NOTHING);
        if (rows[r].size % 3 != 0) return told.refuse(SIZE);
        return rows[r].isOfTriples() ? FINE : told.refuse(UNLIKE);
    }

    private int make(Row[] shelf, int r, int n, int filling) {
        if (!isWithin(r, shelf.length) || n > shelf[r].places.length) return BAD;
        if (n < 0) return told.refuse(SIZE);
        shelf[r].begin(n, filling);
        return n;
    }

    // ---- texts of houses

    private static int faultOf(Row text) {
        int items = 0;
        for (int p = 0; p < text.size; p++) {
            if (text.places[p] == BLANK) continue;
            if (items == SPEAKER_MOST) return p;
            int fault = faultOfItem(text, p);
            if (fault != NONE) return fault;
            items++;
            p += ITEM_SIZE - 1;
        }
        return items == 0 ? text.size : NONE;
    }

    private static int faultOfItem(Row text, int start) {
        if (kindOf(text.places[start]) == NONE) return start;
        int number = 0;
        for (int k = 1; k < ITEM_SIZE; k++) {
            int p = start + k;
            if (p >= text.size) return text.size;
            int figure = text.places[p];
            int least = k == 4 ? FIGURE_1 : FIGURE_0;
            int most = k == 3 ? FIGURE_5 : FIGURE_9;
            if (figure < least || figure > most) return p;
            number = 10 * number + figure - FIGURE_0;
            // Only both figures together tell that there are no such WORDS.
            if (k == 2 && number > ALL_WORDS) return start + 1;
        }
        return NONE;
    }

    private static int kindOf(int letter) {
        for (int kind = 0; kind < KIND_COUNT; kind++) {
            if (KIND_LETTERS[kind] == letter) return kind;
        }
        return NONE;
    }

    private static boolean isOf(int kind, int wider) {
        if (kind == wider || wider == VOICE) return true;
        return kind == MAID && wider == NEPHEW || kind == CAGE && wider == PARROT;
    }

    // ---- who one is

    private int kindsBy(int i, Row triples) {
        int set = 0;
        for (int kind = 0; kind < KIND_COUNT; kind++) {
            if (fits(i, kind, triples)) set |= 1 << kind;
        }
        return set;
    }

    private boolean fits(int i, int kind, Row triples) {
        for (int p = 0; p + 2 < triples.size; p += 3) {
            boolean able = home.isAble(i, kind, triples.places[p], triples.places[p + 1]);
            if (able != (triples.places[p + 2] == 1)) return false;
        }
        return true;
    }

    private int greaterPart(int i, int set, int last, int word) {
        int able = 0;
        int unable = 0;
        for (int kind = 0; kind < KIND_COUNT; kind++) {
            if ((set >> kind & 1) == 0) continue;
            if (home.isAble(i, kind, last, word)) able++;
            else unable++;
        }
        return Math.max(able, unable);
    }

    // ---- turns

    /** What comes of it for the one whose turn it is: LOSES, WINS or NONE. */
    private static int outcome(House house, int turns) {
        if (turns <= 0) return NONE;
        // A move in the last turn decides nothing, whichever it is.
        if (turns == 1) return house.isSilenced() ? LOSES : NONE;
        boolean lost = true;
        for (int i = 0; i < house.speakers; i++) {
            for (int word = 0; word < WORD_COUNT; word++) {
                if (!house.can(i, word)) continue;
                house.push(i, word);
                int others = outcome(house, turns - 1);
                house.pop();
                if (others == LOSES) return WINS;
                if (others != WINS) lost = false;
            }
        }
        return lost ? LOSES : NONE;
    }

    // ---- counting

    private int tally(int what) {
        switch (what) {
            case 0: return home.speakers;
            case 1: return home.hour;
            case 2: return home.deeds.size;
            case 3: return home.size;
            case 4: return home.ended;
            case 5: return home.breathLeft();
            case 6: return home.sayableByAny();
            case 7: return home.parrots();
            case 8: return present(rows);
            case 9: return present(texts);
            default: return keptHouses();
        }
    }

    private static int present(Row[] shelf) {
        int there = 0;
        for (int r = 0; r < shelf.length; r++) {
            if (!shelf[r].isMissing()) there++;
        }
        return there;
    }

    private int keptHouses() {
        int there = 0;
        for (int k = 0; k < KEPT_COUNT; k++) {
            if (!kept[k].isMissing()) there++;
        }
        return there;
    }

    /** A ROW of ints, or the bytes of a TEXT. */
    private static final class Row {
        private final int[] places;
        private int size;

        private Row(int most) {
            places = new int[Math.max(most, 0)];
            size = NONE;
        }

        private boolean isMissing() {
            return size < 0;
        }

        private void begin(int n, int filling) {
            size = Math.max(0, Math.min(n, places.length));
            for (int i = 0; i < size; i++) places[i] = filling;
        }

        private void become(int[] source, int n) {
            begin(Math.min(n, source.length), 0);
            for (int i = 0; i < size; i++) places[i] = source[i];
        }

        private boolean hasPart(int from, int n) {
            return from >= 0 && from <= size && n <= size - from;
        }

        private long sum() {
            long sum = 0;
            for (int i = 0; i < size; i++) sum += places[i];
            return sum;
        }

        private boolean isOfWords() {
            for (int i = 0; i < size; i++) {
                if (!isWithin(places[i], WORD_COUNT)) return false;
            }
            return true;
        }

        private boolean isOfPairs() {
            for (int i = 0; i + 1 < size; i += 2) {
                if (!isWithin(places[i], WORD_COUNT)) return false;
                if (!isWithin(places[i + 1], ROOM_COUNT)) return false;
            }
            return true;
        }

        private boolean isOfTriples() {
            for (int i = 0; i + 2 < size; i += 3) {
                if (places[i] != NONE && !isWithin(places[i], WORD_COUNT)) return false;
                if (!isWithin(places[i + 1], WORD_COUNT)) return false;
                if (!isWithin(places[i + 2], 2)) return false;
            }
            return true;
        }

        private long mixedInto(long before) {
            if (isMissing()) return 31 * before - 1;
            long h = 31 * before + size;
            for (int i = 0; i < size; i++) h = 31 * h + places[i];
            return h;
        }
    }

    /** What the latest calls told besides their answers. */
    private static final class Told {
        private int asked;
        private long upper;
        private long lower;
        private int latest;
        private final int[] times;

        private Told() {
            lower = 1;
            times = new int[SIZE + 1];
        }

        private int refuse(int finding) {
            latest = finding;
            times[finding]++;
            return FINDING;
        }

        private void share(long over, long under) {
            long a = over;
            long b = under;
            // Euclid's remainders of two longs come to 0 within 100 steps.
            for (int step = 0; step < 100 && b != 0; step++) {
                long rest = a % b;
                a = b;
                b = rest;
            }
            if (a == 0) return;
            upper = over / a;
            lower = under / a;
        }
    }

    /** What was done in a house, from its beginning on. */
    private static final class Deeds {
        private final int[] sort;
        private final int[] doer;
        private final int[] aim;
        private int size;

        private Deeds(int sizeAtFirst) {
            sort = new int[DEED_MOST];
            doer = new int[DEED_MOST];
            aim = new int[DEED_MOST];
            size = sizeAtFirst;
        }

        private boolean isMissing() {
            return size < 0;
        }

        private void add(int newSort, int newDoer, int newAim) {
            if (!isWithin(size, DEED_MOST)) return;
            sort[size] = newSort;
            doer[size] = newDoer;
            aim[size] = newAim;
            size++;
        }

        private void become(Deeds other) {
            size = other.size;
            for (int d = 0; d < size; d++) {
                sort[d] = other.sort[d];
                doer[d] = other.doer[d];
                aim[d] = other.aim[d];
            }
        }
    }

    /** The SPEAKERS, the HOUR and the ORDER as they are now. */
    private static final class House {
        private int speakers;
        private final int[] kind;
        private final int[] words;
        private final int[] firstRoom;
        private final int[] fullBreath;
        private final int[] room;
        private final int[] breath;
        private int hour;
        private int ended;
        private final int[] order;
        private final int[] teller;
        private int size;
        private final Deeds deeds;

        private House() {
            kind = new int[SPEAKER_MOST];
            words = new int[SPEAKER_MOST];
            firstRoom = new int[SPEAKER_MOST];
            fullBreath = new int[SPEAKER_MOST];
            room = new int[SPEAKER_MOST];
            breath = new int[SPEAKER_MOST];
            order = new int[ORDER_MOST];
            teller = new int[ORDER_MOST];
            deeds = new Deeds(0);
        }

        /** Reads a TEXT without a FAULT. */
        private void settle(Row text) {
            speakers = 0;
            for (int p = 0; p + ITEM_SIZE <= text.size && speakers < SPEAKER_MOST; p++) {
                if (text.places[p] == BLANK) continue;
                kind[speakers] = kindOf(text.places[p]);
                words[speakers] = 10 * figure(text, p + 1) + figure(text, p + 2);
                firstRoom[speakers] = figure(text, p + 3);
                fullBreath[speakers] = figure(text, p + 4);
                speakers++;
                p += ITEM_SIZE - 1;
            }
            goBackTo(0);
        }

        private static int figure(Row text, int p) {
            return text.places[p] - FIGURE_0;
        }

        private boolean isFull() {
            return deeds.size >= DEED_MOST;
        }

        private void enact(int sort, int doer, int aim) {
            deeds.add(sort, doer, aim);
            perform(sort, doer, aim);
        }

        private void enactLot(long lot) {
            if (speakers <= 0) return;
            int i = (int) (lot / 8 % speakers);
            int word = (int) (lot / 64 % WORD_COUNT);
            if (can(i, word)) enact(DEED_WORD, i, word);
            else if (size >= LOTS_END_FROM) enact(DEED_END, 0, 0);
            else enact(DEED_HOUR, 0, 0);
        }

        private void perform(int sort, int doer, int aim) {
            switch (sort) {
                case DEED_WORD:
                    push(doer, aim);
                    break;
                case DEED_END:
                    size = 0;
                    ended++;
                    break;
                case DEED_HOUR:
                    hour++;
                    for (int i = 0; i < speakers; i++) breath[i] = fullBreath[i];
                    break;
                default:
                    room[doer] = aim;
                    break;
            }
        }

        /** The first n DEEDS are done anew; those behind are gone. */
        private void goBackTo(int n) {
            hour = 0;
            ended = 0;
            size = 0;
            for (int i = 0; i < speakers; i++) {
                room[i] = firstRoom[i];
                breath[i] = fullBreath[i];
            }
            deeds.size = n;
            for (int d = 0; d < n; d++) perform(deeds.sort[d], deeds.doer[d], deeds.aim[d]);
        }

        private void push(int i, int word) {
            if (size >= ORDER_MOST) return;
            order[size] = word;
            teller[size] = i;
            size++;
            breath[i]--;
        }

        private void pop() {
            if (size <= 0) return;
            size--;
            breath[teller[size]]++;
        }

        private void invite(int guestRoom) {
            if (speakers >= SPEAKER_MOST) return;
            kind[speakers] = VOICE;
            words[speakers] = ALL_WORDS;
            room[speakers] = guestRoom;
            breath[speakers] = GUEST_BREATH;
            speakers++;
        }

        private void dismiss() {
            if (speakers > 0) speakers--;
        }

        private int lastWord() {
            return size > 0 ? order[size - 1] : NONE;
        }

        private boolean can(int i, int word) {
            return isFree(i) && isAble(i, kind[i], lastWord(), word);
        }

        /** By BREATH, ROOM and who spoke last, whatever the WORD. */
        private boolean isFree(int i) {
            if (size >= ORDER_MOST || breath[i] <= 0) return false;
            if (size == 0) return true;
            int last = teller[size - 1];
            return last != i && Math.abs(room[last] - room[i]) <= 1;
        }

        /** By WORDS and HOUR, as one of some KIND, whatever BREATH and ROOMS are. */
        private boolean isAble(int i, int asKind, int last, int word) {
            boolean has = (words[i] >> word & 1) != 0;
            switch (asKind) {
                case PARROT: return has || word == last;
                case STAIR: return has && hour % 2 == 0;
                case NEPHEW: return has && last != NONE;
                case MAID: return has && last != NONE && word % 2 == 1;
                case CAGE: return has || last != NONE && (word == last || word == (last + 1) % WORD_COUNT);
                default: return has;
            }
        }

        private int sayable(int i) {
            int set = 0;
            for (int word = 0; word < WORD_COUNT; word++) {
                if (can(i, word)) set |= 1 << word;
            }
            return set;
        }

        private int sayableByAny() {
            int set = 0;
            for (int i = 0; i < speakers; i++) set |= sayable(i);
            return set;
        }

        private boolean isSilenced() {
            for (int i = 0; i < speakers; i++) {
                if (sayable(i) != 0) return false;
            }
            return true;
        }

        private int echoesOf(int i) {
            int echoes = 0;
            for (int word = 0; word < WORD_COUNT; word++) {
                boolean has = (words[i] >> word & 1) != 0;
                if (!has && isAble(i, kind[i], lastWord(), word)) echoes++;
            }
            return echoes;
        }

        private int othersWhoCan(int i) {
            int others = 0;
            for (int k = 0; k < speakers; k++) {
                if (k != i && sayable(k) != 0) others++;
            }
            return others;
        }

        private int othersInRoom(int i) {
            int others = 0;
            for (int k = 0; k < speakers; k++) {
                if (k != i && room[k] == room[i]) others++;
            }
            return others;
        }

        private int saidBy(int i) {
            int said = 0;
            for (int k = 0; k < size; k++) {
                if (teller[k] == i) said++;
            }
            return said;
        }

        private int factOf(int i, int what) {
            switch (what) {
                case 0: return kind[i];
                case 1: return words[i];
                case 2: return room[i];
                case 3: return fullBreath[i];
                case 4: return breath[i];
                default: return saidBy(i);
            }
        }

        private int allSpeakers() {
            return (1 << speakers) - 1;
        }

        private int breathLeft() {
            int left = 0;
            for (int i = 0; i < speakers; i++) left += breath[i];
            return left;
        }

        private int parrots() {
            int parrots = 0;
            for (int i = 0; i < speakers; i++) {
                if (isOf(kind[i], PARROT)) parrots++;
            }
            return parrots;
        }

        private long mixedInto(long before) {
            long h = before;
            for (int k = 0; k < size; k++) h = 31 * (31 * h + order[k]) + teller[k];
            for (int i = 0; i < speakers; i++) {
                for (int what = 0; what < SPEAKER_WHATS; what++) h = 31 * h + factOf(i, what);
            }
            return h;
        }
    }

    /** Goes through all WAYS of a ROW once and holds what is asked of them. */
    private static final class Ways {
        private final House house;
        private final int[] words;
        /** The ROOM in which each WORD was heard, or NONE. */
        private final int[] rooms;
        private int length;
        private final int[] way;
        /** How many WAYS there are of the first 0, 1, .. WORDS. */
        private final int[] waysOf;
        /** By the set of those who spoke: how many WORDS they came to, or NONE. */
        private final int[] reach;
        private final int[] fewestWay;
        private int fewest;
        private int opener;
        private int all;
        private int any;
        private int guest;
        private int guestWords;

        private Ways(House house) {
            this.house = house;
            words = new int[WAY_MOST];
            rooms = new int[WAY_MOST];
            way = new int[WAY_MOST];
            waysOf = new int[WAY_MOST + 1];
            reach = new int[1 << SPEAKER_MOST];
            fewestWay = new int[WAY_MOST];
        }

        /** With a SPEAKER who is a guest, whose WORDS are told, or NONE. */
        private void runWords(Row row, int guestIndex) {
            length = Math.max(0, Math.min(row.size, WAY_MOST));
            for (int k = 0; k < length; k++) {
                words[k] = row.places[k];
                rooms[k] = NONE;
            }
            clear(guestIndex);
            goOn(0, 0);
        }

        private void runPairs(Row row) {
            length = Math.max(0, Math.min(row.size / 2, WAY_MOST));
            for (int k = 0; k < length; k++) {
                words[k] = row.places[2 * k];
                rooms[k] = row.places[2 * k + 1];
            }
            clear(NONE);
            goOn(0, 0);
        }

        private void clear(int guestIndex) {
            guest = guestIndex;
            for (int k = 0; k <= WAY_MOST; k++) waysOf[k] = 0;
            for (int set = 0; set < reach.length; set++) reach[set] = NONE;
            fewest = NONE;
            opener = NONE;
            all = -1;
            any = 0;
            guestWords = NONE;
        }

        private void goOn(int depth, int used) {
            waysOf[depth]++;
            reach[used] = Math.max(reach[used], depth);
            if (depth >= length) {
                finish(used);
                return;
            }
            for (int i = 0; i < house.speakers; i++) {
                if (rooms[depth] != NONE && rooms[depth] != house.room[i]) continue;
                if (!house.can(i, words[depth])) continue;
                way[depth] = i;
                house.push(i, words[depth]);
                goOn(depth + 1, used | 1 << i);
                house.pop();
            }
        }

        private void finish(int used) {
            if (waysOf[length] == 1 && length > 0) opener = way[0];
            all &= used;
            any |= used;
            int speakers = Integer.bitCount(used);
            if (fewest == NONE || speakers < fewest) {
                fewest = speakers;
                for (int k = 0; k < length; k++) fewestWay[k] = way[k];
            }
            if (guest != NONE) weighGuest();
        }

        private void weighGuest() {
            int set = 0;
            for (int k = 0; k < length; k++) {
                if (way[k] == guest) set |= 1 << words[k];
            }
            if (guestWords == NONE || isLess(set, guestWords)) guestWords = set;
        }

        private static boolean isLess(int set, int other) {
            int words = Integer.bitCount(set);
            int otherWords = Integer.bitCount(other);
            return words < otherWords || words == otherWords && set < other;
        }

        private int fullWays() {
            return waysOf[length];
        }

        private int inAll() {
            return fullWays() == 0 ? 0 : all;
        }

        private int farthest() {
            int words = 0;
            for (int k = 1; k <= length; k++) {
                if (waysOf[k] > 0) words = k;
            }
            return words;
        }

        /** Of all sets of SPEAKERS that are not silent, in parts of 12 for each SPEAKER. */
        private long weightOfAny() {
            long weight = 1;
            for (int i = 0; i < house.speakers; i++) weight *= TWELFTHS;
            return weight;
        }

        private long weightOfFull(int silent) {
            spreadReach();
            long sum = 0;
            for (int set = 0; set <= house.allSpeakers(); set++) {
                if (reach[set] == length) sum += weightOf(set, silent);
            }
            return sum;
        }

        private long weightOfWords(int silent) {
            spreadReach();
            long sum = 0;
            for (int set = 0; set <= house.allSpeakers(); set++) sum += reach[set] * weightOf(set, silent);
            return sum;
        }

        /** What a set comes to, a larger one comes to, too. */
        private void spreadReach() {
            for (int i = 0; i < house.speakers; i++) {
                for (int set = 0; set < reach.length; set++) {
                    reach[set] = Math.max(reach[set], reach[set & ~(1 << i)]);
                }
            }
        }

        private long weightOf(int set, int silent) {
            long weight = 1;
            for (int i = 0; i < house.speakers; i++) {
                weight *= (set >> i & 1) == 0 ? silent : TWELFTHS - silent;
            }
            return weight;
        }
    }

    /** Tries rows of WORDS behind the ORDER, and compares it with one. */
    private static final class Trials {
        private final House house;
        private final int[] words;
        private final int[] best;
        private int bestLength;
        private final int[] costs;

        private Trials(House house) {
            this.house = house;
            words = new int[LONGEST_MOST];
            best = new int[LONGEST_MOST];
            costs = new int[ORDER_MOST + 1];
        }

        /** The first row of n WORDS without a WAY, as a number to the base of 6; NONE. */
        private int firstDumb(int n) {
            int rows = 1;
            for (int k = 0; k < n; k++) rows *= WORD_COUNT;
            for (int number = 0; number < rows; number++) {
                int rest = number;
                for (int k = n - 1; k >= 0; k--) {
                    words[k] = rest % WORD_COUNT;
                    rest /= WORD_COUNT;
                }
                if (!hasWay(0, n)) return number;
            }
            return NONE;
        }

        private boolean hasWay(int depth, int n) {
            if (depth >= n) return true;
            for (int i = 0; i < house.speakers; i++) {
                if (!house.can(i, words[depth])) continue;
                house.push(i, words[depth]);
                boolean found = hasWay(depth + 1, n);
                house.pop();
                if (found) return true;
            }
            return false;
        }

        private void seekLongest() {
            bestLength = 0;
            lengthen(0, freeTurns(0));
        }

        /** How many can speak in turn, whatever the WORDS: no row is longer, so none needs to be tried. */
        private int freeTurns(int depth) {
            int most = depth;
            for (int i = 0; i < house.speakers && depth < LONGEST_MOST && most < LONGEST_MOST; i++) {
                if (!house.isFree(i)) continue;
                house.push(i, 0);
                most = Math.max(most, freeTurns(depth + 1));
                house.pop();
            }
            return most;
        }

        private void lengthen(int depth, int most) {
            if (depth >= most || depth >= LONGEST_MOST) return;
            for (int word = 0; word < WORD_COUNT && bestLength < most; word++) {
                words[depth] = word;
                if (!hasWay(0, depth + 1)) continue;
                if (depth + 1 > bestLength) keepBest(depth + 1);
                lengthen(depth + 1, most);
            }
        }

        private void keepBest(int n) {
            bestLength = n;
            for (int k = 0; k < n; k++) best[k] = words[k];
        }

        /** Costs are those of the whole ORDER so far against the first WORDS of the row. */
        private int distanceTo(Row row) {
            int n = Math.max(0, Math.min(row.size, ORDER_MOST));
            for (int j = 0; j <= n; j++) costs[j] = j;
            for (int k = 0; k < house.size; k++) {
                int slant = costs[0];
                costs[0] = k + 1;
                for (int j = 1; j <= n; j++) {
                    int changed = slant + (house.order[k] == row.places[j - 1] ? 0 : 1);
                    slant = costs[j];
                    costs[j] = Math.min(changed, 1 + Math.min(costs[j], costs[j - 1]));
                }
            }
            return costs[n];
        }
    }
}
