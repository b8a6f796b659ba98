import java.util.Arrays;

/**
 * A laundry of quarrels: sayings of who to whom that answer others, said, unsaid and undone,
 * as ../shared/DOC.md promises it by numbers. README.md tells how the parts are laid out.
 */
public final class IronedQuarrels {
    public static final int BAD = -1, FULL = -2, FINDING = -3, STATE = -4, SPENT = -6, NONE = -9;

    private static final int NOTHING = 1, BEYOND = 2, UNLIKE = 3, NOUGHT = 4, SIZE = 5;
    private static final int FINDINGS = 5;
    private static final int ROWS = 6, ROW_PLACES = 40;
    private static final int TEXTS = 4, TEXT_BYTES = 80, BLANK = 32;
    private static final int KEPT_PLACES = 3;
    private static final int PERSONS = 6, TOPICS = 6, MOST_WEIGHT = 9;
    private static final int MOST_SAYINGS = 12, MOST_DEEDS = 40, MOST_HEARINGS = 20;
    private static final int OLD = 1, STAIN = 2, PRIDE = 3, SORRY = 4, COLOUR = 5, KINDS = 6;
    private static final int FACTS = 8, COUNTS = 9;
    private static final int MISSING = -1;
    private static final int GRANTED = 0;
    private static final long LOT_FACTOR = 48271L, LOT_MODULUS = 2147483647L;

    private final Shelf rows = new Shelf(ROWS, ROW_PLACES);
    private final Shelf texts = new Shelf(TEXTS, TEXT_BYTES);
    private final Heap heap = new Heap();
    /** What a TEXT is read into, so that a FAULT leaves the HEAP as it is. */
    private final Heap draft = new Heap();
    private final Heap[] kept = new Heap[KEPT_PLACES];
    private final Ironing ironing = new Ironing();
    private final Company company = new Company();
    private final Share share = new Share();
    private final Tally tally = new Tally();
    private int lastTold = 0;

    public IronedQuarrels() {
    }

    // ---- 1 rows, texts, heaps

    public int row(int r, int n) {
        if (!rows.hasNumber(r) || n > ROW_PLACES) {
            return BAD;
        }
        if (n < 0) {
            return tally.note(SIZE);
        }
        rows.makeAnew(r, n, 0);
        return n;
    }

    public int lay(int r, int i, int v) {
        int refusal = refusalOfPlace(rows, r, i);
        if (refusal != GRANTED) {
            return refusal;
        }
        lastTold = rows.cell(r, i);
        rows.setCell(r, i, v);
        return 1;
    }

    public int at(int r, int i) {
        int refusal = refusalOfPlace(rows, r, i);
        if (refusal != GRANTED) {
            return refusal;
        }
        lastTold = rows.cell(r, i);
        return 1;
    }

    public int tear(int r) {
        int refusal = refusalOfShelf(rows, r);
        if (refusal != GRANTED) {
            return refusal;
        }
        rows.drop(r);
        return 1;
    }

    public int copy(int r, int i, int to, int j, int n) {
        if (!rows.hasNumber(r) || !rows.hasNumber(to)) {
            return BAD;
        }
        if (n < 0) {
            return tally.note(SIZE);
        }
        if (!rows.isThere(r) || !rows.isThere(to)) {
            return tally.note(NOTHING);
        }
        if (!rows.reaches(r, i, n) || !rows.reaches(to, j, n)) {
            return tally.note(BEYOND);
        }
        rows.move(r, i, to, j, n);
        return 1;
    }

    public int mean(int r) {
        int refusal = refusalOfShelf(rows, r);
        if (refusal != GRANTED) {
            return refusal;
        }
        int size = rows.sizeOf(r);
        if (size <= 0) {
            return tally.note(NOUGHT);
        }
        lastTold = (int) (rows.sumOf(r) / size);
        return 1;
    }

    public int text(int t, int n) {
        if (!texts.hasNumber(t) || n > TEXT_BYTES) {
            return BAD;
        }
        if (n < 0) {
            return tally.note(SIZE);
        }
        texts.makeAnew(t, n, BLANK);
        return n;
    }

    public int put(int t, int i, int v) {
        int refusal = refusalOfPlace(texts, t, i);
        if (refusal != GRANTED) {
            return refusal;
        }
        int old = texts.cell(t, i);
        texts.setCell(t, i, (byte) v);
        return old + 1000;
    }

    public int fault(int t) {
        int refusal = refusalOfShelf(texts, t);
        if (refusal != GRANTED) {
            return refusal;
        }
        return Reader.readInto(draft, texts, t);
    }

    public int heap(int t) {
        int refusal = refusalOfShelf(texts, t);
        if (refusal != GRANTED) {
            return refusal;
        }
        if (Reader.readInto(draft, texts, t) != NONE) {
            return STATE;
        }
        heap.becomeLike(draft);
        for (int k = 0; k < KEPT_PLACES; k++) {
            kept[k] = null;
        }
        return heap.howMany();
    }

    public int saying(int i, int what) {
        if (!heap.hasNumber(i) || what < 0 || what >= FACTS) {
            return BAD;
        }
        lastTold = heap.fact(i, what);
        return 1;
    }

    public int mark(int i, int kind) {
        if (!heap.hasNumber(i) || kind <= 0 || kind >= KINDS) {
            return BAD;
        }
        if (!heap.isOf(i, kind)) {
            return tally.note(UNLIKE);
        }
        switch (kind) {
            case OLD:
                return Integer.bitCount(heap.others(i) & bitsBelow(i));
            case STAIN:
                return Integer.bitCount(company.suspects(heap, i));
            case PRIDE:
                return heap.priceNow(i) - heap.heatNow(i) - heap.weightOf(i) + 100;
            case SORRY:
                return Integer.bitCount(heap.answerers(i) & heap.saidBits());
            default:
                return heap.alikeInBundle(i);
        }
    }

    // ---- 2 deeds

    public int say(int kind, int told, int weight, int answers) {
        boolean answersOne = heap.hasNumber(answers);
        if (kind < 0 || kind >= KINDS || weight < 1 || weight > MOST_WEIGHT || !answersOne && answers != NONE) {
            return BAD;
        }
        int who = told / 100;
        int toWhom = told / 10 % 10;
        int topic = told % 10;
        if (told < 0 || who >= PERSONS || toWhom >= PERSONS || who == toWhom || topic >= TOPICS) {
            return BAD;
        }
        if (heap.isFull() || heap.deedsAreFull()) {
            return FULL;
        }
        heap.add(kind, who, toWhom, topic, weight, answers);
        heap.noteComing();
        return heap.howMany() - 1;
    }

    public int unsay(int i) {
        if (!heap.hasNumber(i)) {
            return BAD;
        }
        if (!heap.mayGo(i, heap.saidBits())) {
            return STATE;
        }
        if (heap.deedsAreFull()) {
            return FULL;
        }
        return heap.takeBack(i);
    }

    public int undo(int n) {
        int deeds = heap.howManyDeeds();
        if (n < 0 || n > deeds) {
            return BAD;
        }
        heap.undoFrom(n);
        return deeds - n;
    }

    public int said() {
        lastTold = heap.freeAmong(heap.saidBits());
        return heap.saidBits();
    }

    public int keep(int k) {
        if (k < 0 || k >= KEPT_PLACES) {
            return BAD;
        }
        if (heap.howMany() == 0) {
            return STATE;
        }
        Heap place = kept[k];
        if (place == null) {
            place = new Heap();
            kept[k] = place;
        }
        place.becomeLike(heap);
        return heap.howManyDeeds();
    }

    public int on(int k) {
        if (k < 0 || k >= KEPT_PLACES) {
            return BAD;
        }
        Heap place = kept[k];
        if (place == null) {
            return tally.note(NOTHING);
        }
        heap.becomeLike(place);
        return heap.howManyDeeds();
    }

    // ---- 3 what leans on what

    public int leans(int i) {
        if (!heap.hasNumber(i)) {
            return BAD;
        }
        return heap.leanedOn(i);
    }

    public int feeds(int i) {
        if (!heap.hasNumber(i)) {
            return BAD;
        }
        return heap.leaningOn(i);
    }

    public int first(int i) {
        if (!heap.hasNumber(i)) {
            return BAD;
        }
        lastTold = Integer.bitCount(heap.leanedOn(i));
        return heap.beginningOf(i);
    }

    public int bundles() {
        lastTold = heap.beginningsOfSaid();
        return Integer.bitCount(lastTold);
    }

    public int longest(int r) {
        if (!rows.hasNumber(r)) {
            return BAD;
        }
        int end = heap.deepest();
        if (end == NONE) {
            rows.makeAnew(r, 0, 0);
            return 0;
        }
        int chain = heap.leanedOn(end) | bit(end);
        int length = Integer.bitCount(chain);
        rows.makeAnew(r, length, 0);
        // what a SAYING ANSWERS has a lesser number, so a chain goes up by numbers
        for (int place = 0; place < length; place++) {
            rows.setCell(r, place, numberAt(chain, place));
        }
        return length;
    }

    // ---- 4 orders

    public int cheapest(int r) {
        if (!rows.hasNumber(r)) {
            return BAD;
        }
        int cost = ironing.weigh(heap);
        ironing.writeCheapest(heap, rows, r);
        return cost;
    }

    public int orders() {
        share.tell(ironing.howManyOrders(heap), 1);
        return 1;
    }

    public int judge(int r) {
        int refusal = refusalOfShelf(rows, r);
        if (refusal != GRANTED) {
            return refusal;
        }
        int size = rows.sizeOf(r);
        for (int place = 0; place < size; place++) {
            if (!heap.hasNumber(rows.cell(r, place))) {
                return tally.note(UNLIKE);
            }
        }
        int left = heap.saidBits();
        int cost = 0;
        int gone = 0;
        while (gone < size && heap.mayGo(rows.cell(r, gone), left)) {
            int i = rows.cell(r, gone);
            cost += heap.priceAmong(i, left);
            left &= ~bit(i);
            gone++;
        }
        lastTold = gone;
        return gone == size && left == 0 ? cost : NONE;
    }

    public int last(int i) {
        if (!heap.hasNumber(i)) {
            return BAD;
        }
        if (!heap.isSaid(i)) {
            return STATE;
        }
        // of what has to go ahead of something it is never the last; else its
        // tree ends last as often as the tree is large, and ends with it
        int tree = heap.hasToGoAhead(i) ? 0 : Integer.bitCount(heap.hasToGoWith(bit(i)));
        share.tell(tree, Integer.bitCount(heap.saidBits()));
        return 1;
    }

    // ---- 5 between persons

    public int end(int p, int q) {
        if (!company.hasNumber(p) || !company.hasNumber(q) || p == q) {
            return BAD;
        }
        int bits = heap.hasToGoWith(heap.between(p, q) & heap.saidBits());
        lastTold = Integer.bitCount(bits);
        return bits;
    }

    public int rings() {
        lastTold = Integer.bitCount(heap.personsOfSaid());
        return company.inRings(heap, 0);
    }

    public int away() {
        lastTold = company.fewestAway(heap);
        return Integer.bitCount(lastTold);
    }

    public int whose(int i) {
        if (!heap.hasNumber(i)) {
            return BAD;
        }
        if (!heap.isOf(i, STAIN)) {
            return tally.note(UNLIKE);
        }
        return company.suspects(heap, i);
    }

    public int wash() {
        int pairs = 0;
        for (int p = 0; p < PERSONS; p++) {
            for (int q = p + 1; q < PERSONS; q++) {
                pairs += Math.min(heap.saidBeginnings(p, q), heap.saidBeginnings(q, p));
            }
        }
        return pairs;
    }

    public int bill(int p) {
        if (!company.hasNumber(p)) {
            return BAD;
        }
        int bits = heap.saidBits();
        if (bits == 0) {
            return tally.note(NOUGHT);
        }
        share.tell(heap.pricesOf(bits & heap.begunBy(p)), heap.pricesOf(bits));
        return 1;
    }

    // ---- 6 colours, lots

    public int colour(int i, int n) {
        if (!heap.hasNumber(i) || n < 0 || n > MOST_HEARINGS) {
            return BAD;
        }
        int step = Integer.bitCount(heap.answerers(i) & heap.saidBits());
        if (heap.isOf(i, COLOUR)) {
            step += 2;
        }
        return (heap.topicOf(i) + n * step) % TOPICS;
    }

    public int lots(int n, int seed) {
        if (n < 1 || n > MOST_SAYINGS || seed < 1 || seed >= LOT_MODULUS) {
            return BAD;
        }
        long lot = seed;
        int prices = 0;
        for (int turn = 0; turn < n; turn++) {
            int free = heap.freeAmong(heap.saidBits());
            if (free == 0 || heap.deedsAreFull()) {
                break;
            }
            lot = lot * LOT_FACTOR % LOT_MODULUS;
            prices += heap.takeBack(numberAt(free, (int) (lot % Integer.bitCount(free))));
        }
        return prices;
    }

    // ---- 7 what is told

    public int asked() {
        return lastTold;
    }

    public long upper() {
        return share.top();
    }

    public long lower() {
        return share.bottom();
    }

    public int count(int what) {
        switch (what) {
            case 0:
                return heap.howMany();
            case 1:
                return Integer.bitCount(heap.saidBits());
            case 2:
                return heap.howManyDeeds();
            case 3:
                return heap.pricesOf(heap.saidBits());
            case 4:
                return Integer.bitCount(heap.beginners());
            case 5:
                return heap.howManyOf(OLD);
            case 6:
                return rows.howManyThere();
            case 7:
                return texts.howManyThere();
            case 8:
                return howManyKept();
            default:
                return BAD;
        }
    }

    public int finding() {
        return tally.latest();
    }

    public int findings(int f) {
        if (f < 1 || f > FINDINGS) {
            return BAD;
        }
        return tally.howOften(f);
    }

    public long digest() {
        long h = 17;
        for (int what = 0; what < COUNTS; what++) {
            h = 31 * h + count(what);
        }
        for (int i = 0; i < heap.howMany(); i++) {
            for (int what = 0; what < FACTS; what++) {
                h = 31 * h + heap.fact(i, what);
            }
        }
        for (int k = 0; k < KEPT_PLACES; k++) {
            Heap place = kept[k];
            h = 31 * h + (place == null ? MISSING : place.howManyDeeds());
        }
        return texts.digestFrom(rows.digestFrom(h));
    }

    // ---- helpers

    private int refusalOfShelf(Shelf shelf, int number) {
        if (!shelf.hasNumber(number)) {
            return BAD;
        }
        return shelf.isThere(number) ? GRANTED : tally.note(NOTHING);
    }

    private int refusalOfPlace(Shelf shelf, int number, int place) {
        int refusal = refusalOfShelf(shelf, number);
        if (refusal != GRANTED) {
            return refusal;
        }
        return shelf.hasPlace(number, place) ? GRANTED : tally.note(BEYOND);
    }

    private int howManyKept() {
        int found = 0;
        for (int k = 0; k < KEPT_PLACES; k++) {
            if (kept[k] != null) {
                found++;
            }
        }
        return found;
    }

    private static int bit(int i) {
        return 1 << i;
    }

    private static boolean hasBit(int bits, int i) {
        return (bits >> i & 1) != 0;
    }

    private static int bitsBelow(int i) {
        return bit(i) - 1;
    }

    /** The number of the bit that has so many set bits below it; NONE if there are not so many. */
    private static int numberAt(int bits, int place) {
        int ahead = 0;
        for (int i = 0; i < MOST_SAYINGS; i++) {
            if (hasBit(bits, i)) {
                if (ahead == place) {
                    return i;
                }
                ahead++;
            }
        }
        return NONE;
    }

    /** ROWS or TEXTS: each one missing, or of a size with its numbers. */
    private static final class Shelf {
        private final int width;
        private final int[] sizes;
        private final int[] cells;

        Shelf(int number, int width) {
            this.width = width;
            sizes = new int[number];
            cells = new int[number * width];
            Arrays.fill(sizes, MISSING);
        }

        boolean hasNumber(int r) {
            return r >= 0 && r < sizes.length;
        }

        boolean isThere(int r) {
            return sizes[r] != MISSING;
        }

        boolean hasPlace(int r, int i) {
            return i >= 0 && i < sizes[r];
        }

        boolean reaches(int r, int from, int n) {
            // taken off the size, as a sum could wrap around
            return from >= 0 && from <= sizes[r] && n <= sizes[r] - from;
        }

        int sizeOf(int r) {
            return sizes[r];
        }

        int cell(int r, int i) {
            return cells[r * width + i];
        }

        void setCell(int r, int i, int v) {
            cells[r * width + i] = v;
        }

        void makeAnew(int r, int n, int v) {
            sizes[r] = n;
            Arrays.fill(cells, r * width, r * width + n, v);
        }

        void drop(int r) {
            sizes[r] = MISSING;
        }

        void move(int r, int i, int to, int j, int n) {
            System.arraycopy(cells, r * width + i, cells, to * width + j, n);
        }

        long sumOf(int r) {
            long sum = 0;
            for (int i = 0; i < sizes[r]; i++) {
                sum += cell(r, i);
            }
            return sum;
        }

        int howManyThere() {
            int found = 0;
            for (int r = 0; r < sizes.length; r++) {
                if (isThere(r)) {
                    found++;
                }
            }
            return found;
        }

        long digestFrom(long start) {
            long h = start;
            for (int r = 0; r < sizes.length; r++) {
                h = 31 * h + sizes[r];
                for (int i = 0; i < sizes[r]; i++) {
                    h = 31 * h + cell(r, i);
                }
            }
            return h;
        }
    }

    /** Reads a TEXT as items of six signs: letter, WHO, TO WHOM, TOPIC, WEIGHT, what it ANSWERS. */
    private static final class Reader {
        private static final String LETTERS = "sotpyc";
        private static final int ITEM_SIGNS = 6;
        /** Stands behind a TEXT's end; no byte is it, so the end is the FAULT of whatever is due there. */
        private static final int NO_SIGN = 1000;

        private Reader() {
        }

        /** Fills a HEAP anew from a TEXT and answers NONE, or the TEXT's FAULT. */
        static int readInto(Heap into, Shelf texts, int t) {
            into.empty();
            int size = texts.sizeOf(t);
            int place = 0;
            while (place < size) {
                if (texts.cell(t, place) == BLANK) {
                    place++;
                    continue;
                }
                int fault = readItem(into, texts, t, place);
                if (fault != NONE) {
                    return fault;
                }
                place += ITEM_SIGNS;
            }
            return NONE;
        }

        private static int readItem(Heap into, Shelf texts, int t, int place) {
            int kind = LETTERS.length() - 1;
            while (kind >= 0 && LETTERS.charAt(kind) != signAt(texts, t, place)) {
                kind--;
            }
            if (kind < 0 || into.isFull()) {
                return place;
            }
            int who = figureAt(texts, t, place + 1);
            if (who < 0 || who >= PERSONS) {
                return place + 1;
            }
            int toWhom = figureAt(texts, t, place + 2);
            if (toWhom < 0 || toWhom >= PERSONS || toWhom == who) {
                return place + 2;
            }
            int topic = figureAt(texts, t, place + 3);
            if (topic < 0 || topic >= TOPICS) {
                return place + 3;
            }
            int weight = figureAt(texts, t, place + 4);
            if (weight < 1 || weight > MOST_WEIGHT) {
                return place + 4;
            }
            int sign = signAt(texts, t, place + 5);
            if (sign != '-' && !into.hasNumber(sign - 'A')) {
                return place + 5;
            }
            into.add(kind, who, toWhom, topic, weight, sign == '-' ? NONE : sign - 'A');
            return NONE;
        }

        private static int figureAt(Shelf texts, int t, int place) {
            int figure = signAt(texts, t, place) - '0';
            return figure >= 0 && figure <= 9 ? figure : BAD;
        }

        private static int signAt(Shelf texts, int t, int place) {
            return texts.hasPlace(t, place) ? texts.cell(t, place) : NO_SIGN;
        }
    }

    /** The SAYINGS, which of them are SAID, and the DEEDS; sets of them are bits. */
    private static final class Heap {
        private static final int KIND = 0, WHO = 1, TO_WHOM = 2, TOPIC = 3, WEIGHT = 4, ANSWERS = 5, SAID = 6;
        /** A DEED that is a SAYING that came; any other is the number of one that was UNSAID. */
        private static final int CAME = -1;

        private final int[] kinds = new int[MOST_SAYINGS];
        private final int[] whos = new int[MOST_SAYINGS];
        private final int[] toWhoms = new int[MOST_SAYINGS];
        private final int[] topics = new int[MOST_SAYINGS];
        private final int[] weights = new int[MOST_SAYINGS];
        private final int[] answered = new int[MOST_SAYINGS];
        private final int[] deeds = new int[MOST_DEEDS];
        private int size = 0;
        private int saidBits = 0;
        private int deedCount = 0;

        void empty() {
            size = 0;
            saidBits = 0;
            deedCount = 0;
        }

        void becomeLike(Heap other) {
            System.arraycopy(other.kinds, 0, kinds, 0, MOST_SAYINGS);
            System.arraycopy(other.whos, 0, whos, 0, MOST_SAYINGS);
            System.arraycopy(other.toWhoms, 0, toWhoms, 0, MOST_SAYINGS);
            System.arraycopy(other.topics, 0, topics, 0, MOST_SAYINGS);
            System.arraycopy(other.weights, 0, weights, 0, MOST_SAYINGS);
            System.arraycopy(other.answered, 0, answered, 0, MOST_SAYINGS);
            System.arraycopy(other.deeds, 0, deeds, 0, MOST_DEEDS);
            size = other.size;
            saidBits = other.saidBits;
            deedCount = other.deedCount;
        }

        /** A SAYING comes, SAID, unless the HEAP is full; answers is NONE or a lesser number. */
        void add(int kind, int who, int toWhom, int topic, int weight, int answers) {
            if (isFull()) {
                return;
            }
            kinds[size] = kind;
            whos[size] = who;
            toWhoms[size] = toWhom;
            topics[size] = topic;
            weights[size] = weight;
            answered[size] = answers;
            saidBits |= bit(size);
            size++;
        }

        boolean isFull() {
            return size >= MOST_SAYINGS;
        }

        boolean deedsAreFull() {
            return deedCount >= MOST_DEEDS;
        }

        boolean hasNumber(int i) {
            return i >= 0 && i < size;
        }

        int howMany() {
            return size;
        }

        int howManyDeeds() {
            return deedCount;
        }

        int saidBits() {
            return saidBits;
        }

        boolean isSaid(int i) {
            return hasBit(saidBits, i);
        }

        boolean isOf(int i, int kind) {
            int own = kinds[i];
            return own == kind || kind == OLD && own == COLOUR || kind == PRIDE && own == SORRY;
        }

        int fact(int i, int what) {
            switch (what) {
                case KIND:
                    return kinds[i];
                case WHO:
                    return whos[i];
                case TO_WHOM:
                    return toWhoms[i];
                case TOPIC:
                    return topics[i];
                case WEIGHT:
                    return weights[i];
                case ANSWERS:
                    return answered[i];
                case SAID:
                    return isSaid(i) ? 1 : 0;
                default:
                    return priceNow(i);
            }
        }

        int whoOf(int i) {
            return whos[i];
        }

        int toWhomOf(int i) {
            return toWhoms[i];
        }

        int topicOf(int i) {
            return topics[i];
        }

        int weightOf(int i) {
            return weights[i];
        }

        /** The number of the SAYING that one ANSWERS, or NONE. */
        int answeredBy(int i) {
            return answered[i];
        }

        // ---- deeds

        void noteComing() {
            noteDeed(CAME);
        }

        /** One is UNSAID, as a DEED: its PRICE then. */
        int takeBack(int i) {
            if (!hasNumber(i)) {
                return 0;
            }
            int price = priceNow(i);
            saidBits &= ~bit(i);
            noteDeed(i);
            return price;
        }

        private void noteDeed(int deed) {
            if (!deedsAreFull()) {
                deeds[deedCount] = deed;
                deedCount++;
            }
        }

        void undoFrom(int n) {
            for (int d = deedCount - 1; d >= n; d--) {
                if (deeds[d] == CAME) {
                    size--;
                    saidBits &= ~bit(size);
                } else {
                    saidBits |= bit(deeds[d]);
                }
            }
            deedCount = n;
        }

        // ---- prices

        int between(int p, int q) {
            int bits = 0;
            for (int i = 0; i < size; i++) {
                if (whos[i] == p && toWhoms[i] == q || whos[i] == q && toWhoms[i] == p) {
                    bits |= bit(i);
                }
            }
            return bits;
        }

        /** All others, SAID or not, BETWEEN the two of one. */
        int others(int i) {
            return between(whos[i], toWhoms[i]) & ~bit(i);
        }

        int heatNow(int i) {
            return Integer.bitCount(others(i) & saidBits);
        }

        int priceNow(int i) {
            return priceAmong(i, saidBits);
        }

        /** The PRICE of one, if these were those that are SAID. */
        int priceAmong(int i, int bits) {
            return priceAtHeat(i, Integer.bitCount(others(i) & bits));
        }

        int priceAtHeat(int i, int heat) {
            switch (kinds[i]) {
                case OLD:
                    return heat + 1;
                case COLOUR:
                    return heat + 1 + topics[i];
                case PRIDE:
                    return heat + 2 * weights[i];
                case SORRY:
                    return (heat + 2 * weights[i]) / 2;
                default:
                    return heat + weights[i];
            }
        }

        int pricesOf(int bits) {
            int sum = 0;
            for (int i = 0; i < size; i++) {
                if (hasBit(bits, i)) {
                    sum += priceAmong(i, saidBits);
                }
            }
            return sum;
        }

        // ---- what may go, and what has to go ahead

        /** Those, SAID or not, that ANSWER one. */
        int answerers(int i) {
            int bits = 0;
            for (int j = i + 1; j < size; j++) {
                if (answered[j] == i) {
                    bits |= bit(j);
                }
            }
            return bits;
        }

        /** Those that hold one back while they are SAID. */
        int holders(int i) {
            return kinds[i] == SORRY ? 0 : answerers(i);
        }

        boolean mayGo(int i, int bits) {
            return hasBit(bits, i) && (holders(i) & bits) == 0;
        }

        int freeAmong(int bits) {
            int free = 0;
            for (int i = 0; i < size; i++) {
                if (mayGo(i, bits)) {
                    free |= bit(i);
                }
            }
            return free;
        }

        /** Whether one holds back another that is SAID. */
        boolean hasToGoAhead(int i) {
            int parent = answered[i];
            return hasNumber(parent) && isSaid(parent) && kinds[parent] != SORRY;
        }

        /** These, and all that is SAID and has to be UNSAID ahead of them. */
        int hasToGoWith(int these) {
            int bits = these;
            // one pass does: what a SAYING ANSWERS has a lesser number
            for (int i = 0; i < size; i++) {
                if (isSaid(i) && hasToGoAhead(i) && hasBit(bits, answered[i])) {
                    bits |= bit(i);
                }
            }
            return bits;
        }

        // ---- leaning, bundles

        int leanedOn(int i) {
            int bits = 0;
            int parent = answered[i];
            for (int step = 0; step < MOST_SAYINGS && hasNumber(parent); step++) {
                bits |= bit(parent);
                parent = answered[parent];
            }
            return bits;
        }

        int leaningOn(int i) {
            int bits = 0;
            for (int j = i + 1; j < size; j++) {
                if (hasBit(leanedOn(j), i)) {
                    bits |= bit(j);
                }
            }
            return bits;
        }

        int beginningOf(int i) {
            int chain = leanedOn(i);
            return chain == 0 ? i : numberAt(chain, 0);
        }

        boolean isBeginning(int i) {
            return !hasNumber(answered[i]);
        }

        int beginningsOfSaid() {
            int bits = 0;
            for (int i = 0; i < size; i++) {
                if (isSaid(i)) {
                    bits |= bit(beginningOf(i));
                }
            }
            return bits;
        }

        int alikeInBundle(int i) {
            int beginning = beginningOf(i);
            int found = 0;
            for (int j = 0; j < size; j++) {
                if (beginningOf(j) == beginning && topics[j] == topics[i]) {
                    found++;
                }
            }
            return found;
        }

        /** The least of those that LEAN on most; NONE, if there are none. */
        int deepest() {
            int found = NONE;
            int most = -1;
            for (int i = 0; i < size; i++) {
                int depth = Integer.bitCount(leanedOn(i));
                if (depth > most) {
                    most = depth;
                    found = i;
                }
            }
            return found;
        }

        int howManyOf(int kind) {
            int found = 0;
            for (int i = 0; i < size; i++) {
                if (isOf(i, kind)) {
                    found++;
                }
            }
            return found;
        }

        // ---- persons

        int beginners() {
            int persons = 0;
            for (int i = 0; i < size; i++) {
                if (isBeginning(i)) {
                    persons |= bit(whos[i]);
                }
            }
            return persons;
        }

        /** All of the BUNDLES that a PERSON began. */
        int begunBy(int p) {
            int bits = 0;
            for (int i = 0; i < size; i++) {
                if (whos[beginningOf(i)] == p) {
                    bits |= bit(i);
                }
            }
            return bits;
        }

        int saidBeginnings(int who, int toWhom) {
            int found = 0;
            for (int i = 0; i < size; i++) {
                if (isSaid(i) && isBeginning(i) && whos[i] == who && toWhoms[i] == toWhom) {
                    found++;
                }
            }
            return found;
        }

        int personsOfSaid() {
            int persons = 0;
            for (int i = 0; i < size; i++) {
                if (isSaid(i)) {
                    persons |= bit(whos[i]) | bit(toWhoms[i]);
                }
            }
            return persons;
        }

        /** Those who were told something, SAID or not, by one of a lesser number. */
        int toldAhead(int i) {
            int persons = 0;
            for (int j = 0; j < i; j++) {
                persons |= bit(toWhoms[j]);
            }
            return persons;
        }
    }

    /** ORDERS. What is left to unsay is a set, and the least COST of a set is weighed once. */
    private static final class Ironing {
        /** Twelve PRICES are far less. */
        private static final int ABOVE_ALL_COSTS = 1000000;

        private final int[] least = new int[1 << MOST_SAYINGS];
        private final int[] others = new int[MOST_SAYINGS];
        private final int[] holders = new int[MOST_SAYINGS];

        /** The least COST of all that are SAID; those of all sets of them are held for writeCheapest. */
        int weigh(Heap heap) {
            int all = heap.saidBits();
            for (int i = 0; i < heap.howMany(); i++) {
                others[i] = heap.others(i);
                holders[i] = heap.holders(i);
            }
            least[0] = 0;
            for (int left = 1; left <= all; left++) {
                if ((left & ~all) == 0) {
                    least[left] = leastOf(heap, left);
                }
            }
            return least[all];
        }

        private int leastOf(Heap heap, int left) {
            int cost = ABOVE_ALL_COSTS;
            for (int i = 0; i < heap.howMany(); i++) {
                if (canGo(i, left)) {
                    cost = Math.min(cost, costFrom(heap, i, left));
                }
            }
            return cost;
        }

        private boolean canGo(int i, int left) {
            return hasBit(left, i) && (holders[i] & left) == 0;
        }

        /** The least COST of a set, if that one goes first. */
        private int costFrom(Heap heap, int i, int left) {
            return heap.priceAtHeat(i, Integer.bitCount(others[i] & left)) + least[left & ~bit(i)];
        }

        void writeCheapest(Heap heap, Shelf rows, int r) {
            int left = heap.saidBits();
            int size = Integer.bitCount(left);
            rows.makeAnew(r, size, 0);
            for (int place = 0; place < size; place++) {
                int i = firstOfCheapest(heap, left);
                rows.setCell(r, place, i);
                left &= ~bit(i);
            }
        }

        private int firstOfCheapest(Heap heap, int left) {
            int i = 0;
            while (i < heap.howMany() - 1 && !(canGo(i, left) && costFrom(heap, i, left) == least[left])) {
                i++;
            }
            return i;
        }

        /** What holds back what is a forest: all rows of the numbers, by the sizes of all its trees. */
        long howManyOrders(Heap heap) {
            long rowsOfAll = 1;
            long trees = 1;
            int ahead = 0;
            for (int i = 0; i < heap.howMany(); i++) {
                if (heap.isSaid(i)) {
                    ahead++;
                    rowsOfAll *= ahead;
                    trees *= Math.max(1, Integer.bitCount(heap.hasToGoWith(bit(i))));
                }
            }
            return rowsOfAll / trees;
        }
    }

    /** PERSONS: who tells whom. */
    private static final class Company {
        private static final int ALL = (1 << PERSONS) - 1;

        private final int[] tells = new int[PERSONS];

        boolean hasNumber(int p) {
            return p >= 0 && p < PERSONS;
        }

        /** Those who can have said a STAIN. */
        int suspects(Heap heap, int i) {
            int persons = ALL;
            int answered = heap.answeredBy(i);
            if (heap.hasNumber(answered)) {
                persons = heap.toldAhead(i) & ~bit(heap.whoOf(answered));
            }
            return persons & ~bit(heap.toWhomOf(i));
        }

        /** Those who are in a ring, if these are sent away. */
        int inRings(Heap heap, int gone) {
            listen(heap, gone);
            for (int via = 0; via < PERSONS; via++) {
                for (int p = 0; p < PERSONS; p++) {
                    if (hasBit(tells[p], via)) {
                        tells[p] |= tells[via];
                    }
                }
            }
            int persons = 0;
            for (int p = 0; p < PERSONS; p++) {
                if (hasBit(tells[p], p)) {
                    persons |= bit(p);
                }
            }
            return persons;
        }

        private void listen(Heap heap, int gone) {
            Arrays.fill(tells, 0);
            for (int i = 0; i < heap.howMany(); i++) {
                int who = heap.whoOf(i);
                int toWhom = heap.toWhomOf(i);
                if (heap.isSaid(i) && !hasBit(gone, who) && !hasBit(gone, toWhom)) {
                    tells[who] |= bit(toWhom);
                }
            }
        }

        /** The fewest who leave no ring; of alike few ones the least bits. */
        int fewestAway(Heap heap) {
            int fewest = ALL;
            for (int gone = 0; gone < ALL; gone++) {
                if (Integer.bitCount(gone) < Integer.bitCount(fewest) && inRings(heap, gone) == 0) {
                    fewest = gone;
                }
            }
            return fewest;
        }
    }

    /** The chance or share that was told last, in lowest terms. */
    private static final class Share {
        /** Far more steps than two longs can need. */
        private static final int MOST_STEPS = 200;

        private long top = 0;
        private long bottom = 1;

        /** The lower number is above 0, the upper one is not below. */
        void tell(long up, long down) {
            long common = Math.max(1, commonOf(up, down));
            top = up / common;
            bottom = down / common;
        }

        private static long commonOf(long up, long down) {
            long larger = up;
            long smaller = down;
            for (int step = 0; step < MOST_STEPS && smaller != 0; step++) {
                long rest = larger % smaller;
                larger = smaller;
                smaller = rest;
            }
            return larger;
        }

        long top() {
            return top;
        }

        long bottom() {
            return bottom;
        }
    }

    /** FINDINGS: the latest, and how often each. */
    private static final class Tally {
        private final int[] often = new int[FINDINGS + 1];
        private int latest = 0;

        int note(int f) {
            latest = f;
            often[f]++;
            return FINDING;
        }

        int latest() {
            return latest;
        }

        int howOften(int f) {
            return often[f];
        }
    }
}
