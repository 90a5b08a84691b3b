/**
 * Shoes in the hall: guests come, lay their shoes in rows one pair behind the
 * other, and go, not in that order. Guests are 0 to 9 (letters a to j); sets of
 * guests are held as bits, so that no call has to make an object.
 */
public final class ShoesHall {
    public static final int NONE = -1, BAD = -2, NOT = -3, FULL = -4;

    private static final int GUESTS = 10;
    private static final int ALL_BITS = 1023;
    private static final int FIRST_LETTER = 97;
    private static final int MOST_BYTE = 255;

    private static final int COMINGS = 0, GOINGS = 1, WORN = 2, TEXTS = 3;

    private static final int ROW = 0, LOOKS = 1, MINUTE = 2, TRAITS = 3;
    private static final int[] TRAIT_MOST = {9, 3, 99};

    private static final int DEEP = 0, ROOM = 1, LOOK = 2, LIFT = 3, SETTINGS = 4;
    private static final int[] SETTING_LEAST = {1, 1, 1, 0};
    private static final int[] SETTING_MOST = {10, 9, 60, 9};

    private static final int KINDS_OF_LOOKS = 4;
    private static final int RULES = 4;
    private static final int RULE_ROWS = 9;
    private static final int LEAST_ROWS = 3;
    private static final int LEAST_GUESTS = 7;
    private static final int ROUND_RULE = 1, FEWEST_RULE = 2, SOONEST_RULE = 3;
    private static final int SIXTEENTHS = 16;
    private static final int MOST_TOLD = 8;
    private static final int MOST_NIGHTS = 60;
    private static final int LOT_TIMES = 1103515245, LOT_MORE = 12345;

    private static final int SHEETS = 4, FORMS = 3, MOST_ITEMS = 48;
    private static final int BYTES = 0, SHORTS = 1;
    private static final int NULL = 1, INDEX = 2, CAST = 3, STORE = 4, SIZE = 5;
    private static final int LEAST_INT = 0x80000000;
    private static final long LEAST_LONG = 0x8000000000000000L;

    private final Text[] texts = new Text[TEXTS];
    private final int[][] traits = new int[TRAITS][GUESTS];
    private final int[] settings = {10, 1, 2, 1};
    private final Hall hall = new Hall();
    private final Crowd crowd = new Crowd();
    private final AllGo allGo = new AllGo();
    private final Told told = new Told();
    private final Sheet[] sheets = new Sheet[SHEETS];
    private int latestFinding;

    public ShoesHall() {
        for (int i = 0; i < TEXTS; i++) {
            texts[i] = new Text();
        }
        for (int i = 0; i < SHEETS; i++) {
            sheets[i] = new Sheet();
        }
        settle();
    }

    // ---- guests, hall

    public int type(int text, int b) {
        if (!within(text, 0, TEXTS - 1) || !within(b, 0, MOST_BYTE)) {
            return BAD;
        }
        Text t = texts[text];
        if (t.size >= GUESTS) {
            return FULL;
        }
        t.bytes[t.size] = b;
        t.size++;
        settle();
        return t.size;
    }

    public int wipe(int text) {
        if (!within(text, 0, TEXTS - 1)) {
            return BAD;
        }
        int had = texts[text].size;
        texts[text].size = 0;
        settle();
        return had;
    }

    public int undo(int text) {
        if (!within(text, 0, TEXTS - 1)) {
            return BAD;
        }
        Text t = texts[text];
        if (t.size < 1) {
            return NOT;
        }
        t.size--;
        settle();
        return t.size;
    }

    public int fault(int text) {
        return within(text, 0, TEXTS - 1) ? texts[text].faultAt : BAD;
    }

    public int guest(int guest, int what, int v) {
        if (!isGuest(guest) || !within(what, 0, TRAITS - 1) || !within(v, 0, TRAIT_MOST[what])) {
            return BAD;
        }
        int was = traits[what][guest];
        traits[what][guest] = v;
        settle();
        return was;
    }

    public int set(int what, int v) {
        if (!within(what, 0, SETTINGS - 1) || !within(v, SETTING_LEAST[what], SETTING_MOST[what])) {
            return BAD;
        }
        int was = settings[what];
        settings[what] = v;
        settle();
        return was;
    }

    public int read(int s) {
        if (!isSheet(s)) {
            return BAD;
        }
        Sheet sheet = sheets[s];
        if (sheet.lost) {
            return finding(NULL);
        }
        int many = 0;
        while (many < GUESTS && many < sheet.size && within(sheet.items[many], 0, TRAIT_MOST[ROW])) {
            traits[ROW][many] = sheet.items[many];
            many++;
        }
        settle();
        return many;
    }

    // ---- what lies where

    public int judged() {
        return hall.judgedGuest;
    }

    public int lies(int k, int row, int i) {
        if (!within(k, 0, texts[GOINGS].known) || !within(row, 0, GUESTS - 1) || !within(i, 0, GUESTS - 1)) {
            return BAD;
        }
        int there = hall.inRow[row];
        for (int gone = 0; gone < k; gone++) {
            there &= ~bit(texts[GOINGS].guestAt(gone));
        }
        return texts[COMINGS].pickOf(there, i);
    }

    public int lifted(int guest) {
        if (guest == NONE) {
            return hall.liftedInAll;
        }
        return isGuest(guest) ? hall.liftedFor[guest] : BAD;
    }

    public int rows(int guest) {
        if (guest != NONE && !isGuest(guest)) {
            return BAD;
        }
        allGo.layByRule(SOONEST_RULE, GUESTS, allGo.many);
        if (guest == NONE) {
            return allGo.usedRows();
        }
        int place = texts[COMINGS].placeOf(guest);
        return place == NONE ? NOT : allGo.rowAt[place];
    }

    public int proof(int i) {
        if (!within(i, NONE, GUESTS - 1)) {
            return BAD;
        }
        int longest = allGo.findProof(texts[COMINGS]);
        if (i == NONE) {
            return longest;
        }
        return i < longest ? allGo.proof[i] : NONE;
    }

    // ---- layings, odds

    public int least(int k, int i) {
        if (!within(k, 1, LEAST_ROWS) || !within(i, NONE, LEAST_GUESTS - 1)) {
            return BAD;
        }
        int lifted = allGo.findLeast(k);
        if (i == NONE) {
            return lifted;
        }
        return i < allGo.firstOnes() ? allGo.leastRowAt[i] : NONE;
    }

    public int rule(int rule, int k) {
        if (!within(rule, 0, RULES - 1) || !within(k, 1, RULE_ROWS)) {
            return BAD;
        }
        return allGo.layByRule(rule, k, allGo.many);
    }

    public int best(int k) {
        return within(k, 1, RULE_ROWS) ? allGo.bestRule(k, allGo.many) : BAD;
    }

    public int gap(int k) {
        if (!within(k, 1, LEAST_ROWS)) {
            return BAD;
        }
        int ones = allGo.firstOnes();
        int byRule = allGo.layByRule(allGo.bestRule(k, ones), k, ones);
        return byRule - allGo.findLeast(k);
    }

    public long mean(int sixteenths, int what) {
        if (!within(sixteenths, 0, SIXTEENTHS) || !within(what, 0, 1)) {
            return refusal(BAD);
        }
        int above = sixteenths * hall.liftedInAll + (SIXTEENTHS - sixteenths) * hall.liftedBackwards();
        return inLowestTerms(above, SIXTEENTHS, what);
    }

    public long heap(int i, int what) {
        if (!within(i, NONE, hall.takerCount - 1) || !within(what, 0, 1)) {
            return refusal(BAD);
        }
        int from = i == NONE ? 0 : i;
        int to = i == NONE ? hall.takerCount : i + 1;
        int above = 0;
        for (int taker = from; taker < to; taker++) {
            int shoes = 2 * (Integer.bitCount(hall.laid) - taker);
            above += 2 * (shoes + 1);
        }
        return inLowestTerms(above, 3, what);
    }

    // ---- crowd, mistakes

    public int out(int guest) {
        if (guest != NONE && !isGuest(guest)) {
            return BAD;
        }
        if (guest != NONE && hall.liftedFor[guest] == NOT) {
            return NOT;
        }
        crowd.empty(settings[ROOM]);
        for (int i = 0; i < hall.takerCount; i++) {
            int taker = hall.takers[i];
            int minutes = settings[LOOK] + settings[LIFT] * hall.liftedFor[taker];
            int outAt = crowd.enter(traits[MINUTE][taker], minutes);
            if (taker == guest) {
                return outAt;
            }
        }
        return crowd.lastOut();
    }

    public int wrong(int guest) {
        Text worn = texts[WORN];
        if (!within(guest, NONE, worn.known - 1)) {
            return BAD;
        }
        if (guest != NONE) {
            return worn.ringLength(guest);
        }
        int many = 0;
        for (int wearer = 0; wearer < worn.known; wearer++) {
            if (worn.guestAt(wearer) != wearer) {
                many++;
            }
        }
        return many;
    }

    public int swaps() {
        return texts[WORN].known - texts[WORN].countRings();
    }

    public long alike(int what) {
        if (!within(what, 0, 1)) {
            return refusal(BAD);
        }
        long ways = 1;
        for (int looks = 0; looks < KINDS_OF_LOOKS; looks++) {
            int many = comersThatLook(looks);
            ways *= what == 0 ? orders(many) : ordersWithNoneInPlace(many);
        }
        return ways;
    }

    public int ahead(int a, int b) {
        if (!isGuest(a) || !isGuest(b) || a == b) {
            return BAD;
        }
        if (told.many >= MOST_TOLD) {
            return FULL;
        }
        told.tell(a, b);
        return told.many;
    }

    public int forget() {
        int had = told.many;
        told.clear();
        return had;
    }

    public long fits(int left) {
        return within(left, 0, ALL_BITS) ? told.countOrders(goneBut(left)) : refusal(BAD);
    }

    public int sure(int left, int a, int b) {
        if (!within(left, 0, ALL_BITS) || !isGuest(a) || !isGuest(b) || a == b) {
            return BAD;
        }
        int gone = goneBut(left);
        if (!has(gone, a) || !has(gone, b)) {
            return BAD;
        }
        return told.holdsFor(gone) && has(told.aheadOf[b], a) ? 1 : 0;
    }

    public int firsts(int left) {
        if (!within(left, 0, ALL_BITS)) {
            return BAD;
        }
        int gone = goneBut(left);
        return told.holdsFor(gone) ? told.behindNobody(gone) : 0;
    }

    public long night(int seed, int n) {
        if (!within(n, 1, MOST_NIGHTS)) {
            return refusal(BAD);
        }
        int comers = texts[COMINGS].bits;
        int lot = seed;
        long sum = 0;
        for (int night = 0; night < n; night++) {
            int there = comers;
            int still = hall.laid;
            for (int m = texts[COMINGS].known; m > 0; m--) {
                lot = lot * LOT_TIMES + LOT_MORE;
                int goer = guestOf(there, (lot >>> 16) % m);
                sum += hall.liftedAmong(goer, still);
                there &= ~bit(goer);
                still &= ~bit(goer);
            }
        }
        return sum;
    }

    // ---- sheets

    public int sheet(int s, int form, int n) {
        if (!isSheet(s) || !isForm(form) || n > MOST_ITEMS) {
            return BAD;
        }
        if (n < 0) {
            return finding(SIZE);
        }
        sheets[s].renew(form, n);
        return n;
    }

    public int lose(int s) {
        if (!isSheet(s)) {
            return BAD;
        }
        if (sheets[s].lost) {
            return finding(NULL);
        }
        sheets[s].lost = true;
        return sheets[s].size;
    }

    public int put(int s, int form, int i, int v) {
        if (!isSheet(s) || !isForm(form)) {
            return BAD;
        }
        int number = findingAtItem(s, form, i);
        if (number != 0) {
            return finding(number);
        }
        sheets[s].items[i] = lowestBits(form, v);
        return 1;
    }

    public int get(int s, int form, int i) {
        if (!isSheet(s) || !isForm(form)) {
            return LEAST_INT;
        }
        int number = findingAtItem(s, form, i);
        if (number != 0) {
            latestFinding = number;
            return LEAST_INT;
        }
        return sheets[s].items[i];
    }

    public int copy(int s, int i, int t, int j, int n) {
        if (!isSheet(s) || !isSheet(t)) {
            return BAD;
        }
        Sheet from = sheets[s];
        Sheet to = sheets[t];
        if (from.lost || to.lost) {
            return finding(NULL);
        }
        if (from.form != to.form) {
            return finding(STORE);
        }
        if (!from.hasItems(i, n) || !to.hasItems(j, n)) {
            return finding(INDEX);
        }
        System.arraycopy(from.items, i, to.items, j, n);
        return 1;
    }

    public int write(int s) {
        if (!isSheet(s)) {
            return BAD;
        }
        Sheet sheet = sheets[s];
        if (sheet.lost) {
            return finding(NULL);
        }
        int many = Math.min(sheet.size, hall.takerCount);
        for (int i = 0; i < many; i++) {
            sheet.items[i] = hall.liftedFor[hall.takers[i]];
        }
        return many;
    }

    public int count(int what) {
        switch (what) {
            case 0: return texts[COMINGS].known;
            case 1: return texts[GOINGS].known;
            case 2: return texts[WORN].known;
            case 3: return Integer.bitCount(hall.laid);
            case 4: return hall.usedRows();
            case 5: return told.many;
            case 6: return settings[ROOM];
            case 7: return settings[DEEP];
            case 8: return latestFinding;
            default: return BAD;
        }
    }

    public long digest() {
        long h = digestOfHall(17);
        h = digestOfGuests(h);
        h = digestOfLayings(h);
        return digestOfOdds(h);
    }

    private long digestOfHall(long start) {
        long h = start;
        for (int what = 0; what <= 7; what++) {
            h = 31 * h + count(what);
        }
        for (int text = 0; text < TEXTS; text++) {
            h = 31 * h + fault(text);
        }
        return 31 * h + judged();
    }

    private long digestOfGuests(long start) {
        long h = start;
        for (int guest = 0; guest < GUESTS; guest++) {
            h = 31 * h + lifted(guest);
            h = 31 * h + rows(guest);
            h = 31 * h + out(guest);
            h = 31 * h + wrong(guest);
        }
        return h;
    }

    private long digestOfLayings(long start) {
        long h = 31 * start + lifted(NONE);
        h = 31 * h + rows(NONE);
        for (int i = NONE; i <= 2; i++) {
            h = 31 * h + proof(i);
        }
        h = 31 * h + out(NONE);
        h = 31 * h + wrong(NONE);
        h = 31 * h + swaps();
        for (int i = NONE; i <= 1; i++) {
            h = 31 * h + least(2, i);
        }
        for (int rule = 0; rule < RULES; rule++) {
            h = 31 * h + rule(rule, 2);
        }
        h = 31 * h + best(2);
        return 31 * h + gap(2);
    }

    private long digestOfOdds(long start) {
        long h = 31 * start + mean(5, 0);
        h = 31 * h + mean(5, 1);
        h = 31 * h + heap(NONE, 0);
        h = 31 * h + heap(NONE, 1);
        h = 31 * h + heap(0, 0);
        h = 31 * h + heap(0, 1);
        h = 31 * h + alike(0);
        h = 31 * h + alike(1);
        h = 31 * h + fits(1);
        h = 31 * h + firsts(1);
        return 31 * h + night(7, 3);
    }

    /** What follows from texts, rows and depth is told anew, so that calls that only ask find it. */
    private void settle() {
        texts[COMINGS].judge(ALL_BITS);
        texts[GOINGS].judge(texts[COMINGS].bits);
        texts[WORN].judge(ALL_BITS);
        texts[WORN].judgeEnd();
        hall.lay(texts[COMINGS], traits[ROW], settings[DEEP]);
        hall.letGo(texts[GOINGS]);
        allGo.order(texts[COMINGS], texts[GOINGS]);
    }

    private int goneBut(int left) {
        return texts[COMINGS].bits & ~left;
    }

    private int comersThatLook(int looks) {
        int many = 0;
        for (int guest = 0; guest < GUESTS; guest++) {
            if (has(texts[COMINGS].bits, guest) && traits[LOOKS][guest] == looks) {
                many++;
            }
        }
        return many;
    }

    /** The finding that item i of a sheet, treated as of a form, leads to; 0: none. */
    private int findingAtItem(int s, int form, int i) {
        Sheet sheet = sheets[s];
        if (sheet.lost) {
            return NULL;
        }
        if (sheet.form != form) {
            return CAST;
        }
        return within(i, 0, sheet.size - 1) ? 0 : INDEX;
    }

    private int finding(int number) {
        latestFinding = number;
        return -10 - number;
    }

    private static long refusal(int answer) {
        return LEAST_LONG - answer;
    }

    private static boolean within(int number, int least, int most) {
        return number >= least && number <= most;
    }

    private static boolean isGuest(int guest) {
        return within(guest, 0, GUESTS - 1);
    }

    private static boolean isSheet(int s) {
        return within(s, 0, SHEETS - 1);
    }

    private static boolean isForm(int form) {
        return within(form, 0, FORMS - 1);
    }

    private static int bit(int guest) {
        return guest >= 0 && guest < GUESTS ? 1 << guest : 0;
    }

    private static boolean has(int bits, int guest) {
        return guest >= 0 && guest < GUESTS && (bits & 1 << guest) != 0;
    }

    /** The guest that is the i-th of some, by letters; NONE. */
    private static int guestOf(int bits, int i) {
        int ahead = 0;
        for (int guest = 0; guest < GUESTS; guest++) {
            if (has(bits, guest)) {
                if (ahead == i) {
                    return guest;
                }
                ahead++;
            }
        }
        return NONE;
    }

    private static int lowestBits(int form, int v) {
        if (form == BYTES) {
            return (byte) v;
        }
        return form == SHORTS ? (short) v : v;
    }

    private static long inLowestTerms(int above, int below, int what) {
        int divisor = commonDivisor(above, below);
        if (divisor < 1) {
            return 0;
        }
        return (what == 0 ? above : below) / divisor;
    }

    private static int commonDivisor(int a, int b) {
        int larger = a;
        int smaller = b;
        // Euclid's steps for ints are fewer than 64.
        for (int step = 0; step < 64 && smaller != 0; step++) {
            int rest = larger % smaller;
            larger = smaller;
            smaller = rest;
        }
        return larger;
    }

    private static long orders(int many) {
        long ways = 1;
        for (int m = 2; m <= many; m++) {
            ways *= m;
        }
        return ways;
    }

    private static long ordersWithNoneInPlace(int many) {
        long ways = 1;
        for (int m = 1; m <= many; m++) {
            ways = m * ways + (m % 2 == 0 ? 1 : -1);
        }
        return ways;
    }

    /** A text as it was typed, and the guests that it tells: none of them while it has a fault. */
    private static final class Text {
        final int[] bytes = new int[GUESTS];
        int size;
        int faultAt = NONE;
        int known;
        int bits;

        /** Looks for the fault, where only some letters are allowed. */
        void judge(int allowed) {
            int seen = 0;
            int at = NONE;
            for (int i = 0; i < size && at == NONE; i++) {
                int letter = bit(bytes[i] - FIRST_LETTER) & allowed & ~seen;
                if (letter == 0) {
                    at = i;
                }
                seen |= letter;
            }
            keep(at, seen);
        }

        /** Behind judge(): the text may not end unless it has just the first letters. */
        void judgeEnd() {
            if (faultAt == NONE && bits != (1 << size) - 1) {
                keep(size, 0);
            }
        }

        private void keep(int at, int seen) {
            faultAt = at;
            known = at == NONE ? size : 0;
            bits = at == NONE ? seen : 0;
        }

        int guestAt(int i) {
            return within(i, 0, known - 1) ? bytes[i] - FIRST_LETTER : NONE;
        }

        int placeOf(int guest) {
            for (int i = 0; i < known; i++) {
                if (guestAt(i) == guest) {
                    return i;
                }
            }
            return NONE;
        }

        /** The i-th in this text of some guests; NONE. */
        int pickOf(int some, int i) {
            int ahead = 0;
            for (int place = 0; place < known; place++) {
                int guest = guestAt(place);
                if (has(some, guest)) {
                    if (ahead == i) {
                        return guest;
                    }
                    ahead++;
                }
            }
            return NONE;
        }

        int ringLength(int guest) {
            int length = 1;
            int other = guestAt(guest);
            while (length < known && other != guest) {
                other = guestAt(other);
                length++;
            }
            return length;
        }

        int countRings() {
            int rings = 0;
            int seen = 0;
            for (int guest = 0; guest < known; guest++) {
                if (!has(seen, guest)) {
                    rings++;
                }
                int other = guest;
                for (int step = 0; step < known && !has(seen, other); step++) {
                    seen |= bit(other);
                    other = guestAt(other);
                }
            }
            return rings;
        }
    }

    /** The pairs as they were laid, and what the goings, as they are told, lift. */
    private static final class Hall {
        final int[] inRow = new int[GUESTS];
        final int[] inFrontOf = new int[GUESTS];
        final int[] liftedFor = new int[GUESTS];
        /** Those who go and whose pair was laid, by goings. */
        final int[] takers = new int[GUESTS];
        int takerCount;
        int laid;
        int judgedGuest;
        int liftedInAll;

        void lay(Text comings, int[] rowOf, int deep) {
            for (int i = 0; i < GUESTS; i++) {
                inRow[i] = 0;
                inFrontOf[i] = 0;
            }
            laid = 0;
            judgedGuest = NONE;
            for (int i = 0; i < comings.known; i++) {
                int guest = comings.guestAt(i);
                int row = rowOf[guest];
                if (Integer.bitCount(inRow[row]) < deep) {
                    layInFront(guest, row);
                } else if (judgedGuest == NONE) {
                    judgedGuest = guest;
                }
            }
        }

        private void layInFront(int guest, int row) {
            for (int other = 0; other < GUESTS; other++) {
                if (has(inRow[row], other)) {
                    inFrontOf[other] |= bit(guest);
                }
            }
            inRow[row] |= bit(guest);
            laid |= bit(guest);
        }

        void letGo(Text goings) {
            for (int guest = 0; guest < GUESTS; guest++) {
                liftedFor[guest] = NOT;
            }
            takerCount = 0;
            liftedInAll = 0;
            int still = laid;
            for (int i = 0; i < goings.known; i++) {
                int guest = goings.guestAt(i);
                if (has(laid, guest)) {
                    liftedFor[guest] = liftedAmong(guest, still);
                    liftedInAll += liftedFor[guest];
                    takers[takerCount] = guest;
                    takerCount++;
                    still &= ~bit(guest);
                }
            }
        }

        /** What is lifted for a guest while only some pairs lie there still. */
        int liftedAmong(int guest, int still) {
            return has(still, guest) ? Integer.bitCount(inFrontOf[guest] & still) : 0;
        }

        int liftedBackwards() {
            int sum = 0;
            int still = laid;
            for (int i = takerCount - 1; i >= 0; i--) {
                sum += liftedAmong(takers[i], still);
                still &= ~bit(takers[i]);
            }
            return sum;
        }

        int usedRows() {
            int used = 0;
            for (int row = 0; row < GUESTS; row++) {
                if (inRow[row] != 0) {
                    used++;
                }
            }
            return used;
        }
    }

    /** Those who go through the room where the shoes are, one behind the other. */
    private static final class Crowd {
        final int[] outs = new int[GUESTS];
        int entered;
        int room;
        int latestEntry;

        void empty(int roomFor) {
            entered = 0;
            room = roomFor;
            latestEntry = 0;
        }

        /** When one is out who would go from a minute on and needs so many minutes. */
        int enter(int minute, int minutes) {
            int at = Math.max(latestEntry, minute);
            for (int tries = 0; tries < entered && inside(at) >= room; tries++) {
                at = nextOut(at);
            }
            latestEntry = at;
            if (entered < GUESTS) {
                outs[entered] = at + minutes;
                entered++;
            }
            return at + minutes;
        }

        int lastOut() {
            int last = 0;
            for (int i = 0; i < entered; i++) {
                last = Math.max(last, outs[i]);
            }
            return last;
        }

        private int inside(int at) {
            int many = 0;
            for (int i = 0; i < entered; i++) {
                if (outs[i] > at) {
                    many++;
                }
            }
            return many;
        }

        private int nextOut(int at) {
            int next = lastOut();
            for (int i = 0; i < entered; i++) {
                if (outs[i] > at) {
                    next = Math.min(next, outs[i]);
                }
            }
            return next;
        }
    }

    /**
     * Layings where all who come go, in rows as deep as one likes. Those who come
     * are known here by their places in the comings, and so are the bits.
     */
    private static final class AllGo {
        private static final int BEHIND_ALL = GUESTS;

        int many;
        final int[] goesAt = new int[GUESTS];
        /** Of each place: those that came ahead of it and go ahead of it, for whom it would be lifted. */
        final int[] liftedForThese = new int[GUESTS];
        final int[] rowAt = new int[GUESTS];
        final int[] leastRowAt = new int[LEAST_GUESTS];
        final int[] proof = new int[GUESTS];
        private final int[] inRow = new int[GUESTS];
        private final int[] frontGoesAt = new int[GUESTS];
        private final int[] longestFrom = new int[GUESTS];
        private int leastLifted;

        void order(Text comings, Text goings) {
            many = comings.known;
            int next = goings.known;
            for (int guest = 0; guest < GUESTS; guest++) {
                int place = comings.placeOf(guest);
                int going = goings.placeOf(guest);
                if (place != NONE && going != NONE) {
                    goesAt[place] = going;
                } else if (place != NONE) {
                    goesAt[place] = next;
                    next++;
                }
            }
            for (int i = 0; i < many; i++) {
                liftedForThese[i] = 0;
                for (int j = 0; j < i; j++) {
                    if (goesAt[j] < goesAt[i]) {
                        liftedForThese[i] |= bit(j);
                    }
                }
            }
        }

        int firstOnes() {
            return Math.min(many, LEAST_GUESTS);
        }

        /** Lays the first ones that come to k rows by a rule: what is lifted. */
        int layByRule(int rule, int k, int ones) {
            emptyRows();
            int sum = 0;
            for (int i = 0; i < ones; i++) {
                int row = 0;
                if (rule == ROUND_RULE && k > 0) {
                    row = i % k;
                } else if (rule == FEWEST_RULE) {
                    row = rowWithFewest(k);
                } else if (rule == SOONEST_RULE) {
                    row = rowGoingSoonest(k, goesAt[i]);
                }
                sum += liftedWith(i, row);
                inRow[row] |= bit(i);
                frontGoesAt[row] = goesAt[i];
                rowAt[i] = row;
            }
            return sum;
        }

        private void emptyRows() {
            for (int row = 0; row < GUESTS; row++) {
                inRow[row] = 0;
                frontGoesAt[row] = BEHIND_ALL;
            }
        }

        private int liftedWith(int place, int row) {
            return Integer.bitCount(liftedForThese[place] & inRow[row]);
        }

        private int rowWithFewest(int k) {
            int chosen = 0;
            for (int row = 1; row < k; row++) {
                if (Integer.bitCount(inRow[row]) < Integer.bitCount(inRow[chosen])) {
                    chosen = row;
                }
            }
            return chosen;
        }

        private int rowGoingSoonest(int k, int time) {
            int soonest = NONE;
            int latest = 0;
            for (int row = 0; row < k; row++) {
                int goes = frontGoesAt[row];
                if (goes > time && (soonest == NONE || goes < frontGoesAt[soonest])) {
                    soonest = row;
                }
                if (goes > frontGoesAt[latest]) {
                    latest = row;
                }
            }
            return soonest == NONE ? latest : soonest;
        }

        int usedRows() {
            int used = 0;
            for (int i = 0; i < many; i++) {
                used = Math.max(used, rowAt[i] + 1);
            }
            return used;
        }

        int bestRule(int k, int ones) {
            int chosen = 0;
            int fewest = layByRule(0, k, ones);
            for (int rule = 1; rule < RULES; rule++) {
                int lifted = layByRule(rule, k, ones);
                if (lifted < fewest) {
                    fewest = lifted;
                    chosen = rule;
                }
            }
            return chosen;
        }

        /** Finds the longest row of those who come and go one behind the other: how long. */
        int findProof(Text comings) {
            int longest = 0;
            for (int i = many - 1; i >= 0; i--) {
                longestFrom[i] = 1;
                for (int j = i + 1; j < many; j++) {
                    if (goesAt[j] > goesAt[i]) {
                        longestFrom[i] = Math.max(longestFrom[i], longestFrom[j] + 1);
                    }
                }
                longest = Math.max(longest, longestFrom[i]);
            }
            int last = NONE;
            for (int i = 0; i < longest; i++) {
                last = leastLetterBehind(last, longest - i, comings);
                proof[i] = comings.guestAt(last);
            }
            return longest;
        }

        /** Of those behind the last one from whom on there is a row of a length: the place of the least letter. */
        private int leastLetterBehind(int last, int length, Text comings) {
            int chosen = NONE;
            for (int i = last + 1; i < many; i++) {
                boolean behind = last == NONE || goesAt[i] > goesAt[last];
                if (behind && longestFrom[i] == length
                        && (chosen == NONE || comings.guestAt(i) < comings.guestAt(chosen))) {
                    chosen = i;
                }
            }
            return chosen;
        }

        /** Finds the laying of the first ones in k rows by which least is lifted: how much. */
        int findLeast(int k) {
            emptyRows();
            leastLifted = GUESTS * GUESTS;
            tryRows(this, k, 0, 0, 0);
            return leastLifted;
        }

        /**
         * Tries all rows for a place and those behind it. Of rows that are empty
         * still only the first is tried: another one could not make a lesser row of rows.
         */
        private static void tryRows(AllGo all, int k, int place, int used, int sum) {
            if (sum >= all.leastLifted) {
                return;
            }
            if (place >= all.firstOnes()) {
                all.keepLeast(sum);
                return;
            }
            for (int row = 0; row < k && row <= used; row++) {
                int more = all.liftedWith(place, row);
                all.rowAt[place] = row;
                all.inRow[row] |= bit(place);
                tryRows(all, k, place + 1, Math.max(used, row + 1), sum + more);
                all.inRow[row] &= ~bit(place);
            }
        }

        private void keepLeast(int sum) {
            leastLifted = sum;
            for (int i = 0; i < LEAST_GUESTS; i++) {
                leastRowAt[i] = rowAt[i];
            }
        }
    }

    /** Who was told to have gone ahead of whom. */
    private static final class Told {
        int many;
        /** Of each guest: those who went ahead of it, as told or because of what was told. */
        final int[] aheadOf = new int[GUESTS];
        private int named;
        private final int[] ways = new int[ALL_BITS + 1];

        void tell(int first, int second) {
            many++;
            named |= bit(first) | bit(second);
            int more = aheadOf[first] | bit(first);
            for (int guest = 0; guest < GUESTS; guest++) {
                if (guest == second || has(aheadOf[guest], second)) {
                    aheadOf[guest] |= more;
                }
            }
        }

        void clear() {
            many = 0;
            named = 0;
            for (int guest = 0; guest < GUESTS; guest++) {
                aheadOf[guest] = 0;
            }
        }

        /** Whether there is an order of those who went by which all that was told is so. */
        boolean holdsFor(int gone) {
            boolean holds = (named & ~gone) == 0;
            for (int guest = 0; guest < GUESTS; guest++) {
                holds = holds && !has(aheadOf[guest], guest);
            }
            return holds;
        }

        int behindNobody(int gone) {
            int bits = 0;
            for (int guest = 0; guest < GUESTS; guest++) {
                if (has(gone, guest) && aheadOf[guest] == 0) {
                    bits |= bit(guest);
                }
            }
            return bits;
        }

        long countOrders(int gone) {
            if (!holdsFor(gone)) {
                return 0;
            }
            ways[0] = 1;
            for (int some = 1; some <= named; some++) {
                if ((some & ~named) == 0) {
                    ways[some] = waysToGoFirst(some);
                }
            }
            long orders = ways[named];
            // Who was not named can go anywhere among the others.
            for (int m = Integer.bitCount(named) + 1; m <= Integer.bitCount(gone); m++) {
                orders *= m;
            }
            return orders;
        }

        /** In how many orders just these can be the first of the named ones, by who is their last. */
        private int waysToGoFirst(int some) {
            int sum = 0;
            for (int last = 0; last < GUESTS; last++) {
                int others = some & ~bit(last);
                if (has(some, last) && (aheadOf[last] & ~others) == 0) {
                    sum += ways[others];
                }
            }
            return sum;
        }
    }

    /** A row of items of a form, or none while it is lost. */
    private static final class Sheet {
        final int[] items = new int[MOST_ITEMS];
        boolean lost = true;
        int form;
        int size;

        void renew(int newForm, int newSize) {
            lost = false;
            form = newForm;
            size = newSize;
            for (int i = 0; i < MOST_ITEMS; i++) {
                items[i] = 0;
            }
        }

        boolean hasItems(int from, int many) {
            // Not by a sum, which could wrap.
            return from >= 0 && many >= 0 && many <= size && from <= size - many;
        }
    }
}
