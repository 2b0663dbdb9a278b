import java.util.Arrays;

/**
 * One church, shared by two creeds on alternate pews, and the treaty between them.
 *
 * Every number is tested where it comes in, at the face below or in TextOfChurch; the classes inside
 * may therefore take words, books, kinds, pews and families as lying within their bounds.
 */
public final class EveryPew {
    public static final int NONE = -1, BAD = -2, NO = -3, FULL = -4;

    private static final int WORDS = 16;
    private static final int ALL_WORDS = 65535;
    private static final int BOOKS = 2;
    private static final int PEWS = 10;
    private static final int FAMILIES = 7;
    private static final int SETS = 1 << FAMILIES;
    private static final int KINDS = 6;
    private static final int IMAGES = 2;
    private static final int MOST_HEARD = 6;
    private static final int MOST_UNDONE = 8;
    private static final int MOST_BYTES = 150;
    private static final int MOST_LIMIT = 30;
    private static final int FIRST_LIMIT = 9;
    private static final int MOST_TALL = 9;
    private static final int MOST_VOICES = 20;
    private static final int MOST_LOUD = FAMILIES * MOST_VOICES;
    /** Words differ only by which books kneel there: neither, book 0, book 1, both. */
    private static final int CASES = 4;
    private static final int FAULT_BASE = -10;
    private static final int BAD_SEATS = -10;

    private final Church now = new Church();
    private final Church draft = new Church();
    private final Church[] images = new Church[IMAGES];
    private final boolean[] kept = new boolean[IMAGES];
    private final TextOfChurch text = new TextOfChurch();
    private final Service service = new Service();
    private final Seating seating = new Seating();
    private final Coughs coughs = new Coughs();
    private final int[] refused = new int[3];
    private long above = 0;
    private long below = 1;

    public EveryPew() {
        for (int i = 0; i < IMAGES; i++) {
            images[i] = new Church();
        }
    }

    // ---- a church

    public int church(int limit) {
        if (!within(limit, 0, MOST_LIMIT)) {
            return refuse(BAD);
        }
        int were = now.families;
        now.begin(limit);
        return were;
    }

    public int book(int b, int words) {
        if (!isBook(b) || !within(words, 0, ALL_WORDS)) {
            return refuse(BAD);
        }
        int were = now.books[b];
        now.books[b] = words;
        return were;
    }

    public int family(int kind, int b, int tall, int voices, int pew) {
        if (!within(kind, 0, KINDS - 1) || !isBook(b) || !within(tall, 1, MOST_TALL)
                || !within(voices, 1, MOST_VOICES) || !isPewOf(pew, b)) {
            return refuse(BAD);
        }
        if (now.isTaken(pew)) {
            return refuse(NO);
        }
        if (now.families >= FAMILIES) {
            return refuse(FULL);
        }
        return now.admit(kind, b, tall, voices, pew);
    }

    public int type(int c) {
        if (!within(c, 0, 127)) {
            return refuse(BAD);
        }
        if (text.length >= MOST_BYTES) {
            return refuse(FULL);
        }
        return text.append(c);
    }

    public int clear() {
        int had = text.length;
        text.length = 0;
        return had;
    }

    public int read() {
        int items = text.tell(draft);
        if (items > 0) {
            now.becomeLike(draft);
        }
        return items;
    }

    // ---- pews

    public int move(int f, int pew) {
        if (!now.hasFamily(f) || !isPewOf(pew, now.book[f])) {
            return refuse(BAD);
        }
        if (now.isTaken(pew)) {
            return refuse(NO);
        }
        int sat = now.pew[f];
        now.remember();
        now.pew[f] = pew;
        return sat;
    }

    public int cold(int f, int is) {
        if (!now.hasFamily(f) || !within(is, 0, 1)) {
            return refuse(BAD);
        }
        int had = bit(now.colds, f);
        now.remember();
        now.colds = (now.colds & ~(1 << f)) | (is << f);
        return had;
    }

    public int undo() {
        if (now.steps <= 0) {
            return refuse(NO);
        }
        now.goBack();
        return Integer.bitCount(now.colds);
    }

    public int of(int f, int what) {
        if (!now.hasFamily(f) || !within(what, 0, 5)) {
            return refuse(BAD);
        }
        return now.trait(f, what);
    }

    public int at(int f, int w, int what) {
        if (!now.hasFamily(f) || !isWord(w) || !within(what, 0, 3)) {
            return refuse(BAD);
        }
        service.hold(now);
        switch (what) {
            case 0:
                return service.kneels(f, w) ? 1 : 0;
            case 1:
                return service.high(f, w);
            case 2:
                return service.voices(f, w, now.colds);
            default:
                return service.sees(f, w) ? 1 : 0;
        }
    }

    // ---- the service

    public int up(int w) {
        if (!isWord(w)) {
            return refuse(BAD);
        }
        service.hold(now);
        int up = 0;
        for (int f = 0; f < now.families; f++) {
            if (!service.kneels(f, w)) {
                up |= 1 << f;
            }
        }
        return up;
    }

    public int seers(int w) {
        if (!isWord(w)) {
            return refuse(BAD);
        }
        service.hold(now);
        int seers = 0;
        for (int f = 0; f < now.families; f++) {
            if (service.sees(f, w)) {
                seers |= 1 << f;
            }
        }
        return seers;
    }

    public int loud(int w, int b) {
        if (!isWord(w) || !isBook(b)) {
            return refuse(BAD);
        }
        service.hold(now);
        return service.loudness(w, b, now.colds);
    }

    public int breach(int w) {
        if (!isWord(w)) {
            return refuse(BAD);
        }
        service.hold(now);
        for (int i = w; i < WORDS; i++) {
            if (!service.isPeaceful(i, now.colds)) {
                return i;
            }
        }
        return NONE;
    }

    public int canNot() {
        return now.books[0] ^ now.books[1];
    }

    public int seats(int f) {
        if (f != NONE && !now.hasFamily(f)) {
            refuse(BAD);
            return BAD_SEATS;
        }
        service.hold(now);
        seating.find(service);
        return f == NONE ? seating.seen() : seating.pewOf(f);
    }

    public int change(int what) {
        if (!within(what, 0, 1)) {
            return refuse(BAD);
        }
        service.hold(now);
        int who = FAMILIES;
        int most = service.peacefulWords(now.colds);
        for (int f = 0; f < now.families; f++) {
            service.suppose(now, f, now.kind[f], 1 - now.book[f]);
            int words = service.peacefulWords(now.colds);
            service.suppose(now, f, now.kind[f], now.book[f]);
            if (words > most) {
                most = words;
                who = f;
            }
        }
        return what == 0 ? who : most;
    }

    public int still() {
        service.hold(now);
        int fewest = NONE;
        for (int set = 0; set < now.sets(); set++) {
            boolean fewer = fewest == NONE || Integer.bitCount(set) < Integer.bitCount(fewest);
            if (fewer && (set & now.colds) == 0 && service.isPeacefulThroughout(set | now.colds)) {
                fewest = set;
            }
        }
        return fewest;
    }

    // ---- who coughed

    public int heard(int w, int b, int n) {
        if (!isWord(w) || !isBook(b) || !within(n, 0, MOST_LOUD)) {
            return refuse(BAD);
        }
        if (now.heards >= MOST_HEARD) {
            return refuse(FULL);
        }
        return now.hear(w, b, n);
    }

    public int forget() {
        int were = now.heards;
        now.heards = 0;
        return were;
    }

    public int coughed(int what) {
        if (!within(what, 0, 2)) {
            return refuse(BAD);
        }
        service.hold(now);
        coughs.find(now, service);
        switch (what) {
            case 0:
                return coughs.fitting;
            case 1:
                return coughs.fitting > 0 ? coughs.inAll : NONE;
            default:
                return coughs.inSome;
        }
    }

    public int next() {
        service.hold(now);
        coughs.find(now, service);
        return coughs.bestWord(service);
    }

    public int is(int f) {
        if (!now.hasFamily(f)) {
            return refuse(BAD);
        }
        service.hold(now);
        int kinds = 0;
        for (int kind = 0; kind < KINDS; kind++) {
            service.suppose(now, f, kind, now.book[f]);
            if (service.agreesWith(now, now.colds)) {
                kinds |= 1 << kind;
            }
        }
        return kinds;
    }

    public int deacons(int w) {
        if (!isWord(w)) {
            return refuse(BAD);
        }
        service.hold(now);
        int pairs = 0;
        for (int pair = 0; pair < 4; pair++) {
            int lead = leadOfBook0(w, pair);
            // What book 1 wants is the same lead turned round: the lesser, the better.
            if (lead >= leadOfBook0(w, pair ^ 1) && lead <= leadOfBook0(w, pair ^ 2)) {
                pairs |= 1 << pair;
            }
        }
        return pairs;
    }

    public int feasts(int a, int b, int c, int d) {
        if (!within(a, 1, 40) || !within(c, 1, 40) || !within(b, 0, 99) || !within(d, 0, 99)) {
            return refuse(BAD);
        }
        // Feasts that ever fall together do so once in every a times c years.
        int last = Math.max(b, d) + a * c;
        for (int year = b; year <= last; year += a) {
            if (year >= d && (year - d) % c == 0) {
                return year;
            }
        }
        return NONE;
    }

    public int colds(int w, int c) {
        if (!isWord(w) || !within(c, 0, 10)) {
            return refuse(BAD);
        }
        service.hold(now);
        long chances = 0;
        for (int set = 0; set < now.sets(); set++) {
            if ((set & now.colds) == now.colds && service.isPeaceful(w, set)) {
                chances += chancesOf(set, c);
            }
        }
        keepFraction(chances, power(10, now.families - Integer.bitCount(now.colds)));
        return 1;
    }

    public int sundays(int seed, int n) {
        if (!within(seed, 0, 999999) || !within(n, 0, 60)) {
            return refuse(BAD);
        }
        service.hold(now);
        long x = seed;
        int peaceful = 0;
        for (int sunday = 0; sunday < n; sunday++) {
            int colds = 0;
            for (int f = 0; f < now.families; f++) {
                x = (x * 1103515245L + 12345L) % 2147483648L;
                if (x / 65536L % 4L == 0L) {
                    colds |= 1 << f;
                }
            }
            if (service.isPeacefulThroughout(colds)) {
                peaceful++;
            }
        }
        return peaceful;
    }

    // ---- what there is

    public long part(int what) {
        if (!within(what, 0, 1)) {
            return refuse(BAD);
        }
        return what == 0 ? above : below;
    }

    public int image(int i) {
        if (!within(i, 0, IMAGES - 1)) {
            return refuse(BAD);
        }
        images[i].becomeLike(now);
        kept[i] = true;
        return 1;
    }

    public int from(int i) {
        if (!within(i, 0, IMAGES - 1)) {
            return refuse(BAD);
        }
        if (!kept[i]) {
            return refuse(NO);
        }
        now.becomeLike(images[i]);
        return 1;
    }

    public int status(int what) {
        if (!within(what, 0, 2)) {
            refuse(BAD);
            return -1;
        }
        return refused[what];
    }

    public int count(int what) {
        if (!within(what, 0, 6)) {
            return refuse(BAD);
        }
        return howMany(what);
    }

    public long digest() {
        long h = 1171;
        for (int what = 0; what <= 6; what++) {
            h = 31 * h + howMany(what);
        }
        for (int b = 0; b < BOOKS; b++) {
            h = 31 * h + now.books[b];
        }
        for (int f = 0; f < now.families; f++) {
            for (int what = 0; what <= 5; what++) {
                h = 31 * h + now.trait(f, what);
            }
        }
        for (int i = 0; i < now.heards; i++) {
            h = 31 * h + now.heardWord[i];
            h = 31 * h + now.heardBook[i];
            h = 31 * h + now.heardLoud[i];
        }
        h = 31 * h + above;
        return 31 * h + below;
    }

    // ---- what the calls share

    private static boolean within(int x, int least, int most) {
        return x >= least && x <= most;
    }

    private static boolean isWord(int w) {
        return within(w, 0, WORDS - 1);
    }

    private static boolean isBook(int b) {
        return within(b, 0, BOOKS - 1);
    }

    private static boolean isPewOf(int pew, int b) {
        return within(pew, 0, PEWS - 1) && pew % 2 == b;
    }

    private static int bit(int bits, int i) {
        return (bits >> i) & 1;
    }

    private int refuse(int reason) {
        refused[BAD - reason]++;
        return reason;
    }

    private int howMany(int what) {
        switch (what) {
            case 0:
                return now.families;
            case 1:
                return now.limit;
            case 2:
                return Integer.bitCount(now.colds);
            case 3:
                service.hold(now);
                return service.peacefulWords(now.colds);
            case 4:
                return now.heards;
            case 5:
                return now.steps;
            default:
                return text.length;
        }
    }

    /** By how much book 0 is the louder, when the deacons of the pair (bit b: book b's) have theirs be still. */
    private int leadOfBook0(int w, int pair) {
        int colds = now.colds;
        for (int b = 0; b < BOOKS; b++) {
            int f = now.mostVoiced(b);
            if (bit(pair, b) == 1 && f != NONE) {
                colds |= 1 << f;
            }
        }
        return service.loudness(w, 0, colds) - service.loudness(w, 1, colds);
    }

    /** In how many of 10 to the power of those without a cold now just this set has one. */
    private long chancesOf(int set, int c) {
        int caught = Integer.bitCount(set & ~now.colds);
        int spared = now.families - Integer.bitCount(set);
        return power(c, caught) * power(10 - c, spared);
    }

    private static long power(int base, int times) {
        long product = 1;
        for (int i = 0; i < times; i++) {
            product *= base;
        }
        return product;
    }

    private void keepFraction(long over, long under) {
        long common = commonDivisor(over, under);
        if (common > 0) {
            above = over / common;
            below = under / common;
        }
    }

    private static long commonDivisor(long over, long under) {
        long a = under;
        long b = over;
        // A remainder halves at least every second round, so 128 rounds end any pair of longs.
        for (int round = 0; round < 128 && b != 0; round++) {
            long rest = a % b;
            a = b;
            b = rest;
        }
        return a;
    }

    // ---- kinds, each over the one it extends

    static class Plain {
        boolean kneelsAt(boolean own, boolean other) {
            return own;
        }

        int height(int tall, boolean kneeling) {
            return kneeling ? tall / 2 : tall;
        }

        int sound(int told, boolean kneeling) {
            return kneeling ? 0 : told;
        }
    }

    static class Hoarse extends Plain {
        int sound(int told, boolean kneeling) {
            return super.sound(told, kneeling) / 2;
        }
    }

    static class Convert extends Plain {
        boolean kneelsAt(boolean own, boolean other) {
            return own || other;
        }
    }

    static final class Deacon extends Plain {
        boolean kneelsAt(boolean own, boolean other) {
            return false;
        }

        int height(int tall, boolean kneeling) {
            return super.height(tall, kneeling) + 1;
        }
    }

    static final class Children extends Hoarse {
        int height(int tall, boolean kneeling) {
            return Math.max(0, super.height(tall, kneeling) - 2);
        }
    }

    static final class Waverers extends Convert {
        boolean kneelsAt(boolean own, boolean other) {
            return own && other;
        }

        int sound(int told, boolean kneeling) {
            return Math.max(0, super.sound(told, kneeling) - 1);
        }
    }

    /** All that an image keeps: limit, books, families, colds, what was heard and what may be undone. */
    static final class Church {
        private int limit = FIRST_LIMIT;
        private final int[] books = new int[BOOKS];
        private int families;
        private final int[] kind = new int[FAMILIES];
        private final int[] book = new int[FAMILIES];
        private final int[] tall = new int[FAMILIES];
        private final int[] voices = new int[FAMILIES];
        private final int[] pew = new int[FAMILIES];
        private int colds;
        private int heards;
        private final int[] heardWord = new int[MOST_HEARD];
        private final int[] heardBook = new int[MOST_HEARD];
        private final int[] heardLoud = new int[MOST_HEARD];
        private int steps;
        private final int[] oldPews = new int[MOST_UNDONE * FAMILIES];
        private final int[] oldColds = new int[MOST_UNDONE];

        void begin(int newLimit) {
            limit = newLimit;
            Arrays.fill(books, 0);
            families = 0;
            colds = 0;
            heards = 0;
            steps = 0;
        }

        void becomeLike(Church other) {
            limit = other.limit;
            families = other.families;
            colds = other.colds;
            heards = other.heards;
            steps = other.steps;
            copy(other.books, books);
            copy(other.kind, kind);
            copy(other.book, book);
            copy(other.tall, tall);
            copy(other.voices, voices);
            copy(other.pew, pew);
            copy(other.heardWord, heardWord);
            copy(other.heardBook, heardBook);
            copy(other.heardLoud, heardLoud);
            copy(other.oldPews, oldPews);
            copy(other.oldColds, oldColds);
        }

        private static void copy(int[] source, int[] target) {
            System.arraycopy(source, 0, target, 0, Math.min(source.length, target.length));
        }

        boolean hasFamily(int f) {
            return f >= 0 && f < families;
        }

        /** How many sets of families there are; as bits they are the numbers below. */
        int sets() {
            return 1 << families;
        }

        boolean isTaken(int place) {
            for (int f = 0; f < families; f++) {
                if (pew[f] == place) {
                    return true;
                }
            }
            return false;
        }

        /** The caller has seen that there is room for one more. */
        int admit(int itsKind, int itsBook, int itsTall, int itsVoices, int itsPew) {
            int f = families;
            kind[f] = itsKind;
            book[f] = itsBook;
            tall[f] = itsTall;
            voices[f] = itsVoices;
            pew[f] = itsPew;
            families++;
            steps = 0;
            return f;
        }

        int trait(int f, int what) {
            switch (what) {
                case 0:
                    return kind[f];
                case 1:
                    return book[f];
                case 2:
                    return tall[f];
                case 3:
                    return voices[f];
                case 4:
                    return pew[f];
                default:
                    return bit(colds, f);
            }
        }

        /** The caller has seen that there is room for one more. */
        int hear(int w, int b, int n) {
            heardWord[heards] = w;
            heardBook[heards] = b;
            heardLoud[heards] = n;
            heards++;
            return heards;
        }

        void remember() {
            if (steps >= MOST_UNDONE) {
                System.arraycopy(oldPews, FAMILIES, oldPews, 0, (MOST_UNDONE - 1) * FAMILIES);
                System.arraycopy(oldColds, 1, oldColds, 0, MOST_UNDONE - 1);
                steps = MOST_UNDONE - 1;
            }
            System.arraycopy(pew, 0, oldPews, steps * FAMILIES, FAMILIES);
            oldColds[steps] = colds;
            steps++;
        }

        /** The caller has seen that there is a step to undo. */
        void goBack() {
            steps--;
            System.arraycopy(oldPews, steps * FAMILIES, pew, 0, FAMILIES);
            colds = oldColds[steps];
        }

        int mostVoiced(int b) {
            int most = NONE;
            for (int f = 0; f < families; f++) {
                if (book[f] == b && (most == NONE || voices[f] > voices[most])) {
                    most = f;
                }
            }
            return most;
        }
    }

    /** How a church goes through its words: a row of four cases for each family, set up anew for each call. */
    static final class Service {
        private final Plain[] kinds = {
            new Plain(), new Hoarse(), new Convert(), new Deacon(), new Children(), new Waverers()};
        private int families;
        private int limit;
        private final int[] book = new int[FAMILIES];
        private final int[] pew = new int[FAMILIES];
        private final boolean[] kneeling = new boolean[FAMILIES * CASES];
        private final int[] height = new int[FAMILIES * CASES];
        private final int[] sound = new int[FAMILIES * CASES];
        private final int[] caseAt = new int[WORDS];
        private final int[] wordsOfCase = new int[CASES];

        void hold(Church church) {
            families = church.families;
            limit = church.limit;
            Arrays.fill(wordsOfCase, 0);
            for (int w = 0; w < WORDS; w++) {
                caseAt[w] = bit(church.books[0], w) | bit(church.books[1], w) << 1;
                wordsOfCase[caseAt[w]]++;
            }
            for (int f = 0; f < families; f++) {
                pew[f] = church.pew[f];
                suppose(church, f, church.kind[f], church.book[f]);
            }
        }

        /** As if a family were of this kind and had this book; all else of it as in the church. */
        void suppose(Church church, int f, int kind, int b) {
            Plain way = kinds[kind];
            book[f] = b;
            for (int c = 0; c < CASES; c++) {
                int i = f * CASES + c;
                kneeling[i] = way.kneelsAt(bit(c, b) == 1, bit(c, 1 - b) == 1);
                height[i] = way.height(church.tall[f], kneeling[i]);
                sound[i] = way.sound(church.voices[f], kneeling[i]);
            }
        }

        boolean kneels(int f, int w) {
            return kneeling[f * CASES + caseAt[w]];
        }

        int high(int f, int w) {
            return height[f * CASES + caseAt[w]];
        }

        int voices(int f, int w, int colds) {
            return bit(colds, f) == 1 ? 0 : sound[f * CASES + caseAt[w]];
        }

        boolean sees(int f, int w) {
            for (int g = 0; g < families; g++) {
                if (pew[g] < pew[f] && high(g, w) >= high(f, w)) {
                    return false;
                }
            }
            return true;
        }

        int loudness(int w, int b, int colds) {
            return loudnessInCase(caseAt[w], b, colds);
        }

        int loudnessInCase(int c, int b, int colds) {
            int loud = 0;
            for (int f = 0; f < families; f++) {
                if (book[f] == b && bit(colds, f) == 0) {
                    loud += sound[f * CASES + c];
                }
            }
            return loud;
        }

        boolean isPeaceful(int w, int colds) {
            return isPeacefulInCase(caseAt[w], colds);
        }

        private boolean isPeacefulInCase(int c, int colds) {
            return Math.abs(loudnessInCase(c, 0, colds) - loudnessInCase(c, 1, colds)) <= limit;
        }

        int peacefulWords(int colds) {
            int words = 0;
            for (int c = 0; c < CASES; c++) {
                if (wordsOfCase[c] > 0 && isPeacefulInCase(c, colds)) {
                    words += wordsOfCase[c];
                }
            }
            return words;
        }

        boolean isPeacefulThroughout(int colds) {
            for (int c = 0; c < CASES; c++) {
                if (wordsOfCase[c] > 0 && !isPeacefulInCase(c, colds)) {
                    return false;
                }
            }
            return true;
        }

        boolean agreesWith(Church church, int colds) {
            for (int i = 0; i < church.heards; i++) {
                if (loudness(church.heardWord[i], church.heardBook[i], colds) != church.heardLoud[i]) {
                    return false;
                }
            }
            return true;
        }
    }

    /**
     * The best seats, pew by pew from the front: what a family sees hangs only on who sits ahead, not on how.
     * A score is the number of those who see, then a figure for each family in order: 9 less its pew. So the
     * greatest score is the first of the best ways; 112 who see and seven figures are within an int.
     */
    static final class Seating {
        private static final int ONE_SEES = 10000000;
        private static final int[] FIGURE_OF = {1000000, 100000, 10000, 1000, 100, 10, 1};
        private static final int UNSEATED = -1;

        private final int[] best = new int[SETS];
        private final int[] tallest = new int[SETS * CASES];
        private int score;

        void find(Service service) {
            int sets = 1 << service.families;
            findTallest(service, sets);
            Arrays.fill(best, UNSEATED);
            best[0] = 0;
            for (int pew = 0; pew < PEWS; pew++) {
                fillPew(service, sets, pew);
            }
            score = best[sets - 1];
        }

        int seen() {
            return score / ONE_SEES;
        }

        int pewOf(int f) {
            return PEWS - 1 - score / FIGURE_OF[f] % 10;
        }

        private void findTallest(Service service, int sets) {
            for (int c = 0; c < CASES; c++) {
                tallest[c] = -1;
            }
            for (int set = 1; set < sets; set++) {
                int f = firstOf(set);
                int others = set & ~(1 << f);
                for (int c = 0; c < CASES; c++) {
                    tallest[set * CASES + c] = Math.max(tallest[others * CASES + c], service.height[f * CASES + c]);
                }
            }
        }

        private static int firstOf(int set) {
            int f = 0;
            while (f < FAMILIES - 1 && bit(set, f) == 0) {
                f++;
            }
            return f;
        }

        /** From the fullest set down, so that the sets looked back at are still without this pew. */
        private void fillPew(Service service, int sets, int pew) {
            for (int set = sets - 1; set > 0; set--) {
                for (int f = 0; f < service.families; f++) {
                    int ahead = set & ~(1 << f);
                    if (ahead != set && service.book[f] == pew % 2 && best[ahead] != UNSEATED) {
                        best[set] = Math.max(best[set], best[ahead] + worth(service, f, ahead, pew));
                    }
                }
            }
        }

        private int worth(Service service, int f, int ahead, int pew) {
            int words = 0;
            for (int c = 0; c < CASES; c++) {
                if (service.height[f * CASES + c] > tallest[ahead * CASES + c]) {
                    words += service.wordsOfCase[c];
                }
            }
            return words * ONE_SEES + (PEWS - 1 - pew) * FIGURE_OF[f];
        }
    }

    /** Which sets of families may have had a cold, by what was heard. */
    static final class Coughs {
        private final boolean[] fits = new boolean[SETS];
        private final int[] alike = new int[MOST_LOUD + 1];
        private int sets;
        private int fitting;
        private int inAll;
        private int inSome;

        void find(Church church, Service service) {
            sets = church.sets();
            fitting = 0;
            inAll = sets - 1;
            inSome = 0;
            for (int set = 0; set < sets; set++) {
                fits[set] = service.agreesWith(church, set);
                if (fits[set]) {
                    fitting++;
                    inAll &= set;
                    inSome |= set;
                }
            }
        }

        int bestWord(Service service) {
            if (fitting == 0) {
                return NONE;
            }
            int best = NONE;
            int fewest = 0;
            for (int c = 0; c < CASES; c++) {
                int first = firstWordOf(service, c);
                int most = first == NONE ? 0 : mostAlike(service, c);
                boolean better = best == NONE || most < fewest || (most == fewest && first < best);
                if (first != NONE && better) {
                    best = first;
                    fewest = most;
                }
            }
            return best;
        }

        private static int firstWordOf(Service service, int c) {
            for (int w = 0; w < WORDS; w++) {
                if (service.caseAt[w] == c) {
                    return w;
                }
            }
            return NONE;
        }

        private int mostAlike(Service service, int c) {
            Arrays.fill(alike, 0);
            int most = 0;
            for (int set = 0; set < sets; set++) {
                if (fits[set]) {
                    int loud = service.loudnessInCase(c, 0, set);
                    alike[loud]++;
                    most = Math.max(most, alike[loud]);
                }
            }
            return most;
        }
    }

    /** The text that tells a church, and its reading, token by token. */
    static final class TextOfChurch {
        private static final int END = 0, WORD = 1, NUMBER = 2, STOP = 3, STRANGE = 4;
        private static final int BLANK = 32;

        private final int[] bytes = new int[MOST_BYTES];
        private int length;
        private int token;
        private int start;
        private int behind;
        private int value;

        /** The caller has seen that there is room for one more. */
        int append(int c) {
            bytes[length] = c;
            length++;
            return length;
        }

        /** How many items the church has that is told; or else -10 less the fault, and the church is half told. */
        int tell(Church church) {
            behind = 0;
            advance();
            if (!says("church") || !takesNumber(0, MOST_LIMIT)) {
                return FAULT_BASE - start;
            }
            church.begin(value);
            if (!takesStop()) {
                return FAULT_BASE - start;
            }
            int items = 1;
            for (advance(); token != END && items <= MOST_BYTES; advance()) {
                if (!takesItem(church)) {
                    return FAULT_BASE - start;
                }
                items++;
            }
            return items;
        }

        private boolean takesItem(Church church) {
            if (says("book")) {
                return takesBook(church);
            }
            if (says("family")) {
                return takesFamily(church);
            }
            return says("cold") && takesCold(church);
        }

        private boolean takesBook(Church church) {
            if (!takesNumber(0, BOOKS - 1)) {
                return false;
            }
            int b = value;
            int words = 0;
            advance();
            for (int i = 0; i < MOST_BYTES && token == NUMBER; i++) {
                if (!isNumber(0, WORDS - 1)) {
                    return false;
                }
                words |= 1 << value;
                advance();
            }
            church.books[b] = words;
            return token == STOP;
        }

        private boolean takesFamily(Church church) {
            if (church.families >= FAMILIES || !takesNumber(0, KINDS - 1)) {
                return false;
            }
            int kind = value;
            if (!takesNumber(0, BOOKS - 1)) {
                return false;
            }
            int b = value;
            if (!takesNumber(1, MOST_TALL)) {
                return false;
            }
            int tall = value;
            if (!takesNumber(1, MOST_VOICES)) {
                return false;
            }
            int voices = value;
            if (!takesNumber(0, PEWS - 1) || !isPewOf(value, b) || church.isTaken(value)) {
                return false;
            }
            church.admit(kind, b, tall, voices, value);
            return takesStop();
        }

        private boolean takesCold(Church church) {
            if (!takesNumber(0, church.families - 1)) {
                return false;
            }
            church.colds |= 1 << value;
            return takesStop();
        }

        private boolean takesNumber(int least, int most) {
            advance();
            return isNumber(least, most);
        }

        private boolean takesStop() {
            advance();
            return token == STOP;
        }

        private boolean isNumber(int least, int most) {
            return token == NUMBER && within(value, least, most);
        }

        private boolean says(String word) {
            if (token != WORD || behind - start != word.length()) {
                return false;
            }
            for (int i = 0; i < word.length(); i++) {
                if (bytes[start + i] != word.charAt(i)) {
                    return false;
                }
            }
            return true;
        }

        private void advance() {
            start = behind;
            while (start < length && bytes[start] == BLANK) {
                start++;
            }
            behind = start;
            if (start >= length) {
                token = END;
                return;
            }
            token = sortOf(bytes[start]);
            behind++;
            boolean runsOn = token == WORD || token == NUMBER;
            while (runsOn && behind < length && sortOf(bytes[behind]) == token) {
                behind++;
            }
            value = token == NUMBER ? figures() : -1;
        }

        /** A third figure makes the whole number one that no place takes. */
        private int figures() {
            if (behind - start > 2) {
                return -1;
            }
            int number = 0;
            for (int i = start; i < behind; i++) {
                number = number * 10 + bytes[i] - '0';
            }
            return number;
        }

        private static int sortOf(int c) {
            if (c >= 'a' && c <= 'z') {
                return WORD;
            }
            if (c >= '0' && c <= '9') {
                return NUMBER;
            }
            return c == ';' ? STOP : STRANGE;
        }
    }
}
