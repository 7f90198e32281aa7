/**
 * Verses of words whose edges change where they are joined, the ways of saying them, the slips
 * these ways show or hide, and the heads that hold them. DOC.md tells what each call promises.
 */
public final class SaidWoven {
    public static final int BAD = -1, NO = -2, FULL = -3, NONE = -4;

    private static final int MOST_BYTES = 300;
    private static final int MOST_WORDS = 16;
    private static final int EDGES = 8;
    private static final int BODIES = 16;
    private static final int VERSES = 6;
    private static final int PLACES = 8;
    private static final int WAYS = 5;
    private static final int ALL_SETS = 1 << WAYS;
    private static final int MOST_HOURS = 495;
    private static final int MOST_TOKENS = 84;
    private static final int TOKENS = 1024;
    private static final int MOST_SLIPS = 20;
    private static final int MOST_HEADS = 16;
    private static final int LATEST_YEAR = 3000;
    private static final int MOST_KEPT = 2;

    private static final int JOINED = 0, PARTED = 1, STEPPED = 2, BRAIDED = 3;

    /** Stands for the word before the first and behind the last one of a group. */
    private static final int NOBODY = MOST_WORDS;
    private static final int SEATS = MOST_WORDS + 1;

    /** More than any number of unlike tokens. */
    private static final int ENDLESS = 1000000;

    private final Script script = new Script();
    private Tongue tongue = new Tongue();
    private Tongue draft = new Tongue();
    private final Book book = new Book();
    private final Book keptFirst = new Book();
    private final Book keptSecond = new Book();
    private int keptCount;
    private final Course course = new Course();
    private final Loom loom = new Loom(tongue);
    private final Slips slipped = new Slips();
    private final Heads heads = new Heads();
    private final int[] slippedRow = new int[PLACES];
    private final int[] farBySet = new int[ALL_SETS];

    public SaidWoven() {
    }

    // ---- texts, verses

    public int write(int n, long v) {
        if (n < 1 || n > 8) {
            return BAD;
        }
        return script.append(n, v);
    }

    public int wipe() {
        int length = script.length;
        script.length = 0;
        return length;
    }

    public int fault() {
        return script.readInto(draft);
    }

    public int lay() {
        if (script.readInto(draft) != NONE) {
            return NO;
        }
        Tongue read = draft;
        draft = tongue;
        tongue = read;
        tongue.joinAll();
        book.empty();
        slipped.count = 0;
        heads.count = 0;
        keptCount = 0;
        return tongue.words;
    }

    public int joined(int last, int first) {
        if (!isBelow(last, EDGES) || !isBelow(first, EDGES)) {
            return BAD;
        }
        return tongue.joining[EDGES * last + first];
    }

    public int add(int verse, int word) {
        if (!isBelow(verse, VERSES) || !isBelow(word, tongue.words)) {
            return BAD;
        }
        int size = book.sizes[verse];
        if (size >= PLACES) {
            return FULL;
        }
        book.words[verse][size] = word;
        book.sizes[verse] = size + 1;
        return size + 1;
    }

    public int clear(int verse) {
        if (!isBelow(verse, VERSES)) {
            return BAD;
        }
        int size = book.sizes[verse];
        book.sizes[verse] = 0;
        return size;
    }

    public int word(int verse, int place) {
        if (!isBelow(verse, VERSES) || !isBelow(place, PLACES)) {
            return BAD;
        }
        return place < book.sizes[verse] ? book.words[verse][place] : NONE;
    }

    public int said(int verse, int way, int i) {
        if (!isBelow(verse, VERSES) || !isBelow(way, WAYS) || i < -1) {
            return BAD;
        }
        if (book.sizes[verse] == 0) {
            return NO;
        }
        course.follow(way, book.sizes[verse]);
        if (i == -1) {
            return course.count;
        }
        return i < course.count ? course.token(tongue, book.words[verse], i) : NONE;
    }

    // ---- sayings

    public int say(int verse, int way) {
        if (!isBelow(verse, VERSES) || !isBelow(way, WAYS)) {
            return BAD;
        }
        if (book.sizes[verse] == 0) {
            return NO;
        }
        course.follow(way, book.sizes[verse]);
        for (int t = 0; t < course.count; t++) {
            book.tokens[t] = course.token(tongue, book.words[verse], t);
        }
        book.tokenCount = course.count;
        book.way = way;
        book.places = book.sizes[verse];
        return book.tokenCount;
    }

    public int alter(int i, int token) {
        if (!isBelow(i, book.tokenCount) || !isBelow(token, TOKENS)) {
            return BAD;
        }
        int was = book.tokens[i];
        book.tokens[i] = token;
        return was;
    }

    public long soundSo() {
        if (book.tokenCount == 0) {
            return NO;
        }
        weighSaying();
        return loom.fewest == 0 ? loom.nearestRows : 0;
    }

    public int nearest(int verse) {
        if (!isBelow(verse, VERSES)) {
            return BAD;
        }
        if (book.tokenCount == 0) {
            return NO;
        }
        weighSaying();
        loom.lowestRow(book.words[verse]);
        book.sizes[verse] = book.places;
        return loom.fewest;
    }

    public long rivals() {
        if (book.tokenCount == 0) {
            return NO;
        }
        weighSaying();
        return loom.nearestRows;
    }

    // ---- ways

    public int far(int verse, int ways, int what) {
        if (!isBelow(verse, VERSES) || !isBelow(ways, ALL_SETS) || !isBelow(what, 3)) {
            return BAD;
        }
        int refusal = refusalToCompare(verse);
        if (refusal != 0) {
            return refusal;
        }
        int far = farBy(verse, ways);
        int shows = Math.max(0, far - 1);
        if (what == 0) {
            return far;
        }
        return what == 1 ? shows : shows / 2;
    }

    public int best(int verse, int hours, int what) {
        if (!isBelow(verse, VERSES) || !isBelow(hours, MOST_HOURS + 1) || !isBelow(what, 2)) {
            return BAD;
        }
        int refusal = refusalToCompare(verse);
        if (refusal != 0) {
            return refusal;
        }
        int ways = farthestWays(verse, hours);
        return what == 0 ? ways : farBySet[ways];
    }

    public int learnt(int verse, int place, int word) {
        if (!isBelow(verse, VERSES) || !isBelow(word, tongue.words) || !isSuch(verse, place, word)) {
            return BAD;
        }
        return waysThatShow(verse, place, word);
    }

    public int slip(int verse, int place, int word) {
        if (!isBelow(verse, VERSES) || !isBelow(place, PLACES) || !isBelow(word, tongue.words)) {
            return BAD;
        }
        return slipped.append(verse, place, word);
    }

    public int noSlips() {
        int count = slipped.count;
        slipped.count = 0;
        return count;
    }

    public int slips(int what) {
        switch (what) {
            case 0:
                return hiddenSlips();
            case 1:
                return fewestWays();
            case 2:
                return listedSlips();
            case 3:
                return suchSlips();
            default:
                return BAD;
        }
    }

    public int list(int verse, int e) {
        if (!isBelow(verse, VERSES) || !isBelow(e, EDGES + 1)) {
            return BAD;
        }
        int[] row = book.words[verse];
        int times = 0;
        int sum = 0;
        for (int p = 0; p < book.sizes[verse]; p++) {
            times += tongue.first[row[p]] == e ? 1 : 0;
            sum += tongue.body[row[p]];
        }
        return e == EDGES ? sum % BODIES : times;
    }

    // ---- heads

    public int head(int year, int by, int verse) {
        if (!isBelow(year, LATEST_YEAR + 1) || !isBelow(verse, VERSES) || !heads.mayTeach(by, year)) {
            return BAD;
        }
        return heads.append(year, by, verse);
    }

    public int alive(int head, boolean is) {
        if (!isBelow(head, heads.count)) {
            return BAD;
        }
        int was = heads.living[head] ? 1 : 0;
        heads.living[head] = is;
        return was;
    }

    public int same(int place) {
        if (!isBelow(place, PLACES)) {
            return BAD;
        }
        return heads.agree(book, place) ? 1 : 0;
    }

    public int since(int place, int word) {
        if (!isBelow(place, PLACES) || !isBelow(word, tongue.words)) {
            return BAD;
        }
        return heads.allHave(book, place, word) ? heads.latestCommonYear() : NONE;
    }

    public int lost(int heads) {
        if (!this.heads.isSet(heads)) {
            return BAD;
        }
        return this.heads.versesOf(heads) & ~this.heads.versesOf(~heads);
    }

    public int from(int heads, int verse) {
        if (!this.heads.isSet(heads) || !isBelow(verse, VERSES)) {
            return BAD;
        }
        return this.heads.lowestWith(~heads, verse);
    }

    public long odds(int s, int m, int k, int part) {
        if (!isBelow(s, 101) || !isBelow(m, 101) || k < 1 || k > 4 || !isBelow(part, 2)) {
            return BAD;
        }
        int whole = 10000 - s * (100 - m);
        int shared = commonDivisor(whole, 10000);
        int base = (part == 0 ? whole : 10000) / shared;
        long power = 1;
        for (int i = 0; i < k; i++) {
            power *= base;
        }
        return power;
    }

    public int keep() {
        if (keptCount >= MOST_KEPT) {
            return FULL;
        }
        keptAt(keptCount).copy(book);
        keptCount++;
        return keptCount;
    }

    public int back() {
        if (keptCount <= 0) {
            return NO;
        }
        keptCount--;
        book.copy(keptAt(keptCount));
        return keptCount;
    }

    public int count(int what) {
        switch (what) {
            case 0:
                return tongue.words;
            case 1:
                return script.length;
            case 2:
                return book.tokenCount;
            case 3:
                return slipped.count;
            case 4:
                return heads.count;
            case 5:
                return keptCount;
            case 6:
                return book.wordsInAll();
            default:
                return BAD;
        }
    }

    // ---- what the calls share

    private static boolean isBelow(int number, int bound) {
        return number >= 0 && number < bound;
    }

    private Book keptAt(int i) {
        return i == 0 ? keptFirst : keptSecond;
    }

    /** At least 1, so that it may divide. */
    private static int commonDivisor(int a, int b) {
        int larger = a;
        int smaller = b;
        for (int i = 0; i < 64 && smaller > 0; i++) {
            int rest = larger % smaller;
            larger = smaller;
            smaller = rest;
        }
        return Math.max(1, larger);
    }

    private void weighSaying() {
        loom.begin(tongue, book.places);
        course.follow(book.way, book.places);
        for (int t = 0; t < course.count; t++) {
            loom.wants.want(course.before(t), course.places[t], course.behind(t), book.tokens[t]);
        }
        loom.weigh();
    }

    /** 0, if a verse has other rows that it can be compared with. */
    private int refusalToCompare(int verse) {
        if (book.sizes[verse] == 0) {
            return NO;
        }
        return tongue.words < 2 ? NONE : 0;
    }

    private int farBy(int verse, int ways) {
        int[] row = book.words[verse];
        loom.begin(tongue, book.sizes[verse]);
        for (int way = 0; way < WAYS; way++) {
            if ((ways >> way & 1) == 1) {
                wantAsSaid(row, way, book.sizes[verse]);
            }
        }
        loom.weigh();
        return loom.farFrom(row);
    }

    private void wantAsSaid(int[] row, int way, int size) {
        course.follow(way, size);
        for (int t = 0; t < course.count; t++) {
            loom.wants.want(course.before(t), course.places[t], course.behind(t), course.token(tongue, row, t));
        }
    }

    /**
     * From all ways down to none: with a way less no row is farther, so what a larger set
     * reached is a ceiling, and most sets need no weighing.
     */
    private int farthestWays(int verse, int hours) {
        int most = 0;
        int farthest = 0;
        for (int set = ALL_SETS - 1; set >= 0; set--) {
            farBySet[set] = ENDLESS;
            if (tongue.hoursOf(set) > hours) {
                continue;
            }
            int ceiling = set == 0 ? 0 : ceilingOf(set);
            if (ceiling >= most && ceiling > 0) {
                ceiling = farBy(verse, set);
            }
            farBySet[set] = ceiling;
            if (ceiling >= most) {
                most = ceiling;
                farthest = set;
            }
        }
        return farthest;
    }

    private int ceilingOf(int set) {
        int ceiling = ENDLESS;
        for (int way = 0; way < WAYS; way++) {
            if ((set >> way & 1) == 0) {
                ceiling = Math.min(ceiling, farBySet[set | 1 << way]);
            }
        }
        return ceiling;
    }

    /** Whether there is such a place now, with another word. */
    private boolean isSuch(int verse, int place, int word) {
        return isBelow(place, book.sizes[verse]) && book.words[verse][place] != word;
    }

    private int waysThatShow(int verse, int place, int word) {
        System.arraycopy(book.words[verse], 0, slippedRow, 0, PLACES);
        slippedRow[place] = word;
        int ways = 0;
        for (int way = 0; way < WAYS; way++) {
            course.follow(way, book.sizes[verse]);
            if (course.tells(tongue, book.words[verse], slippedRow)) {
                ways |= 1 << way;
            }
        }
        return ways;
    }

    private boolean isSuchSlip(int i) {
        return isSuch(slipped.verses[i], slipped.places[i], slipped.words[i]);
    }

    private int waysThatShowSlip(int i) {
        return waysThatShow(slipped.verses[i], slipped.places[i], slipped.words[i]);
    }

    private int suchSlips() {
        int such = 0;
        for (int i = 0; i < slipped.count; i++) {
            such += isSuchSlip(i) ? 1 : 0;
        }
        return such;
    }

    private int hiddenSlips() {
        int hidden = 0;
        for (int i = 0; i < slipped.count; i++) {
            if (isSuchSlip(i)) {
                int ways = waysThatShowSlip(i);
                hidden += (ways >> JOINED & 1) == 0 && (ways >> PARTED & 1) == 1 ? 1 : 0;
            }
        }
        return hidden;
    }

    private int listedSlips() {
        int listed = 0;
        for (int i = 0; i < slipped.count; i++) {
            if (isSuchSlip(i)) {
                int was = book.words[slipped.verses[i]][slipped.places[i]];
                listed += tongue.isListedAlike(was, slipped.words[i]) ? 0 : 1;
            }
        }
        return listed;
    }

    private int fewestWays() {
        for (int i = 0; i < slipped.count; i++) {
            slipped.ways[i] = isSuchSlip(i) ? waysThatShowSlip(i) : 0;
        }
        int fewest = ALL_SETS - 1;
        for (int set = ALL_SETS - 1; set >= 0; set--) {
            if (slipped.allShownBy(set) && Integer.bitCount(set) <= Integer.bitCount(fewest)) {
                fewest = set;
            }
        }
        return fewest;
    }

    /** THE TEXT, and how it is read. */
    private static final class Script {
        final byte[] bytes = new byte[MOST_BYTES];
        int length;
        private int at;
        private final int[] numbers = new int[4];

        int append(int n, long v) {
            if (length + n > MOST_BYTES) {
                return FULL;
            }
            for (int i = n - 1; i >= 0; i--) {
                bytes[length] = (byte) (v >> 8 * i);
                length++;
            }
            return length;
        }

        /** FAULT, or NONE. */
        int readInto(Tongue reader) {
            reader.forget();
            at = 0;
            for (int items = 0; items < MOST_BYTES && at < length; items++) {
                int start = at;
                if (!readItem(reader)) {
                    return start;
                }
            }
            return NONE;
        }

        private boolean readItem(Tongue reader) {
            int letter = bytes[at];
            at++;
            switch (letter) {
                case 'w':
                    return readNumbers(3) && reader.learnWord(numbers);
                case 'j':
                    return readNumbers(4) && reader.learnJoining(numbers);
                case 'h':
                    return readNumbers(2) && reader.learnHours(numbers);
                default:
                    return false;
            }
        }

        private boolean readNumbers(int many) {
            for (int i = 0; i < many; i++) {
                int start = at;
                int number = 0;
                while (at < length && at < start + 2 && isFigure(bytes[at])) {
                    number = 10 * number + bytes[at] - '0';
                    at++;
                }
                char end = i == many - 1 ? ';' : ',';
                if (at == start || at >= length || bytes[at] != end) {
                    return false;
                }
                at++;
                numbers[i] = number;
            }
            return true;
        }

        private static boolean isFigure(int sign) {
            return sign >= '0' && sign <= '9';
        }
    }

    /** What a TEXT tells: words, joinings, hours. */
    private static final class Tongue {
        int words;
        final int[] first = new int[MOST_WORDS];
        final int[] body = new int[MOST_WORDS];
        final int[] last = new int[MOST_WORDS];
        final int[] joining = new int[EDGES * EDGES];
        final int[] hours = new int[WAYS];
        /** A token's FIRST edge and BODY hang on the word before, its LAST edge on the word behind. */
        final int[] front = new int[SEATS * SEATS];
        final int[] rear = new int[SEATS * SEATS];

        Tongue() {
            forget();
        }

        void forget() {
            words = 0;
            for (int i = 0; i < EDGES * EDGES; i++) {
                joining[i] = i;
            }
            for (int i = 0; i < WAYS; i++) {
                hours[i] = 1;
            }
        }

        boolean learnWord(int[] told) {
            if (words >= MOST_WORDS || told[0] >= EDGES || told[1] >= BODIES || told[2] >= EDGES) {
                return false;
            }
            for (int w = 0; w < words; w++) {
                if (first[w] == told[0] && body[w] == told[1] && last[w] == told[2]) {
                    return false;
                }
            }
            first[words] = told[0];
            body[words] = told[1];
            last[words] = told[2];
            words++;
            return true;
        }

        boolean learnJoining(int[] told) {
            for (int i = 0; i < 4; i++) {
                if (told[i] >= EDGES) {
                    return false;
                }
            }
            joining[EDGES * told[0] + told[1]] = EDGES * told[2] + told[3];
            return true;
        }

        boolean learnHours(int[] told) {
            if (told[0] >= WAYS) {
                return false;
            }
            hours[told[0]] = told[1];
            return true;
        }

        /** Once for all tokens, since joinings go by the edges as they are in the words. */
        void joinAll() {
            for (int w = 0; w < words; w++) {
                front[SEATS * NOBODY + w] = 128 * first[w] + 8 * body[w];
                rear[SEATS * NOBODY + w] = last[w];
                for (int other = 0; other < words; other++) {
                    int asBehind = joining[EDGES * last[other] + first[w]];
                    int asBefore = joining[EDGES * last[w] + first[other]];
                    front[SEATS * other + w] = 128 * (asBehind % EDGES) + 8 * body[w];
                    rear[SEATS * other + w] = asBefore / EDGES;
                }
            }
        }

        int token(int before, int word, int behind) {
            return front[SEATS * before + word] + rear[SEATS * behind + word];
        }

        int hoursOf(int set) {
            int sum = 0;
            for (int way = 0; way < WAYS; way++) {
                sum += (set >> way & 1) * hours[way];
            }
            return sum;
        }

        /** BODIES are below 16, so another one always moves the SUM. */
        boolean isListedAlike(int word, int other) {
            return first[word] == first[other] && body[word] == body[other];
        }
    }

    /** VERSES and THE SAYING: what is kept and comes back. */
    private static final class Book {
        final int[][] words = new int[VERSES][PLACES];
        final int[] sizes = new int[VERSES];
        final int[] tokens = new int[MOST_TOKENS];
        int tokenCount;
        int way;
        int places;

        void empty() {
            for (int v = 0; v < VERSES; v++) {
                sizes[v] = 0;
            }
            tokenCount = 0;
        }

        void copy(Book other) {
            for (int v = 0; v < VERSES; v++) {
                System.arraycopy(other.words[v], 0, words[v], 0, PLACES);
            }
            System.arraycopy(other.sizes, 0, sizes, 0, VERSES);
            System.arraycopy(other.tokens, 0, tokens, 0, MOST_TOKENS);
            tokenCount = other.tokenCount;
            way = other.way;
            places = other.places;
        }

        int wordsInAll() {
            int sum = 0;
            for (int v = 0; v < VERSES; v++) {
                sum += sizes[v];
            }
            return sum;
        }

        boolean has(int verse, int place, int word) {
            return place < sizes[verse] && words[verse][place] == word;
        }
    }

    /** The places that a way goes through, token by token, and where its groups begin. */
    private static final class Course {
        private static final int[] ROW = {0, 1, 2, 3, 4, 5, 6, 7};
        private static final int[] BRAID = {0, 1, 1, 0, 0, 1};
        private static final int[] THREES = {0, 1, 1, 0, 0, 1, 2, 2, 1, 0, 0, 1, 2};

        int count;
        final int[] places = new int[MOST_TOKENS];
        private final boolean[] opens = new boolean[MOST_TOKENS];

        void follow(int way, int size) {
            count = 0;
            if (size == 1 || way == JOINED) {
                group(0, ROW, size);
            } else if (way == PARTED) {
                groups(size, ROW, 1);
            } else if (way == STEPPED) {
                groups(size - 1, ROW, 2);
            } else if (way == BRAIDED) {
                groups(size - 1, BRAID, BRAID.length);
            } else {
                groups(size - 2, THREES, THREES.length);
                group(size - 2, BRAID, BRAID.length);
            }
        }

        private void groups(int many, int[] pattern, int length) {
            for (int start = 0; start < many; start++) {
                group(start, pattern, length);
            }
        }

        private void group(int start, int[] pattern, int length) {
            for (int i = 0; i < length && count < MOST_TOKENS; i++) {
                places[count] = start + pattern[i];
                opens[count] = i == 0;
                count++;
            }
        }

        /** The place that is joined before a token's, -1 if none is. */
        int before(int t) {
            return t == 0 || opens[t] ? -1 : places[t - 1];
        }

        int behind(int t) {
            return t + 1 >= count || opens[t + 1] ? -1 : places[t + 1];
        }

        int token(Tongue tongue, int[] row, int t) {
            int before = before(t);
            int behind = behind(t);
            return tongue.token(before < 0 ? NOBODY : row[before], row[places[t]], behind < 0 ? NOBODY : row[behind]);
        }

        /** Whether two rows are said otherwise. */
        boolean tells(Tongue tongue, int[] row, int[] other) {
            for (int t = 0; t < count; t++) {
                if (token(tongue, row, t) != token(tongue, other, t)) {
                    return true;
                }
            }
            return false;
        }
    }

    /**
     * The tokens that rows are held against. A token hangs on its own place and on those joined
     * to it: on two neighbours at most (a TIE, weighed when the later one gets its word), or on
     * three, its own in the middle (a SPAN: one half is known with its own word, the other half
     * with the next one). Tokens that hang on the same places alike are weighed as one.
     */
    private static final class Wants {
        private static final int MOST_TIES = 16;
        private static final int MOST_SPANS = 3;
        private static final int ALONE = 0, EARLIER = 1, LATER = 2;
        static final int BEFORE = 0, BEHIND = 1;

        private Tongue tongue;
        private final int[] ties = new int[PLACES];
        private final int[][] tieBefore = new int[PLACES][MOST_TIES];
        private final int[][] tieHere = new int[PLACES][MOST_TIES];
        private final int[][] tieBehind = new int[PLACES][MOST_TIES];
        private final int[][] tieToken = new int[PLACES][MOST_TIES];
        private final int[][] tieWeight = new int[PLACES][MOST_TIES];
        private final int[] spans = new int[PLACES];
        private final int[][] spanFront = new int[PLACES][MOST_SPANS];
        private final int[][] spanToken = new int[PLACES][MOST_SPANS];
        private final int[][] spanWeight = new int[PLACES][MOST_SPANS];
        private final int[] seat = {NOBODY, NOBODY, NOBODY};

        Wants(Tongue tongue) {
            this.tongue = tongue;
        }

        void begin(Tongue tongue) {
            this.tongue = tongue;
            for (int p = 0; p < PLACES; p++) {
                ties[p] = 0;
                spans[p] = 0;
            }
        }

        void want(int before, int here, int behind, int token) {
            if (before >= 0 && behind >= 0 && Math.abs(before - behind) == 2) {
                wantSpan(here, before > behind ? BEHIND : BEFORE, token);
            } else {
                wantTie(before, here, behind, token);
            }
        }

        private void wantSpan(int p, int front, int token) {
            for (int i = 0; i < spans[p]; i++) {
                if (spanFront[p][i] == front && spanToken[p][i] == token) {
                    spanWeight[p][i]++;
                    return;
                }
            }
            if (spans[p] < MOST_SPANS) {
                int i = spans[p];
                spanFront[p][i] = front;
                spanToken[p][i] = token;
                spanWeight[p][i] = 1;
                spans[p]++;
            }
        }

        private void wantTie(int before, int here, int behind, int token) {
            int p = Math.max(here, Math.max(before, behind));
            int a = seatOf(before, p);
            int b = seatOf(here, p);
            int c = seatOf(behind, p);
            for (int i = 0; i < ties[p]; i++) {
                if (tieBefore[p][i] == a && tieHere[p][i] == b && tieBehind[p][i] == c && tieToken[p][i] == token) {
                    tieWeight[p][i]++;
                    return;
                }
            }
            if (ties[p] < MOST_TIES) {
                int i = ties[p];
                tieBefore[p][i] = a;
                tieHere[p][i] = b;
                tieBehind[p][i] = c;
                tieToken[p][i] = token;
                tieWeight[p][i] = 1;
                ties[p]++;
            }
        }

        private static int seatOf(int place, int later) {
            if (place < 0) {
                return ALONE;
            }
            return place == later ? LATER : EARLIER;
        }

        /** How many ties of a place are unlike, with a word there and one before it. */
        int unlikeTies(int p, int before, int word) {
            seat[EARLIER] = before;
            seat[LATER] = word;
            int unlike = 0;
            for (int i = 0; i < ties[p]; i++) {
                int token = tongue.token(seat[tieBefore[p][i]], seat[tieHere[p][i]], seat[tieBehind[p][i]]);
                unlike += token == tieToken[p][i] ? 0 : tieWeight[p][i];
            }
            return unlike;
        }

        int spansAt(int p) {
            return spans[p];
        }

        /** Spans of a place, as bits, of which the half towards a neighbour (BEFORE, BEHIND) is right. */
        int rightHalves(int p, int side, int word, int neighbour) {
            int at = SEATS * neighbour + word;
            int right = 0;
            for (int i = 0; i < spans[p]; i++) {
                int rear = spanToken[p][i] % EDGES;
                boolean isRight = spanFront[p][i] == side
                    ? tongue.front[at] == spanToken[p][i] - rear
                    : tongue.rear[at] == rear;
                right |= isRight ? 1 << i : 0;
            }
            return right;
        }

        /** How many spans of a place are unlike, if these have both halves right. */
        int unlikeSpans(int p, int right) {
            int unlike = 0;
            for (int i = 0; i < spans[p]; i++) {
                unlike += (right >> i & 1) == 1 ? 0 : spanWeight[p][i];
            }
            return unlike;
        }
    }

    /**
     * Weighs all rows of so many words at once, from the last place to the first: for each word
     * of a place, and each set of its spans begun right, the fewest unlike tokens that the
     * places behind it can have, and how many rows have so few.
     */
    private static final class Loom {
        private static final int BEGUN = 8;
        private static final int ALL_BEGUN = BEGUN - 1;

        final Wants wants;
        int fewest;
        long nearestRows;
        private int words;
        private int places;
        private final int[][] least = new int[PLACES][BEGUN * MOST_WORDS];
        private final long[][] rows = new long[PLACES][BEGUN * MOST_WORDS];
        private final int[] unlikeSpans = new int[BEGUN];

        Loom(Tongue tongue) {
            wants = new Wants(tongue);
        }

        void begin(Tongue tongue, int places) {
            this.places = places;
            words = tongue.words;
            wants.begin(tongue);
        }

        void weigh() {
            for (int p = places - 1; p >= 0; p--) {
                for (int begun = 0; begun < BEGUN; begun++) {
                    unlikeSpans[begun] = wants.unlikeSpans(p, begun);
                }
                for (int word = 0; word < words; word++) {
                    weighWord(p, word);
                }
            }
            fewest = ENDLESS;
            nearestRows = 0;
            for (int word = 0; word < words; word++) {
                weighStart(word);
            }
        }

        private void weighWord(int p, int word) {
            int states = 1 << wants.spansAt(p);
            boolean isLast = p == places - 1;
            for (int begun = 0; begun < states; begun++) {
                least[p][BEGUN * word + begun] = isLast ? 0 : ENDLESS;
                rows[p][BEGUN * word + begun] = isLast ? 1 : 0;
            }
            for (int next = 0; next < words && !isLast; next++) {
                int state = stateOf(p + 1, word, next);
                int unlike = wants.unlikeTies(p + 1, word, next) + least[p + 1][state];
                int right = wants.rightHalves(p, Wants.BEHIND, word, next);
                for (int begun = 0; begun < states; begun++) {
                    take(p, BEGUN * word + begun, unlike + unlikeSpans[begun & right], rows[p + 1][state]);
                }
            }
        }

        private void take(int p, int state, int unlike, long many) {
            if (unlike < least[p][state]) {
                least[p][state] = unlike;
                rows[p][state] = many;
            } else if (unlike == least[p][state]) {
                rows[p][state] += many;
            }
        }

        private void weighStart(int word) {
            int state = stateOf(0, NOBODY, word);
            int unlike = wants.unlikeTies(0, NOBODY, word) + least[0][state];
            if (unlike < fewest) {
                fewest = unlike;
                nearestRows = 0;
            }
            if (unlike == fewest) {
                nearestRows += rows[0][state];
            }
        }

        private int stateOf(int p, int before, int word) {
            return BEGUN * word + wants.rightHalves(p, Wants.BEFORE, word, before);
        }

        /** Unlike tokens that are known when a place gets its word, and not before. */
        private int unlikeWith(int p, int before, int begun, int word) {
            int unlike = wants.unlikeTies(p, before, word);
            if (p == 0) {
                return unlike;
            }
            int right = begun & wants.rightHalves(p - 1, Wants.BEHIND, before, word);
            return unlike + wants.unlikeSpans(p - 1, right);
        }

        /** The lowest one of the nearest rows. */
        void lowestRow(int[] into) {
            int left = fewest;
            int before = NOBODY;
            int begun = 0;
            for (int p = 0; p < places; p++) {
                for (int word = 0; word < words; word++) {
                    int unlike = unlikeWith(p, before, begun, word);
                    int state = stateOf(p, before, word);
                    if (unlike + least[p][state] == left) {
                        into[p] = word;
                        left -= unlike;
                        begun = state % BEGUN;
                        before = word;
                        break;
                    }
                }
            }
        }

        /** The fewest unlike tokens of another row, by the place where it first is another. */
        int farFrom(int[] row) {
            int far = ENDLESS;
            int before = NOBODY;
            for (int p = 0; p < places; p++) {
                for (int word = 0; word < words; word++) {
                    if (word != row[p]) {
                        int unlike = unlikeWith(p, before, ALL_BEGUN, word) + least[p][stateOf(p, before, word)];
                        far = Math.min(far, unlike);
                    }
                }
                before = row[p];
            }
            return far;
        }
    }

    /** SLIPS as they were told. */
    private static final class Slips {
        int count;
        final int[] verses = new int[MOST_SLIPS];
        final int[] places = new int[MOST_SLIPS];
        final int[] words = new int[MOST_SLIPS];
        final int[] ways = new int[MOST_SLIPS];

        int append(int verse, int place, int word) {
            if (count >= MOST_SLIPS) {
                return FULL;
            }
            verses[count] = verse;
            places[count] = place;
            words[count] = word;
            count++;
            return count;
        }

        /** Whether a set of ways shows each slip that some way shows. */
        boolean allShownBy(int set) {
            for (int i = 0; i < count; i++) {
                if (ways[i] != 0 && (ways[i] & set) == 0) {
                    return false;
                }
            }
            return true;
        }
    }

    /** HEADS, each with the line of those it was taught by. */
    private static final class Heads {
        int count;
        final boolean[] living = new boolean[MOST_HEADS];
        private final int[] years = new int[MOST_HEADS];
        private final int[] verses = new int[MOST_HEADS];
        private final int[] lines = new int[MOST_HEADS];

        boolean mayTeach(int by, int year) {
            return by == -1 || isBelow(by, count) && years[by] < year;
        }

        int append(int year, int by, int verse) {
            if (count >= MOST_HEADS) {
                return FULL;
            }
            years[count] = year;
            verses[count] = verse;
            lines[count] = 1 << count | (by < 0 ? 0 : lines[by]);
            living[count] = true;
            count++;
            return count - 1;
        }

        boolean isSet(int set) {
            return set >= 0 && set >> count == 0;
        }

        boolean agree(Book book, int place) {
            int shared = NONE;
            for (int h = 0; h < count; h++) {
                if (living[h] && place < book.sizes[verses[h]]) {
                    int word = book.words[verses[h]][place];
                    if (shared != NONE && shared != word) {
                        return false;
                    }
                    shared = word;
                }
            }
            return true;
        }

        boolean allHave(Book book, int place, int word) {
            for (int h = 0; h < count; h++) {
                if (living[h] && !book.has(verses[h], place, word)) {
                    return false;
                }
            }
            return true;
        }

        /** NONE, if those alive have no head in common, or nobody is alive. */
        int latestCommonYear() {
            int common = 0;
            boolean isAny = false;
            for (int h = 0; h < count; h++) {
                if (living[h]) {
                    common = isAny ? common & lines[h] : lines[h];
                    isAny = true;
                }
            }
            int latest = NONE;
            for (int h = 0; h < count; h++) {
                if ((common >> h & 1) == 1) {
                    latest = Math.max(latest, years[h]);
                }
            }
            return latest;
        }

        /** Verses, as bits, that those alive of a set have. */
        int versesOf(int set) {
            int had = 0;
            for (int h = 0; h < count; h++) {
                if (living[h] && (set >> h & 1) == 1) {
                    had |= 1 << verses[h];
                }
            }
            return had;
        }

        int lowestWith(int set, int verse) {
            for (int h = 0; h < count; h++) {
                if (living[h] && (set >> h & 1) == 1 && verses[h] == verse) {
                    return h;
                }
            }
            return NONE;
        }
    }
}
