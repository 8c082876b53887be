/**
 * Phrases that use up a bag of letters. The document ../shared/DOC.md says what each call answers.
 *
 * <p>What may be left of the bag is told as a place, a number in mixed radix (one figure a letter),
 * so that a word always takes the same step downwards; all counting goes over these places.
 */
public final class BagPhrases {
    public static final int UNKNOWN = -1, BAD = -2, LATE = -3, FULL = -4, NONE = -9;

    private static final int LETTERS = 8, KINDS = 4, MOST_WORDS = 10, MOST_SPELT = 6;
    private static final int MOST_LETTERS = 12, MOST_ROW = 12, MOST_SIGNS = 180, MOST_DOINGS = 14;
    private static final int MOST_SEEN = 6, SEEN_PARTS = 3, MOST_JUDGED = 4, MOST_DRAWN = 20, SLOTS = 2;
    private static final int MOST_RANK = 9, MOST_TENTHS = 10, MOST_COMING = 8, MOST_LISTED = 2000;
    private static final int ALL_KINDS = 15, ALL_WORDS = 1023;

    /** The most places of a bag of 13 letters (3^5 2^3: WANTING asks for it), and of 12 (3^4 2^4). */
    private static final int MOST_PLACES = 1944, MOST_COUNTED = 1296;

    /** Five bits a letter in a packed bag: four to count up to 13, one to show what is wanting. */
    private static final int PACK_BITS = 5;
    private static final long PACK_GUARDS = 0x8421084210L;

    private static final int PUT = 0, TAKE = 1, BAR = 2, RANK = 3, BEGIN = 4, END = 5, FOLLOW = 6;

    private static final int IS_PHRASE = 0, IS_BARRED = 1, IS_NOT_LET = 2, WANTS = 3, LEAVES = 4,
        MAY_NOT_END = 5, HAS_NO_WORDS = 6;

    private static final long SEED_TIMES = 6364136223846793005L, SEED_MORE = 1442695040888963407L;
    private static final int SEED_SHIFT = 33;

    private static final int DOING = 10000;

    private final Reader text = new Reader();
    private final Lexicon words = new Lexicon();
    private final Setting now = new Setting();
    private final Setting spare = new Setting();
    private final Setting[] slots = {new Setting(), new Setting()};
    private final boolean[] kept = new boolean[SLOTS];
    private final Doings doings = new Doings();
    private final Phrases phrases = new Phrases(words, now);
    private final Chances chances = new Chances(words, now, phrases);
    private final int[] rowWords = new int[MOST_ROW];
    private final int[] judged = new int[MOST_JUDGED];
    private final int[] reason = new int[4];
    private final int[] remains = new int[LETTERS];
    private final int[] seen = new int[MOST_SEEN * SEEN_PARTS];
    private int rowSize = 0;
    private int seenSize = 0;
    private long theSeed = 0L;

    public BagPhrases() {
    }

    // ---- the house

    public int write(int letter) {
        if (letter < 0 || letter > 255) {
            return BAD;
        }
        return text.append(letter) ? text.size : FULL;
    }

    public int wipe() {
        int size = text.size;
        text.size = 0;
        return size;
    }

    public int fault() {
        return text.firstFault();
    }

    public int house() {
        if (text.firstFault() != NONE) {
            return LATE;
        }
        words.copy(text.words);
        now.copy(text.setting);
        doings.size = 0;
        rowSize = 0;
        for (int slot = 0; slot < SLOTS; slot++) {
            kept[slot] = false;
        }
        outdate();
        return words.count;
    }

    public int about(int what) {
        switch (what) {
            case 0: return words.count;
            case 1: return now.letters();
            case 2: return now.unlike();
            case 3: return now.barred;
            case 4: return now.begin;
            case 5: return now.end;
            case 6: return fitting();
            case 7: return phrases.wordsInPhrases();
            case 8: return phrases.fewestWords();
            case 9: return phrases.mostWords();
            case 10: return doings.size;
            case 11: return seenSize;
            case 12: return text.size;
            case 13: return rowSize;
            default: return BAD;
        }
    }

    public int word(int word, int what) {
        if (!words.has(word)) {
            return UNKNOWN;
        }
        switch (what) {
            case 0: return words.sizes[word];
            case 1: return words.kinds[word];
            case 2: return now.ranks[word];
            case 3: return now.barred >> word & 1;
            case 4: return words.rarest(word);
            case 5: return words.twins(word);
            case 6: return makings(word);
            case 7: return words.letterBits(word);
            default: return BAD;
        }
    }

    public int letter(int letter, int what) {
        if (!isLetter(letter) || what == 2 && !isKind(letter)) {
            return UNKNOWN;
        }
        switch (what) {
            case 0: return now.bag[letter];
            case 1: return words.wordsWith(letter);
            case 2: return now.follow[letter];
            default: return BAD;
        }
    }

    // ---- doings

    public int put(int letter) {
        if (!isLetter(letter)) {
            return UNKNOWN;
        }
        if (now.letters() >= MOST_LETTERS) {
            return FULL;
        }
        perform(PUT, letter, 0);
        doings.note(TAKE, letter, 0);
        return now.letters();
    }

    public int take(int letter) {
        if (!isLetter(letter)) {
            return UNKNOWN;
        }
        if (now.bag[letter] == 0) {
            return LATE;
        }
        perform(TAKE, letter, 0);
        doings.note(PUT, letter, 0);
        return now.letters();
    }

    public int bar(int word) {
        if (!words.has(word)) {
            return UNKNOWN;
        }
        perform(BAR, word, 0);
        doings.note(BAR, word, 0);
        return now.barred >> word & 1;
    }

    public int rank(int word, int v) {
        if (!words.has(word)) {
            return UNKNOWN;
        }
        if (v < 0 || v > MOST_RANK) {
            return BAD;
        }
        int old = now.ranks[word];
        perform(RANK, word, v);
        doings.note(RANK, word, old);
        return old;
    }

    public int allow(int what, int kind, int other) {
        if (!isKind(kind) || !isKind(other)) {
            return UNKNOWN;
        }
        if (what < 0 || what > 2) {
            return BAD;
        }
        perform(BEGIN + what, kind, other);
        doings.note(BEGIN + what, kind, other);
        switch (what) {
            case 0: return now.begin >> kind & 1;
            case 1: return now.end >> kind & 1;
            default: return now.follow[kind] >> other & 1;
        }
    }

    public int undo() {
        if (!doings.undoLast(now)) {
            return LATE;
        }
        outdate();
        return doings.size;
    }

    // ---- phrases

    public long many(int words) {
        if (words < 0 || words > MOST_ROW) {
            return BAD;
        }
        return words == 0 ? phrases.count() : phrases.countOf(words);
    }

    public long having(int word) {
        if (!words.has(word)) {
            return UNKNOWN;
        }
        return phrases.count() - phrases.countWithin(ALL_WORDS & ~(1 << word));
    }

    public int best(int k) {
        if (k < 0 || k > MOST_ROW + 1) {
            return BAD;
        }
        if (!phrases.findBest()) {
            return NONE;
        }
        switch (k) {
            case 0: return phrases.foundWorth();
            case 1: return phrases.foundSize;
            default: return phrases.foundWord(k - 2);
        }
    }

    public int phrase(long number, int k) {
        if (number < 0 || number >= phrases.count()) {
            return UNKNOWN;
        }
        if (k < 0 || k > MOST_ROW + 1) {
            return BAD;
        }
        phrases.findNumbered(number);
        if (k == 0) {
            return phrases.foundSize;
        }
        return k > MOST_ROW ? phrases.foundWorth() : phrases.foundWord(k - 1);
    }

    public int tell(int word) {
        if (!words.has(word)) {
            return UNKNOWN;
        }
        if (rowSize >= MOST_ROW) {
            return FULL;
        }
        rowWords[rowSize] = word;
        rowSize++;
        return rowSize;
    }

    public int clear() {
        int size = rowSize;
        rowSize = 0;
        return size;
    }

    public int why(int what) {
        if (what < 0 || what > 3) {
            return BAD;
        }
        examineRow();
        return reason[what];
    }

    public long number() {
        examineRow();
        return reason[0] == IS_PHRASE ? phrases.numberOf(rowWords, rowSize) : NONE;
    }

    public int nearly(int what) {
        switch (what) {
            case 0: return lettersMending(PUT, TAKE);
            case 1: return lettersMending(TAKE, PUT);
            default: return BAD;
        }
    }

    public int judge(int n, long row) {
        if (n < 1 || n > MOST_JUDGED || row < 0) {
            return BAD;
        }
        long rest = row;
        for (int i = n - 1; i >= 0; i--) {
            judged[i] = (int) (rest % DOING);
            rest /= DOING;
        }
        if (rest != 0) {
            return BAD;
        }
        spare.copy(now);
        int place = 0;
        while (place < n && comesTrue(judged[place])) {
            place++;
        }
        now.copy(spare);
        outdate();
        return place < n ? place : NONE;
    }

    // ---- seen

    public int see(int what, int v, int was) {
        if (what < 0 || what > 3 || v < 0 || v > MOST_ROW || was < 0 || was > 1) {
            return BAD;
        }
        if (seenSize >= MOST_SEEN) {
            return FULL;
        }
        seen[seenSize * SEEN_PARTS] = what;
        seen[seenSize * SEEN_PARTS + 1] = v;
        seen[seenSize * SEEN_PARTS + 2] = was;
        seenSize++;
        return seenSize;
    }

    public int unsee() {
        int size = seenSize;
        seenSize = 0;
        return size;
    }

    public int left(int what) {
        if (what < 0 || what > 1) {
            return BAD;
        }
        long count = phrases.count();
        if (count > MOST_LISTED) {
            return LATE;
        }
        int agreeing = 0;
        for (int number = 0; number < count; number++) {
            phrases.findNumbered(number);
            if (foundAgrees()) {
                if (what == 1) {
                    return number;
                }
                agreeing++;
            }
        }
        return what == 0 ? agreeing : NONE;
    }

    // ---- shares, chances

    public long share(int word, boolean upper) {
        if (!words.has(word)) {
            return UNKNOWN;
        }
        if ((now.barred >> word & 1) != 0 || !chances.areFew()) {
            return LATE;
        }
        return leastTerms(chances.shareOf(word), chances.orders(), upper);
    }

    public int hope(int x, boolean upper) {
        if (x < 0 || x > MOST_TENTHS) {
            return BAD;
        }
        if (!chances.areFew()) {
            return LATE;
        }
        return (int) leastTerms(chances.hopeAt(x), chances.hopeBelow(), upper);
    }

    public long seed(long v) {
        long old = theSeed;
        theSeed = v;
        return old;
    }

    public int drawn(int m) {
        if (m < 1 || m > MOST_DRAWN) {
            return BAD;
        }
        long count = phrases.count();
        int worth = 0;
        for (int i = 0; i < m; i++) {
            theSeed = theSeed * SEED_TIMES + SEED_MORE;
            if (count > 0) {
                phrases.findNumbered((theSeed >>> SEED_SHIFT) % count);
                worth += phrases.foundWorth();
            }
        }
        return worth;
    }

    // ---- slots

    public int keep(int slot) {
        if (slot < 0 || slot >= SLOTS) {
            return UNKNOWN;
        }
        slots[slot].copy(now);
        kept[slot] = true;
        return words.count;
    }

    public int again(int slot) {
        if (slot < 0 || slot >= SLOTS) {
            return UNKNOWN;
        }
        if (!kept[slot]) {
            return LATE;
        }
        now.copy(slots[slot]);
        doings.size = 0;
        outdate();
        return words.count;
    }

    // ---- helpers of the calls

    private static boolean isLetter(int letter) {
        return letter >= 0 && letter < LETTERS;
    }

    private static boolean isKind(int kind) {
        return kind >= 0 && kind < KINDS;
    }

    private void perform(int act, int subject, int detail) {
        now.change(act, subject, detail);
        outdate();
    }

    private void outdate() {
        phrases.fresh = false;
        chances.outdate();
    }

    private int fitting() {
        long bag = now.packed();
        int bits = 0;
        for (int word = 0; word < words.count; word++) {
            if (holds(bag, words.packs[word])) {
                bits |= 1 << word;
            }
        }
        return bits;
    }

    private static boolean holds(long bag, long part) {
        return ((bag | PACK_GUARDS) - part & PACK_GUARDS) == PACK_GUARDS;
    }

    private int makings(int word) {
        int fewest = MOST_LETTERS;
        for (int letter = 0; letter < LETTERS; letter++) {
            int each = words.amount(word, letter);
            if (each > 0) {
                fewest = Math.min(fewest, now.bag[letter] / each);
            }
        }
        return fewest;
    }

    private void explain(int why, int place, int letter, int amount) {
        reason[0] = why;
        reason[1] = place;
        reason[2] = letter;
        reason[3] = amount;
    }

    private void examineRow() {
        explain(IS_PHRASE, NONE, NONE, 0);
        if (rowSize == 0) {
            explain(HAS_NO_WORDS, 0, NONE, 0);
            return;
        }
        System.arraycopy(now.bag, 0, remains, 0, LETTERS);
        int let = now.begin;
        for (int place = 0; place < rowSize; place++) {
            if (!passesAt(place, let)) {
                return;
            }
            let = now.follow[words.kinds[rowWords[place]]];
        }
        examineEnd();
    }

    private boolean passesAt(int place, int let) {
        int word = rowWords[place];
        if ((now.barred >> word & 1) != 0) {
            explain(IS_BARRED, place, NONE, 0);
            return false;
        }
        if ((let >> words.kinds[word] & 1) == 0) {
            explain(IS_NOT_LET, place, NONE, 0);
            return false;
        }
        for (int i = 0; i < words.sizes[word]; i++) {
            int letter = words.spelt(word, i);
            int wanting = words.amount(word, letter) - remains[letter];
            if (wanting > 0) {
                explain(WANTS, place, letter, wanting);
                return false;
            }
        }
        for (int letter = 0; letter < LETTERS; letter++) {
            remains[letter] -= words.amount(word, letter);
        }
        return true;
    }

    private void examineEnd() {
        for (int letter = 0; letter < LETTERS; letter++) {
            if (remains[letter] > 0) {
                explain(LEAVES, rowSize, letter, remains[letter]);
                return;
            }
        }
        int kind = words.kinds[rowWords[rowSize - 1]];
        if ((now.end >> kind & 1) == 0) {
            explain(MAY_NOT_END, rowSize, NONE, 0);
        }
    }

    private int lettersMending(int act, int back) {
        int bits = 0;
        for (int letter = 0; letter < LETTERS; letter++) {
            if (act == TAKE && now.bag[letter] == 0) {
                continue;
            }
            now.change(act, letter, 0);
            if (phrases.exist()) {
                bits |= 1 << letter;
            }
            now.change(back, letter, 0);
        }
        return bits;
    }

    private boolean comesTrue(int figures) {
        int subject = figures / 100 % 10;
        int amount = figures % 100;
        switch (figures / 1000) {
            case 1: return isLetter(subject) && amount == 0 && now.letters() < MOST_LETTERS && performed(PUT, subject, 0);
            case 2: return isLetter(subject) && amount == 0 && now.bag[subject] > 0 && performed(TAKE, subject, 0);
            case 3: return words.has(subject) && amount == 0 && performed(BAR, subject, 0);
            case 4: return subject == 0 && phrases.count() == amount;
            case 5: return words.has(subject) && amount <= 1 && (phrases.wordsInPhrases() >> subject & 1) == amount;
            case 6: return isKind(subject) && isKind(amount / 10) && amount % 10 == 0
                && performed(FOLLOW, subject, amount / 10);
            case 7: return subject == 0 && phrases.findBest() && phrases.foundWorth() == amount;
            default: return false;
        }
    }

    private boolean performed(int act, int subject, int detail) {
        perform(act, subject, detail);
        return true;
    }

    private boolean foundAgrees() {
        for (int i = 0; i < seenSize; i++) {
            boolean was = seen[i * SEEN_PARTS + 2] == 1;
            if (isSo(seen[i * SEEN_PARTS], seen[i * SEEN_PARTS + 1]) != was) {
                return false;
            }
        }
        return true;
    }

    private boolean isSo(int what, int v) {
        switch (what) {
            case 0: return phrases.foundHas(v);
            case 1: return phrases.foundSize == v;
            case 2: return phrases.foundWord(0) == v;
            default: return phrases.foundWord(phrases.foundSize - 1) == v;
        }
    }

    private static long leastTerms(long above, long below, boolean upper) {
        long common = Math.abs(above);
        long rest = below;
        // Euclid's steps on two longs are fewer than a hundred.
        for (int i = 0; i < 100 && rest != 0; i++) {
            long next = common % rest;
            common = rest;
            rest = next;
        }
        if (common == 0) {
            return upper ? above : below;
        }
        return (upper ? above : below) / common;
    }

    /** The words of the house, with what does not change till another house is read. */
    private static final class Lexicon {
        final int[] kinds = new int[MOST_WORDS];
        final int[] sizes = new int[MOST_WORDS];
        final long[] packs = new long[MOST_WORDS];
        final int[] spellings = new int[MOST_WORDS * MOST_SPELT];
        int count = 0;

        void copy(Lexicon other) {
            count = other.count;
            System.arraycopy(other.kinds, 0, kinds, 0, MOST_WORDS);
            System.arraycopy(other.sizes, 0, sizes, 0, MOST_WORDS);
            System.arraycopy(other.packs, 0, packs, 0, MOST_WORDS);
            System.arraycopy(other.spellings, 0, spellings, 0, MOST_WORDS * MOST_SPELT);
        }

        boolean has(int word) {
            return word >= 0 && word < count;
        }

        boolean open() {
            if (count >= MOST_WORDS) {
                return false;
            }
            sizes[count] = 0;
            packs[count] = 0L;
            count++;
            return true;
        }

        boolean spell(int letter) {
            int word = count - 1;
            if (word < 0 || sizes[word] >= MOST_SPELT) {
                return false;
            }
            spellings[word * MOST_SPELT + sizes[word]] = letter;
            sizes[word]++;
            packs[word] += 1L << PACK_BITS * letter;
            return true;
        }

        boolean close(int kind) {
            int word = count - 1;
            if (word < 0 || sizes[word] == 0) {
                return false;
            }
            kinds[word] = kind;
            return true;
        }

        int spelt(int word, int i) {
            return spellings[word * MOST_SPELT + i];
        }

        int amount(int word, int letter) {
            return (int) (packs[word] >> PACK_BITS * letter) & 15;
        }

        int wordsWith(int letter) {
            int with = 0;
            for (int word = 0; word < count; word++) {
                if (amount(word, letter) > 0) {
                    with++;
                }
            }
            return with;
        }

        int rarest(int word) {
            int rarest = NONE;
            int fewest = MOST_WORDS + 1;
            for (int letter = 0; letter < LETTERS; letter++) {
                if (amount(word, letter) > 0 && wordsWith(letter) < fewest) {
                    rarest = letter;
                    fewest = wordsWith(letter);
                }
            }
            return rarest;
        }

        int twins(int word) {
            int twins = 0;
            for (int other = 0; other < count; other++) {
                if (packs[other] == packs[word]) {
                    twins++;
                }
            }
            return twins;
        }

        int letterBits(int word) {
            int bits = 0;
            for (int letter = 0; letter < LETTERS; letter++) {
                if (amount(word, letter) > 0) {
                    bits |= 1 << letter;
                }
            }
            return bits;
        }
    }

    /** What doings change, and slots keep. */
    private static final class Setting {
        final int[] bag = new int[LETTERS];
        final int[] ranks = new int[MOST_WORDS];
        final int[] follow = new int[KINDS];
        int begin = 0;
        int end = 0;
        int barred = 0;

        void copy(Setting other) {
            System.arraycopy(other.bag, 0, bag, 0, LETTERS);
            System.arraycopy(other.ranks, 0, ranks, 0, MOST_WORDS);
            System.arraycopy(other.follow, 0, follow, 0, KINDS);
            begin = other.begin;
            end = other.end;
            barred = other.barred;
        }

        void change(int act, int subject, int detail) {
            switch (act) {
                case PUT: bag[subject]++; break;
                case TAKE: bag[subject]--; break;
                case BAR: barred ^= 1 << subject; break;
                case RANK: ranks[subject] = detail; break;
                case BEGIN: begin ^= 1 << subject; break;
                case END: end ^= 1 << subject; break;
                default: follow[subject] ^= 1 << detail; break;
            }
        }

        void blank() {
            for (int letter = 0; letter < LETTERS; letter++) {
                bag[letter] = 0;
            }
            for (int kind = 0; kind < KINDS; kind++) {
                follow[kind] = 0;
            }
            begin = 0;
            end = 0;
        }

        int letters() {
            int letters = 0;
            for (int letter = 0; letter < LETTERS; letter++) {
                letters += bag[letter];
            }
            return letters;
        }

        int unlike() {
            int unlike = 0;
            for (int letter = 0; letter < LETTERS; letter++) {
                if (bag[letter] > 0) {
                    unlike++;
                }
            }
            return unlike;
        }

        long packed() {
            long pack = 0L;
            for (int letter = 0; letter < LETTERS; letter++) {
                pack |= (long) bag[letter] << PACK_BITS * letter;
            }
            return pack;
        }

        boolean allFollow() {
            for (int kind = 0; kind < KINDS; kind++) {
                if (follow[kind] != ALL_KINDS) {
                    return false;
                }
            }
            return true;
        }
    }

    /** The doings that can be undone, each held as the change that undoes it. */
    private static final class Doings {
        final int[] acts = new int[MOST_DOINGS];
        final int[] subjects = new int[MOST_DOINGS];
        final int[] details = new int[MOST_DOINGS];
        int size = 0;

        void note(int act, int subject, int detail) {
            if (size >= MOST_DOINGS) {
                forgetFirst();
            }
            acts[size] = act;
            subjects[size] = subject;
            details[size] = detail;
            size++;
        }

        private void forgetFirst() {
            size = MOST_DOINGS - 1;
            System.arraycopy(acts, 1, acts, 0, size);
            System.arraycopy(subjects, 1, subjects, 0, size);
            System.arraycopy(details, 1, details, 0, size);
        }

        boolean undoLast(Setting setting) {
            if (size <= 0) {
                return false;
            }
            size--;
            setting.change(acts[size], subjects[size], details[size]);
            return true;
        }
    }

    /** The text, and its reading as a house, sign by sign, into words and a setting of its own. */
    private static final class Reader {
        static final int HEAD = 0, SPELLING = 1, RANKING = 2, BAGGING = 3, BEGINNING = 4, ENDING = 5,
            LEADING = 6, FOLLOWING = 7;

        final int[] signs = new int[MOST_SIGNS];
        final Lexicon words = new Lexicon();
        final Setting setting = new Setting();
        int size = 0;
        int awaited = HEAD;
        int leader = 0;

        boolean append(int sign) {
            if (size >= MOST_SIGNS) {
                return false;
            }
            signs[size] = sign;
            size++;
            return true;
        }

        int firstFault() {
            words.count = 0;
            setting.blank();
            awaited = HEAD;
            for (int place = 0; place < size; place++) {
                if (!reads(signs[place])) {
                    return place;
                }
            }
            return awaited == HEAD ? NONE : size;
        }

        private boolean reads(int sign) {
            switch (awaited) {
                case HEAD: return readsHead(sign);
                case SPELLING: return readsSpelling(sign);
                case RANKING: return readsRank(sign);
                case BAGGING: return isLetter(sign - 'a') && turned(PUT, sign - 'a', 0);
                case BEGINNING: return isFreeKind(sign, setting.begin) && turned(BEGIN, sign - 'A', 0);
                case ENDING: return isFreeKind(sign, setting.end) && turned(END, sign - 'A', 0);
                case LEADING: return readsLeader(sign);
                default: return isFreeKind(sign, setting.follow[leader]) && turned(FOLLOW, leader, sign - 'A');
            }
        }

        /** No sign may come where none could come behind it: so a head asks for room. */
        private boolean readsHead(int sign) {
            switch (sign) {
                case 'w': return words.open() && awaits(SPELLING);
                case '+': return setting.letters() < MOST_LETTERS && awaits(BAGGING);
                case '^': return setting.begin != ALL_KINDS && awaits(BEGINNING);
                case '.': return setting.end != ALL_KINDS && awaits(ENDING);
                case ':': return !setting.allFollow() && awaits(LEADING);
                default: return false;
            }
        }

        private boolean readsSpelling(int sign) {
            if (isLetter(sign - 'a')) {
                return words.spell(sign - 'a');
            }
            return isKind(sign - 'A') && words.close(sign - 'A') && awaits(RANKING);
        }

        private boolean readsRank(int sign) {
            int word = words.count - 1;
            return sign >= '0' && sign <= '9' && word >= 0 && turned(RANK, word, sign - '0');
        }

        private boolean readsLeader(int sign) {
            if (!isKind(sign - 'A') || setting.follow[sign - 'A'] == ALL_KINDS) {
                return false;
            }
            leader = sign - 'A';
            return awaits(FOLLOWING);
        }

        private static boolean isFreeKind(int sign, int used) {
            return isKind(sign - 'A') && (used >> sign - 'A' & 1) == 0;
        }

        private boolean turned(int act, int subject, int detail) {
            setting.change(act, subject, detail);
            return awaits(HEAD);
        }

        private boolean awaits(int next) {
            awaited = next;
            return true;
        }
    }

    /** What is summed up over all the ways that lead from a place to the empty bag. */
    private abstract static class Way {
        abstract long none();

        abstract long ended();

        abstract long joined(long one, long other);

        /** One joined with what a word ahead of a tail makes of it. */
        abstract long with(long one, long tail, int word);
    }

    /** How many ways. */
    private static final class Counting extends Way {
        long none() {
            return 0L;
        }

        long ended() {
            return 1L;
        }

        long joined(long one, long other) {
            return one + other;
        }

        long with(long one, long tail, int word) {
            return one + tail;
        }
    }

    /** The greatest worth; -1: there is no way. */
    private static final class Worths extends Way {
        final int[] ranks;

        Worths(int[] ranks) {
            this.ranks = ranks;
        }

        long none() {
            return -1L;
        }

        long ended() {
            return 0L;
        }

        long joined(long one, long other) {
            return Math.max(one, other);
        }

        long with(long one, long tail, int word) {
            return tail < 0 ? one : Math.max(one, tail + ranks[word]);
        }
    }

    /** Of 64 sets of words (as bits) those that have a way; a word keeps the sets that it is in. */
    private static final class Families extends Way {
        final long[] setsWith = new long[MOST_WORDS];

        long none() {
            return 0L;
        }

        long ended() {
            return -1L;
        }

        long joined(long one, long other) {
            return one | other;
        }

        long with(long one, long tail, int word) {
            return one | tail & setsWith[word];
        }
    }

    /** The places that rows of words can come to, from the full bag down to the empty one. */
    private static final class Lattice {
        /** Stands among the kinds by which a place is come to: no word has come yet. */
        static final int START = 16;

        final Lexicon words;
        final Setting now;
        final long[] packs = new long[MOST_PLACES];
        final int[] cameBy = new int[MOST_PLACES];
        final int[] fits = new int[MOST_PLACES];
        final int[] order = new int[MOST_PLACES];
        final int[] weights = new int[LETTERS];
        final int[] steps = new int[MOST_WORDS];
        final long[] heads = new long[KINDS];
        int orderSize = 0;
        int usable = 0;
        int top = 0;

        Lattice(Lexicon words, Setting now) {
            this.words = words;
            this.now = now;
        }

        void lay() {
            measure();
            orderSize = 0;
            for (int place = 0; place <= top; place++) {
                cameBy[place] = 0;
            }
            packs[top] = now.packed();
            listSteps(packs[top]);
            if (top > 0) {
                cameBy[top] = START;
            }
            for (int place = top; place > 0; place--) {
                if (cameBy[place] != 0) {
                    order[orderSize] = place;
                    orderSize++;
                    spread(place);
                }
            }
        }

        boolean reachesEnd() {
            return cameBy[0] != 0;
        }

        private void measure() {
            int places = 1;
            for (int letter = 0; letter < LETTERS; letter++) {
                weights[letter] = places;
                places *= now.bag[letter] + 1;
            }
            top = places >= 1 && places <= MOST_PLACES ? places - 1 : 0;
        }

        private void listSteps(long bag) {
            usable = 0;
            for (int word = 0; word < words.count; word++) {
                if ((now.barred >> word & 1) != 0 || !holds(bag, words.packs[word])) {
                    continue;
                }
                usable |= 1 << word;
                int step = 0;
                for (int letter = 0; letter < LETTERS; letter++) {
                    step += words.amount(word, letter) * weights[letter];
                }
                steps[word] = step;
            }
        }

        private void spread(int place) {
            int let = letBehind(cameBy[place]);
            int fit = 0;
            for (int word = 0; word < words.count; word++) {
                int kind = words.kinds[word];
                if ((usable >> word & 1) == 0 || (let >> kind & 1) == 0 || !holds(packs[place], words.packs[word])) {
                    continue;
                }
                int next = place - steps[word];
                if (next < 0 || next == 0 && (now.end >> kind & 1) == 0) {
                    continue;
                }
                fit |= 1 << word;
                cameBy[next] |= 1 << kind;
                packs[next] = packs[place] - words.packs[word];
            }
            fits[place] = fit;
        }

        private int letBehind(int kinds) {
            if ((kinds & START) != 0) {
                return now.begin;
            }
            int let = 0;
            for (int kind = 0; kind < KINDS; kind++) {
                if ((kinds >> kind & 1) != 0) {
                    let |= now.follow[kind];
                }
            }
            return let;
        }

        /** Sets what a row's end is worth, that is the tails of the empty bag. */
        void ground(Way way, long[] tails) {
            for (int kind = 0; kind < KINDS; kind++) {
                tails[kind] = (now.end >> kind & 1) != 0 ? way.ended() : way.none();
            }
        }

        /** Leaves no way at any place, but for the empty bag. */
        void empty(Way way, long[] tails) {
            for (int i = 0; i < orderSize; i++) {
                for (int kind = 0; kind < KINDS && order[i] < MOST_COUNTED; kind++) {
                    tails[order[i] * KINDS + kind] = way.none();
                }
            }
        }

        /**
         * Sums up the ways of all places by the allowed words, and answers the full bag's. The rows
         * may be one and the same: a place asks only for places below it.
         */
        long fold(Way way, int allowed, long[] from, long[] into) {
            long whole = way.none();
            if (top >= MOST_COUNTED) {
                return whole;
            }
            for (int i = orderSize - 1; i >= 0; i--) {
                int place = order[i];
                gather(way, allowed & fits[place], place, from);
                for (int kind = 0; kind < KINDS; kind++) {
                    if ((cameBy[place] >> kind & 1) != 0) {
                        into[place * KINDS + kind] = headsOf(way, now.follow[kind]);
                    }
                }
                if (place == top) {
                    whole = headsOf(way, now.begin);
                }
            }
            return whole;
        }

        private void gather(Way way, int open, int place, long[] from) {
            for (int kind = 0; kind < KINDS; kind++) {
                heads[kind] = way.none();
            }
            for (int word = 0; word < words.count; word++) {
                if ((open >> word & 1) != 0) {
                    int kind = words.kinds[word];
                    heads[kind] = way.with(heads[kind], tailBehind(from, place, word), word);
                }
            }
        }

        private long headsOf(Way way, int kinds) {
            long all = way.none();
            for (int kind = 0; kind < KINDS; kind++) {
                if ((kinds >> kind & 1) != 0) {
                    all = way.joined(all, heads[kind]);
                }
            }
            return all;
        }

        boolean opens(int place, int let, int word) {
            return place > 0 && place < MOST_COUNTED
                && (fits[place] >> word & 1) != 0 && (let >> words.kinds[word] & 1) != 0;
        }

        /** To be asked only of a word that fits at the place. */
        long tailBehind(long[] tails, int place, int word) {
            int tail = (place - steps[word]) * KINDS + words.kinds[word];
            return tail >= 0 && tail < tails.length ? tails[tail] : 0L;
        }
    }

    /** The phrases of the setting, counted when first asked for and again when it has changed. */
    private static final class Phrases {
        final Lexicon words;
        final Setting now;
        final Lattice lattice;
        final Counting counting = new Counting();
        final Worths worths;
        final long[] tails = new long[MOST_COUNTED * KINDS];
        final long[] byWords = new long[MOST_ROW + 1];
        final int[] found = new int[MOST_ROW];
        long[] spare = new long[MOST_COUNTED * KINDS];
        long[] other = new long[MOST_COUNTED * KINDS];
        int foundSize = 0;
        long total = 0L;
        boolean fresh = false;
        boolean lengthsKnown = false;

        Phrases(Lexicon words, Setting now) {
            this.words = words;
            this.now = now;
            this.lattice = new Lattice(words, now);
            this.worths = new Worths(now.ranks);
        }

        void refresh() {
            if (fresh) {
                return;
            }
            lattice.lay();
            lattice.ground(counting, tails);
            total = lattice.fold(counting, ALL_WORDS, tails, tails);
            lengthsKnown = false;
            fresh = true;
        }

        /** Whether there is one now, even where the bag is too large for counting. */
        boolean exist() {
            fresh = false;
            lattice.lay();
            return lattice.reachesEnd();
        }

        long count() {
            refresh();
            return total;
        }

        long countWithin(int allowed) {
            refresh();
            return foldWithin(counting, allowed);
        }

        /** To be asked only when the lattice is fresh. */
        long foldWithin(Way way, int allowed) {
            lattice.ground(way, spare);
            return lattice.fold(way, allowed, spare, spare);
        }

        long countOf(int size) {
            countLengths();
            return size >= 1 && size <= MOST_ROW ? byWords[size] : 0L;
        }

        /** One fold more is one word more, till no phrase is left that is not counted. */
        private void countLengths() {
            refresh();
            if (lengthsKnown) {
                return;
            }
            lattice.empty(counting, spare);
            lattice.ground(counting, spare);
            long rest = total;
            for (int size = 1; size <= MOST_ROW; size++) {
                byWords[size] = 0L;
                if (rest > 0) {
                    byWords[size] = lattice.fold(counting, ALL_WORDS, spare, other);
                    rest -= byWords[size];
                    endNowhere(other);
                    long[] last = spare;
                    spare = other;
                    other = last;
                }
            }
            lengthsKnown = true;
        }

        /** Of one word or more no phrase is at the empty bag already. */
        private static void endNowhere(long[] tails) {
            for (int kind = 0; kind < KINDS; kind++) {
                tails[kind] = 0L;
            }
        }

        int fewestWords() {
            countLengths();
            for (int size = 1; size <= MOST_ROW; size++) {
                if (byWords[size] > 0) {
                    return size;
                }
            }
            return NONE;
        }

        int mostWords() {
            countLengths();
            for (int size = MOST_ROW; size >= 1; size--) {
                if (byWords[size] > 0) {
                    return size;
                }
            }
            return NONE;
        }

        int wordsInPhrases() {
            refresh();
            int bits = 0;
            for (int i = 0; i < lattice.orderSize; i++) {
                int place = lattice.order[i];
                for (int word = 0; word < words.count; word++) {
                    if (lattice.opens(place, ALL_KINDS, word) && lattice.tailBehind(tails, place, word) > 0) {
                        bits |= 1 << word;
                    }
                }
            }
            return bits;
        }

        private long waysBy(int word, int place, int let) {
            return lattice.opens(place, let, word) ? lattice.tailBehind(tails, place, word) : 0L;
        }

        void findNumbered(long number) {
            refresh();
            foundSize = 0;
            int place = lattice.top;
            int let = now.begin;
            long ahead = number;
            for (int i = 0; i < MOST_ROW && place > 0; i++) {
                int word = 0;
                long ways = waysBy(0, place, let);
                while (word < words.count && ahead >= ways) {
                    ahead -= ways;
                    word++;
                    ways = word < words.count ? waysBy(word, place, let) : 0L;
                }
                if (word >= words.count) {
                    return;
                }
                place = cameToBy(word, place);
                let = now.follow[words.kinds[word]];
            }
        }

        /** Answers whether there is one. */
        boolean findBest() {
            refresh();
            foundSize = 0;
            long goal = foldWithin(worths, ALL_WORDS);
            boolean any = goal >= 0;
            int place = lattice.top;
            int let = now.begin;
            for (int i = 0; i < MOST_ROW && any && place > 0; i++) {
                int word = firstReaching(goal, place, let);
                if (word >= words.count) {
                    return false;
                }
                goal -= now.ranks[word];
                place = cameToBy(word, place);
                let = now.follow[words.kinds[word]];
            }
            return any;
        }

        private int firstReaching(long goal, int place, int let) {
            int word = 0;
            while (word < words.count && !reaches(goal, word, place, let)) {
                word++;
            }
            return word;
        }

        private boolean reaches(long goal, int word, int place, int let) {
            if (!lattice.opens(place, let, word)) {
                return false;
            }
            long tail = lattice.tailBehind(spare, place, word);
            return tail >= 0 && tail + now.ranks[word] == goal;
        }

        private int cameToBy(int word, int place) {
            found[foundSize] = word;
            foundSize++;
            return place - lattice.steps[word];
        }

        int foundWord(int i) {
            return i >= 0 && i < foundSize ? found[i] : NONE;
        }

        boolean foundHas(int word) {
            for (int i = 0; i < foundSize; i++) {
                if (found[i] == word) {
                    return true;
                }
            }
            return false;
        }

        int foundWorth() {
            int worth = 0;
            for (int i = 0; i < foundSize; i++) {
                worth += now.ranks[found[i]];
            }
            return worth;
        }

        /** To be asked only of a row that is a phrase. */
        long numberOf(int[] row, int size) {
            refresh();
            int place = lattice.top;
            int let = now.begin;
            long ahead = 0L;
            for (int i = 0; i < size; i++) {
                for (int word = 0; word < row[i]; word++) {
                    ahead += waysBy(word, place, let);
                }
                place -= lattice.steps[row[i]];
                let = now.follow[words.kinds[row[i]]];
            }
            return ahead;
        }
    }

    /** Sets of the words that are not barred: by which of them there are phrases, and how many. */
    private static final class Chances {
        /** Of the sets 0 .. 63 those that have the first word, the second .. the sixth, as bits. */
        static final long[] SETS_WITH = {
            0xAAAAAAAAAAAAAAAAL, 0xCCCCCCCCCCCCCCCCL, 0xF0F0F0F0F0F0F0F0L,
            0xFF00FF00FF00FF00L, 0xFFFF0000FFFF0000L, 0xFFFFFFFF00000000L
        };
        static final int[] FACTORIALS = {1, 1, 2, 6, 24, 120, 720, 5040, 40320};
        static final int BLOCK = 64, BLOCK_WORDS = 6, MOST_BLOCKS = 4, MOST_SETS = 256;

        final Lexicon words;
        final Setting now;
        final Phrases phrases;
        final Families families = new Families();
        final int[] coming = new int[MOST_COMING];
        final long[] opened = new long[MOST_BLOCKS];
        final long[] counts = new long[MOST_SETS];
        int comingSize = 0;
        boolean openedKnown = false;
        boolean countsKnown = false;

        Chances(Lexicon words, Setting now, Phrases phrases) {
            this.words = words;
            this.now = now;
            this.phrases = phrases;
        }

        void outdate() {
            openedKnown = false;
            countsKnown = false;
        }

        boolean areFew() {
            return words.count - Integer.bitCount(now.barred) <= MOST_COMING;
        }

        /** n! of the words that come: what shares are told by. */
        long orders() {
            return comingSize >= 0 && comingSize <= MOST_COMING ? FACTORIALS[comingSize] : 1L;
        }

        private void listComing() {
            comingSize = 0;
            for (int word = 0; word < words.count && comingSize < MOST_COMING; word++) {
                if ((now.barred >> word & 1) == 0) {
                    coming[comingSize] = word;
                    comingSize++;
                }
            }
        }

        /** 64 sets at once: the words beyond the sixth are in all sets of a block, or in none. */
        private void openSets() {
            if (openedKnown) {
                return;
            }
            phrases.refresh();
            listComing();
            for (int block = 0; block < MOST_BLOCKS; block++) {
                for (int i = 0; i < comingSize; i++) {
                    boolean whole = i >= BLOCK_WORDS && (block >> i - BLOCK_WORDS & 1) != 0;
                    families.setsWith[coming[i]] = i < BLOCK_WORDS ? SETS_WITH[i] : whole ? -1L : 0L;
                }
                opened[block] = block * BLOCK < 1 << comingSize ? phrases.foldWithin(families, ALL_WORDS) : 0L;
            }
            openedKnown = true;
        }

        private boolean isOpened(int set) {
            return (opened[set / BLOCK] >> set % BLOCK & 1L) != 0;
        }

        /** To be asked only when it is known which sets are opened. */
        private void countSets() {
            if (countsKnown) {
                return;
            }
            phrases.refresh();
            for (int set = 0; set < 1 << comingSize; set++) {
                counts[set] = isOpened(set) ? phrases.foldWithin(phrases.counting, wordsOf(set)) : 0L;
            }
            countsKnown = true;
        }

        private int wordsOf(int set) {
            int bits = 0;
            for (int i = 0; i < comingSize; i++) {
                if ((set >> i & 1) != 0) {
                    bits |= 1 << coming[i];
                }
            }
            return bits;
        }

        /** How many phrases more there are when the word has come, of all orders together. */
        long shareOf(int word) {
            openSets();
            countSets();
            int bit = 0;
            for (int i = 0; i < comingSize; i++) {
                if (coming[i] == word) {
                    bit = 1 << i;
                }
            }
            long sum = 0L;
            for (int set = 0; set < 1 << comingSize; set++) {
                if ((set & bit) != 0) {
                    int ahead = Integer.bitCount(set) - 1;
                    long orders = (long) FACTORIALS[ahead] * FACTORIALS[comingSize - 1 - ahead];
                    sum += orders * (counts[set] - counts[set ^ bit]);
                }
            }
            return sum;
        }

        long hopeAt(int tenths) {
            openSets();
            long sum = 0L;
            for (int set = 0; set < 1 << comingSize; set++) {
                if (isOpened(set)) {
                    int free = Integer.bitCount(set);
                    sum += power(10 - tenths, free) * power(tenths, comingSize - free);
                }
            }
            return sum;
        }

        long hopeBelow() {
            return power(10, comingSize);
        }

        private static long power(int base, int times) {
            long power = 1L;
            for (int i = 0; i < times; i++) {
                power *= base;
            }
            return power;
        }
    }
}
