/** Words of two signs, a and b, that grow by rules: three sheets and two growths. */
public final class Wordgarden {
    private static final int MOST_SIGNS = 64;
    private static final int SHEET_COUNT = 3;
    private static final int GROWTH_COUNT = 2;
    private static final int MOST_TURN = 3;
    private static final int MOST_STEP = 6;
    private static final int MOST_ROAD = 2;
    private static final int MOST_CODE = 65535;
    private static final int HIGHEST_DIGIT = 15;
    private static final int LEAST_RULE_CODE = 2;
    private static final int MOST_RULE_CODE = 31;
    private static final int REFUSED = -9;
    private static final int NOWHERE = -1;
    private static final int SHEET_ACTS = 0;
    private static final int GROWTH_ACTS = 1;
    private static final int REFUSALS = 2;
    private static final int KNOCKS = 3;
    private static final long FIRST_DIGEST = 7979L;
    private static final long DIGEST_FACTOR = 31L;

    private final Word[] sheets = new Word[SHEET_COUNT];
    private final Growth[] growths = new Growth[GROWTH_COUNT];
    private final Rule rule = new Rule();
    /** Words to work with; what they hold is of no use once a call has ended. */
    private final Word bench = new Word();
    private final Word secondBench = new Word();
    private int sheetActs;
    private int growthActs;
    private int refusals;
    private int knocks;

    public Wordgarden() {
        for (int sheet = 0; sheet < sheets.length; sheet++) {
            sheets[sheet] = new Word();
        }
        for (int growth = 0; growth < growths.length; growth++) {
            growths[growth] = new Growth();
        }
    }

    // ==== acts on SHEETS

    public int write(int sheet, int code) throws IndexOutOfBoundsException, IllegalArgumentException {
        Word word = wordOf(sheet);
        needArgument(code >= 1 && code <= MOST_CODE);
        word.takeCode(code);
        return sheetActDone(word.many);
    }

    public int append(int sheet, int other) throws IndexOutOfBoundsException {
        Word word = wordOf(sheet);
        return exchangePart(word, word.many, word.many, wordOf(other));
    }

    public int insertSign(int sheet, int place, boolean isB) throws IndexOutOfBoundsException {
        Word word = wordOf(sheet);
        needIndex(place >= 0 && place <= word.many);
        secondBench.clear();
        secondBench.add(isB);
        return exchangePart(word, place, place, secondBench);
    }

    public int insertSheet(int sheet, int place, int other) throws IndexOutOfBoundsException {
        Word word = wordOf(sheet);
        Word put = wordOf(other);
        needIndex(place >= 0 && place <= word.many);
        return exchangePart(word, place, place, put);
    }

    public int setSign(int sheet, int place, boolean isB) throws IndexOutOfBoundsException {
        Word word = wordOf(sheet);
        needIndex(place >= 0 && place < word.many);
        boolean wasOther = word.isUp(place) != isB;
        word.put(place, isB);
        return sheetActDone(oneIf(wasOther));
    }

    public int removeSign(int sheet, int place) throws IndexOutOfBoundsException {
        Word word = wordOf(sheet);
        needIndex(place >= 0 && place < word.many);
        return takeOut(word, place, place + 1);
    }

    public int remove(int sheet, int from, int to) throws IndexOutOfBoundsException {
        Word word = wordOf(sheet);
        needIndex(from >= 0 && from <= to && to <= word.many);
        return takeOut(word, from, to);
    }

    public int replace(int sheet, int from, int to, int other) throws IndexOutOfBoundsException {
        Word word = wordOf(sheet);
        Word put = wordOf(other);
        needIndex(from >= 0 && from <= to && to <= word.many);
        return exchangePart(word, from, to, put);
    }

    public int cutTo(int sheet, int length) throws IndexOutOfBoundsException, IllegalArgumentException {
        Word word = wordOf(sheet);
        needArgument(length >= 0 && length <= MOST_SIGNS);
        int had = word.many;
        bench.clear();
        bench.addPart(word, 0, Math.min(had, length));
        for (int place = had; place < length; place++) {
            bench.add(false);
        }
        word.take(bench);
        return sheetActDone(had);
    }

    public int turn(int sheet) throws IndexOutOfBoundsException {
        Word word = wordOf(sheet);
        bench.takeTurned(word);
        return settle(word, bench);
    }

    public int exchange(int sheet) throws IndexOutOfBoundsException {
        Word word = wordOf(sheet);
        for (int place = 0; place < word.many; place++) {
            word.put(place, !word.isUp(place));
        }
        return sheetActDone(Reading.upsOf(word));
    }

    public int rotate(int sheet, int many) throws IndexOutOfBoundsException, IllegalArgumentException {
        Word word = wordOf(sheet);
        needArgument(many >= 0 && many <= word.many);
        bench.clear();
        bench.addPart(word, many, word.many);
        bench.addPart(word, 0, many);
        return settle(word, bench);
    }

    public int copy(int sheet, int into) throws IndexOutOfBoundsException {
        Word word = wordOf(sheet);
        return settle(wordOf(into), word);
    }

    public int apply(int sheet, int x, int y) throws IndexOutOfBoundsException, IllegalArgumentException {
        Word word = wordOf(sheet);
        takeRule(x, y);
        if (rule.imageLength(word) > MOST_SIGNS) {
            return refuse();
        }
        rule.layImage(word, bench);
        word.take(bench);
        return sheetActDone(word.many);
    }

    public int undo(int sheet, int x, int y)
            throws IndexOutOfBoundsException, IllegalArgumentException, IllegalStateException {
        Word word = wordOf(sheet);
        takeRule(x, y);
        needState(rule.keepsApart());
        if (!rule.layOrigin(word, bench)) {
            return refuse();
        }
        word.take(bench);
        return sheetActDone(word.many);
    }

    public int lay(int growth, int sheet, int road) throws IndexOutOfBoundsException, IllegalArgumentException {
        Growth from = growthOf(growth);
        Word word = wordOf(sheet);
        needArgument(road >= 0 && road <= MOST_ROAD);
        if (road == 0) {
            word.take(from.younger);
        } else if (road == 1) {
            from.layByRules(word, bench, rule);
        } else {
            from.layByLine(word);
        }
        return sheetActDone(word.many);
    }

    public int twos(int sheet, int step, int road) throws IndexOutOfBoundsException, IllegalArgumentException {
        Word word = wordOf(sheet);
        needArgument(step >= 0 && step <= MOST_STEP);
        needArgument(road >= 0 && road <= MOST_ROAD);
        if (road == 0) {
            Twos.layByRule(step, word, bench, rule);
        } else if (road == 1) {
            Twos.layByCopies(step, word);
        } else {
            Twos.laySignBySign(step, word);
        }
        return sheetActDone(word.many);
    }

    public int line(int sheet, int length, int rise, int shift)
            throws IndexOutOfBoundsException, IllegalArgumentException {
        Word word = wordOf(sheet);
        needArgument(length >= 1 && length <= MOST_SIGNS);
        needArgument(rise >= 0 && rise <= length);
        needArgument(shift >= 0 && shift < length);
        bench.clear();
        for (int place = 0; place < length; place++) {
            bench.add(isUpOnLine(length, rise, shift, place));
        }
        return settle(word, bench);
    }

    // ==== acts on GROWTHS

    public int grow(int growth, int turn) throws IndexOutOfBoundsException, IllegalArgumentException {
        Growth grown = growthOf(growth);
        needArgument(turn >= 1 && turn <= MOST_TURN);
        if (!grown.goOn(turn, bench)) {
            return refuse();
        }
        return growthActDone(grown.younger.many);
    }

    public int shrink(int growth) throws IndexOutOfBoundsException, IllegalStateException {
        Growth grown = growthOf(growth);
        needState(grown.turnCount > 0);
        return growthActDone(grown.goBack(bench));
    }

    public int fresh(int growth) throws IndexOutOfBoundsException {
        Growth grown = growthOf(growth);
        int had = grown.turnCount;
        grown.begin();
        return growthActDone(had);
    }

    // ==== what is asked of SHEETS

    public int length(int sheet) throws IndexOutOfBoundsException {
        return wordOf(sheet).many;
    }

    public boolean isB(int sheet, int place) throws IndexOutOfBoundsException {
        Word word = wordOf(sheet);
        needIndex(place >= 0 && place < word.many);
        return word.isUp(place);
    }

    public String text(int sheet) throws IndexOutOfBoundsException {
        return Reading.textOf(wordOf(sheet));
    }

    public int count(int sheet, boolean isB) throws IndexOutOfBoundsException {
        Word word = wordOf(sheet);
        int ups = Reading.upsOf(word);
        return isB ? ups : word.many - ups;
    }

    public int find(int sheet, int other, int from) throws IndexOutOfBoundsException {
        Word word = wordOf(sheet);
        Word part = wordOf(other);
        needIndex(from >= 0 && from <= word.many);
        for (int place = from; place <= word.many; place++) {
            if (Reading.standsAt(word, place, part)) {
                return place;
            }
        }
        return NOWHERE;
    }

    public int findLast(int sheet, int other, int from) throws IndexOutOfBoundsException {
        Word word = wordOf(sheet);
        Word part = wordOf(other);
        needIndex(from >= 0 && from <= word.many);
        for (int place = from; place >= 0; place--) {
            if (Reading.standsAt(word, place, part)) {
                return place;
            }
        }
        return NOWHERE;
    }

    public int order(int sheet, int other) throws IndexOutOfBoundsException {
        return Reading.orderOf(wordOf(sheet), wordOf(other));
    }

    public boolean isMirrored(int sheet) throws IndexOutOfBoundsException {
        Word word = wordOf(sheet);
        return Reading.isMirroredPart(word, 0, word.many);
    }

    public int spread(int sheet, int length, boolean isRing)
            throws IndexOutOfBoundsException, IllegalArgumentException {
        Word word = wordOf(sheet);
        needArgument(length >= 0 && length <= word.many);
        return Reading.spreadOf(word, length, isRing);
    }

    public int kinds(int sheet, int length, boolean isRing)
            throws IndexOutOfBoundsException, IllegalArgumentException {
        Word word = wordOf(sheet);
        needArgument(length >= 0 && length <= word.many);
        return Reading.kindsOf(word, length, isRing);
    }

    public int times(int sheet) throws IndexOutOfBoundsException {
        return Reading.timesOf(wordOf(sheet));
    }

    public int overlaps(int sheet) throws IndexOutOfBoundsException {
        return Reading.overlapsOf(wordOf(sheet));
    }

    public int mirrors(int sheet) throws IndexOutOfBoundsException {
        return Reading.mirrorsOf(wordOf(sheet));
    }

    public int folds(int sheet) throws IndexOutOfBoundsException {
        return Reading.foldsOf(wordOf(sheet));
    }

    public int least(int sheet) throws IndexOutOfBoundsException {
        return Reading.leastOf(wordOf(sheet));
    }

    public boolean isApart(int x, int y) throws IllegalArgumentException {
        takeRule(x, y);
        return rule.keepsApart();
    }

    // ==== what is asked of GROWTHS

    public String turns(int growth) throws IndexOutOfBoundsException {
        Growth grown = growthOf(growth);
        StringBuilder text = new StringBuilder();
        for (int place = 0; place < grown.turnCount; place++) {
            text.append(grown.turnAt(place));
        }
        return text.toString();
    }

    public String grown(int growth, boolean isElder) throws IndexOutOfBoundsException {
        return Reading.textOf(growthOf(growth).wordBy(isElder));
    }

    public int size(int growth, boolean isElder) throws IndexOutOfBoundsException {
        return growthOf(growth).wordBy(isElder).many;
    }

    public int ups(int growth, boolean isElder) throws IndexOutOfBoundsException {
        return Reading.upsOf(growthOf(growth).wordBy(isElder));
    }

    public int cross(int growth) throws IndexOutOfBoundsException {
        Growth grown = growthOf(growth);
        return grown.younger.many * Reading.upsOf(grown.elder) - grown.elder.many * Reading.upsOf(grown.younger);
    }

    public int alike(int growth) throws IndexOutOfBoundsException {
        Growth grown = growthOf(growth);
        return Reading.firstUnlikeJoined(grown.younger, grown.elder);
    }

    // ==== the whole

    public int house(int what) throws IllegalArgumentException {
        needArgument(what >= SHEET_ACTS && what <= KNOCKS);
        if (what == SHEET_ACTS) {
            return sheetActs;
        }
        if (what == GROWTH_ACTS) {
            return growthActs;
        }
        return what == REFUSALS ? refusals : knocks;
    }

    public int knock() {
        knocks++;
        return knocks;
    }

    public boolean isSound() {
        for (int sheet = 0; sheet < SHEET_COUNT; sheet++) {
            if (!isSheetSound(sheet)) {
                return false;
            }
        }
        for (int growth = 0; growth < GROWTH_COUNT; growth++) {
            if (!isGrowthSound(growth)) {
                return false;
            }
        }
        return true;
    }

    public long digest() {
        long d = FIRST_DIGEST;
        for (int sheet = 0; sheet < SHEET_COUNT; sheet++) {
            d = digestSheet(d, sheet);
        }
        for (int growth = 0; growth < GROWTH_COUNT; growth++) {
            d = digestGrowth(d, growth);
        }
        for (int what = SHEET_ACTS; what <= KNOCKS; what++) {
            d = digestWith(d, house(what));
        }
        return digestWith(d, oneIf(isSound()));
    }

    private Word wordOf(int sheet) {
        if (sheet < 0 || sheet >= sheets.length) {
            throw new IndexOutOfBoundsException("a sheet is 0 to 2");
        }
        return sheets[sheet];
    }

    private Growth growthOf(int growth) {
        if (growth < 0 || growth >= growths.length) {
            throw new IndexOutOfBoundsException("a growth is 0 or 1");
        }
        return growths[growth];
    }

    private static void needIndex(boolean isRight) {
        if (!isRight) {
            throw new IndexOutOfBoundsException("no such place");
        }
    }

    private static void needArgument(boolean isRight) {
        if (!isRight) {
            throw new IllegalArgumentException("a number is out of its bounds");
        }
    }

    private static void needState(boolean isRight) {
        if (!isRight) {
            throw new IllegalStateException("not to be done as things stand");
        }
    }

    private static int oneIf(boolean isSo) {
        return isSo ? 1 : 0;
    }

    private int sheetActDone(int answer) {
        sheetActs++;
        return answer;
    }

    private int growthActDone(int answer) {
        growthActs++;
        return answer;
    }

    private int refuse() {
        refusals++;
        return REFUSED;
    }

    /** Puts a word in the place of a part, the act of all methods that put words in. */
    private int exchangePart(Word word, int from, int to, Word put) {
        if (word.many - (to - from) + put.many > MOST_SIGNS) {
            return refuse();
        }
        // Made on the bench, as put may be the very word that changes.
        bench.clear();
        bench.addPart(word, 0, from);
        bench.addPart(put, 0, put.many);
        bench.addPart(word, to, word.many);
        word.take(bench);
        return sheetActDone(word.many);
    }

    private int takeOut(Word word, int from, int to) {
        int ups = Reading.upsInPart(word, from, to - from);
        bench.clear();
        bench.addPart(word, 0, from);
        bench.addPart(word, to, word.many);
        word.take(bench);
        return sheetActDone(ups);
    }

    /** Lets a sheet's word become another one; answers 1 if the two are unlike. */
    private int settle(Word word, Word made) {
        boolean isSame = Reading.orderOf(word, made) == 0;
        word.take(made);
        return sheetActDone(oneIf(!isSame));
    }

    private void takeRule(int x, int y) {
        needArgument(x >= LEAST_RULE_CODE && x <= MOST_RULE_CODE);
        needArgument(y >= LEAST_RULE_CODE && y <= MOST_RULE_CODE);
        rule.take(x, y);
    }

    private static boolean isUpOnLine(int length, int rise, int shift, int place) {
        return length > 0 && (place * rise + shift) % length + rise >= length;
    }

    private boolean isSheetSound(int sheet) {
        Word word = wordOf(sheet);
        bench.takeTurned(word);
        secondBench.takeTurned(bench);
        return word.many <= MOST_SIGNS
                && count(sheet, false) + count(sheet, true) == word.many
                && Reading.orderOf(word, secondBench) == 0;
    }

    private boolean isGrowthSound(int growth) {
        Growth grown = growthOf(growth);
        int crossDue = grown.turnCount % 2 == 0 ? 1 : -1;
        int alikeDue = grown.younger.many + grown.elder.many - 2;
        grown.layByRules(secondBench, bench, rule);
        boolean isByRules = Reading.orderOf(grown.younger, secondBench) == 0;
        grown.layByLine(secondBench);
        boolean isByLine = Reading.orderOf(grown.younger, secondBench) == 0;
        return isByRules && isByLine && cross(growth) == crossDue && alike(growth) == alikeDue;
    }

    private static long digestWith(long d, long v) {
        return d * DIGEST_FACTOR + v;
    }

    private long digestSheet(long before, int sheet) {
        Word word = wordOf(sheet);
        long d = digestWith(before, word.many);
        for (int place = 0; place < word.many; place++) {
            d = digestWith(d, word.isUp(place) ? 2 : 1);
        }
        d = digestWith(d, count(sheet, true));
        d = digestWith(d, oneIf(isMirrored(sheet)));
        d = digestWith(d, times(sheet));
        d = digestWith(d, overlaps(sheet));
        d = digestWith(d, folds(sheet));
        return digestWith(d, least(sheet));
    }

    private long digestGrowth(long before, int growth) {
        Growth grown = growthOf(growth);
        long d = digestWith(before, grown.turnCount);
        for (int place = 0; place < grown.turnCount; place++) {
            d = digestWith(d, grown.turnAt(place));
        }
        d = digestWith(d, size(growth, false));
        d = digestWith(d, size(growth, true));
        d = digestWith(d, ups(growth, false));
        d = digestWith(d, ups(growth, true));
        d = digestWith(d, cross(growth));
        return digestWith(d, alike(growth));
    }

    /** A word of at most 64 signs, in a row that is made once; a b is an up sign. */
    private static final class Word {
        private final boolean[] signs = new boolean[MOST_SIGNS];
        private int many;

        boolean isUp(int place) {
            return place >= 0 && place < signs.length && signs[place];
        }

        void put(int place, boolean isUp) {
            if (place >= 0 && place < signs.length) {
                signs[place] = isUp;
            }
        }

        void clear() {
            many = 0;
        }

        void add(boolean isUp) {
            if (many >= 0 && many < signs.length) {
                signs[many] = isUp;
                many++;
            }
        }

        /** Adds the signs of another word from one place up to another one, without that. */
        void addPart(Word other, int from, int to) {
            for (int place = from; place < to; place++) {
                add(other.isUp(place));
            }
        }

        void take(Word other) {
            for (int place = 0; place < other.many; place++) {
                put(place, other.isUp(place));
            }
            many = other.many;
        }

        /** Takes another word (never itself), turned. */
        void takeTurned(Word other) {
            clear();
            for (int place = other.many - 1; place >= 0; place--) {
                add(other.isUp(place));
            }
        }

        void takeCode(int code) {
            clear();
            boolean isBehindFirst = false;
            for (int digit = HIGHEST_DIGIT; digit >= 0; digit--) {
                boolean isOne = (code >> digit & 1) == 1;
                if (isBehindFirst) {
                    add(isOne);
                }
                isBehindFirst = isBehindFirst || isOne;
            }
        }
    }

    /** What is read from words: their parts, rings, mirrors and repeats. */
    private static final class Reading {
        static String textOf(Word word) {
            StringBuilder text = new StringBuilder();
            for (int place = 0; place < word.many; place++) {
                text.append(word.isUp(place) ? 'b' : 'a');
            }
            return text.toString();
        }

        /** The sign at a place of the ring, which may be up to twice the length. */
        static boolean isUpOnRing(Word word, int place) {
            return word.isUp(place < word.many ? place : place - word.many);
        }

        static int upsInPart(Word word, int from, int length) {
            int ups = 0;
            for (int place = from; place < from + length; place++) {
                if (isUpOnRing(word, place)) {
                    ups++;
                }
            }
            return ups;
        }

        static int upsOf(Word word) {
            int ups = 0;
            for (int place = 0; place < word.many; place++) {
                if (word.isUp(place)) {
                    ups++;
                }
            }
            return ups;
        }

        static boolean standsAt(Word word, int place, Word part) {
            if (place + part.many > word.many) {
                return false;
            }
            for (int step = 0; step < part.many; step++) {
                if (word.isUp(place + step) != part.isUp(step)) {
                    return false;
                }
            }
            return true;
        }

        /** -1 if one stands ahead of other in order, 1 if behind, 0 if both are the same. */
        static int orderOf(Word one, Word other) {
            int shared = Math.min(one.many, other.many);
            for (int place = 0; place < shared; place++) {
                if (one.isUp(place) != other.isUp(place)) {
                    return other.isUp(place) ? -1 : 1;
                }
            }
            return Integer.compare(one.many, other.many);
        }

        /** The same for two ring parts of one length. */
        static int ringOrder(Word word, int one, int other, int length) {
            for (int step = 0; step < length; step++) {
                boolean isOneUp = isUpOnRing(word, one + step);
                if (isOneUp != isUpOnRing(word, other + step)) {
                    return isOneUp ? 1 : -1;
                }
            }
            return 0;
        }

        static boolean isMirroredPart(Word word, int from, int length) {
            for (int step = 0; step < length / 2; step++) {
                if (word.isUp(from + step) != word.isUp(from + length - 1 - step)) {
                    return false;
                }
            }
            return true;
        }

        /** How many places parts of a length begin at; a ring without signs has one part, too. */
        static int beginnings(Word word, int length, boolean isRing) {
            return isRing ? Math.max(word.many, 1) : word.many - length + 1;
        }

        static int spreadOf(Word word, int length, boolean isRing) {
            int most = 0;
            int fewest = length;
            int end = beginnings(word, length, isRing);
            for (int from = 0; from < end; from++) {
                int ups = upsInPart(word, from, length);
                most = Math.max(most, ups);
                fewest = Math.min(fewest, ups);
            }
            return most - fewest;
        }

        static boolean isReadEarlier(Word word, int from, int length) {
            for (int earlier = 0; earlier < from; earlier++) {
                if (ringOrder(word, earlier, from, length) == 0) {
                    return true;
                }
            }
            return false;
        }

        static int kindsOf(Word word, int length, boolean isRing) {
            int kinds = 0;
            int end = beginnings(word, length, isRing);
            for (int from = 0; from < end; from++) {
                if (!isReadEarlier(word, from, length)) {
                    kinds++;
                }
            }
            return kinds;
        }

        static int timesOf(Word word) {
            int most = 0;
            for (int period = 1; period <= word.many; period++) {
                most = Math.max(most, timesWith(word, period));
            }
            return most;
        }

        /** A part that is like itself a period further on for k periods holds a word k + 1 times. */
        static int timesWith(Word word, int period) {
            int run = 0;
            int longest = 0;
            for (int place = 0; place + period < word.many; place++) {
                run = word.isUp(place) == word.isUp(place + period) ? run + 1 : 0;
                longest = Math.max(longest, run);
            }
            return period > 0 ? longest / period + 1 : 1;
        }

        static int overlapsOf(Word word) {
            int overlaps = 0;
            for (int period = 1; period < word.many; period++) {
                for (int place = 0; place + 2 * period < word.many; place++) {
                    if (isOverlap(word, place, period)) {
                        overlaps++;
                    }
                }
            }
            return overlaps;
        }

        static boolean isOverlap(Word word, int from, int period) {
            for (int place = from; place <= from + period; place++) {
                if (word.isUp(place) != word.isUp(place + period)) {
                    return false;
                }
            }
            return true;
        }

        static int mirrorsOf(Word word) {
            int mirrors = 0;
            for (int from = 0; from < word.many; from++) {
                for (int length = 1; length <= word.many - from; length++) {
                    if (isMirroredPart(word, from, length) && !isReadEarlier(word, from, length)) {
                        mirrors++;
                    }
                }
            }
            return mirrors;
        }

        static int foldsOf(Word word) {
            int folds = 0;
            for (int place = 0; place < word.many; place++) {
                if (isMirroredPart(word, 0, place) && isMirroredPart(word, place, word.many - place)) {
                    folds++;
                }
            }
            return folds;
        }

        static int leastOf(Word word) {
            int least = 0;
            for (int place = 1; place < word.many; place++) {
                if (ringOrder(word, place, least, word.many) < 0) {
                    least = place;
                }
            }
            return least;
        }

        /** The first place at which the two words, joined both ways, are unlike; -1 if none. */
        static int firstUnlikeJoined(Word one, Word other) {
            for (int place = 0; place < one.many + other.many; place++) {
                if (isUpJoined(one, other, place) != isUpJoined(other, one, place)) {
                    return place;
                }
            }
            return NOWHERE;
        }

        static boolean isUpJoined(Word first, Word second, int place) {
            return place < first.many ? first.isUp(place) : second.isUp(place - first.many);
        }
    }

    /** A rule: the words that come in the place of a and of b. */
    private static final class Rule {
        private final Word forA = new Word();
        private final Word forB = new Word();
        /** Whether what stands from a place on is the image of some word. */
        private final boolean[] isImageFrom = new boolean[MOST_SIGNS + 1];

        void take(int x, int y) {
            forA.takeCode(x);
            forB.takeCode(y);
        }

        boolean keepsApart() {
            return Reading.firstUnlikeJoined(forA, forB) != NOWHERE;
        }

        int imageLength(Word word) {
            int ups = Reading.upsOf(word);
            return (word.many - ups) * forA.many + ups * forB.many;
        }

        void layImage(Word word, Word into) {
            into.clear();
            for (int place = 0; place < word.many; place++) {
                Word part = word.isUp(place) ? forB : forA;
                into.addPart(part, 0, part.many);
            }
        }

        /** Lays the word whose image is told, if there is one; of a rule that is apart there is one at most. */
        boolean layOrigin(Word image, Word into) {
            markImages(image);
            if (!isMarked(0)) {
                return false;
            }
            into.clear();
            int next = 0;
            for (int place = 0; place < image.many; place++) {
                if (place == next) {
                    boolean isUp = !goesOn(image, place, forA);
                    into.add(isUp);
                    next = place + (isUp ? forB.many : forA.many);
                }
            }
            return true;
        }

        private void markImages(Word image) {
            for (int place = isImageFrom.length - 1; place >= 0; place--) {
                isImageFrom[place] = place == image.many
                        || goesOn(image, place, forA)
                        || goesOn(image, place, forB);
            }
        }

        private boolean isMarked(int place) {
            return place >= 0 && place < isImageFrom.length && isImageFrom[place];
        }

        private boolean goesOn(Word image, int place, Word part) {
            return Reading.standsAt(image, place, part) && isMarked(place + part.many);
        }
    }

    /** A growth: its turns and the two words that they have led to by copies. */
    private static final class Growth {
        private static final int[] CODES_FOR_A = {0, 5, 9, 17};
        private static final int CODE_FOR_B = 2;

        /** Each turn makes the younger word longer, so there are fewer turns than signs. */
        private final int[] turnRow = new int[MOST_SIGNS];
        private int turnCount;
        private final Word elder = new Word();
        private final Word younger = new Word();

        Growth() {
            begin();
        }

        void begin() {
            turnCount = 0;
            elder.clear();
            elder.add(true);
            younger.clear();
            younger.add(false);
        }

        Word wordBy(boolean isElder) {
            return isElder ? elder : younger;
        }

        int turnAt(int place) {
            return place >= 0 && place < turnRow.length ? turnRow[place] : 0;
        }

        /** Puts a turn behind the others, if the younger word does not become too long by it. */
        boolean goOn(int turn, Word bench) {
            boolean isInRow = turnCount >= 0 && turnCount < turnRow.length;
            if (!isInRow || turn * younger.many + elder.many > MOST_SIGNS) {
                return false;
            }
            bench.clear();
            for (int time = 0; time < turn; time++) {
                bench.addPart(younger, 0, younger.many);
            }
            bench.addPart(elder, 0, elder.many);
            elder.take(younger);
            younger.take(bench);
            turnRow[turnCount] = turn;
            turnCount++;
            return true;
        }

        /** Takes the last turn out, of which there must be one, and answers it. */
        int goBack(Word bench) {
            int turn = turnAt(turnCount - 1);
            bench.clear();
            // The elder word of the turn before stands behind the copies of the younger one.
            bench.addPart(younger, turn * elder.many, younger.many);
            younger.take(elder);
            elder.take(bench);
            turnCount--;
            return turn;
        }

        void layByRules(Word into, Word bench, Rule rule) {
            into.clear();
            into.add(false);
            for (int place = turnCount - 1; place >= 0; place--) {
                rule.take(codeForA(turnAt(place)), CODE_FOR_B);
                rule.layImage(into, bench);
                into.take(bench);
            }
        }

        private static int codeForA(int turn) {
            return turn >= 0 && turn < CODES_FOR_A.length ? CODES_FOR_A[turn] : 0;
        }

        void layByLine(Word into) {
            int elderLength = 1;
            int elderUps = 1;
            int length = 1;
            int ups = 0;
            for (int place = 0; place < turnCount; place++) {
                int turn = turnAt(place);
                int nextLength = turn * length + elderLength;
                int nextUps = turn * ups + elderUps;
                elderLength = length;
                elderUps = ups;
                length = nextLength;
                ups = nextUps;
            }
            into.clear();
            for (int place = 1; place < length - 1; place++) {
                into.add(isUpOnLine(length, ups, 0, place));
            }
            addLineEnd(into);
        }

        private void addLineEnd(Word into) {
            boolean isOdd = turnCount % 2 == 1;
            if (turnCount > 0) {
                into.add(!isOdd);
            }
            into.add(isOdd);
        }
    }

    /** The words of twos, by their three roads. */
    private static final class Twos {
        private static final int CODE_FOR_A = 5;
        private static final int CODE_FOR_B = 6;

        static void layByRule(int step, Word into, Word bench, Rule rule) {
            rule.take(CODE_FOR_A, CODE_FOR_B);
            into.clear();
            into.add(false);
            for (int done = 0; done < step; done++) {
                rule.layImage(into, bench);
                into.take(bench);
            }
        }

        static void layByCopies(int step, Word into) {
            into.clear();
            into.add(false);
            for (int done = 0; done < step; done++) {
                int half = into.many;
                for (int place = 0; place < half; place++) {
                    into.add(!into.isUp(place));
                }
            }
        }

        static void laySignBySign(int step, Word into) {
            into.clear();
            for (int place = 0; place < 1 << step; place++) {
                into.add((Integer.bitCount(place) & 1) == 1);
            }
        }
    }
}
