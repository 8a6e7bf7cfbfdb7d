/** Words that are grounded by words: what can be learned from which words, and at what cost. */
public final class WordGrounds {
    public static final int UNKNOWN = -1, OUTSIDE = -2, STATE = -3, NONE = -6, FAULT = -7;

    private static final int MOST_WORDS = 14;
    private static final int FIRST_WORDS = 8;
    private static final int MOST_SIGNS = 20;
    private static final int LEAST_SIGN = 33;
    private static final int GREATEST_SIGN = 126;
    private static final int FIRST_COST = 1;
    private static final int MOST_COST = 9;
    private static final int IMAGES = 2;
    /** From this number on, what is asked of count and least is asked of one WORD. */
    private static final int OF_WORD = 10;
    private static final int BITS_OF_LONG = 64;

    private final Words words = new Words();
    private final Words[] images = {new Words(), new Words()};
    private final Text text = new Text();
    private final Rings rings = new Rings();
    private final Tellings tellings = new Tellings();
    private int keptImages = 0;
    private int toldFault = NONE;
    /** The tellings are dear to find, so they are found again only after a DEFINITION has changed. */
    private boolean tellingsStand = false;

    public WordGrounds() {
    }

    // ---- 1 words

    public int size(int n) {
        if (n < 1 || n > MOST_WORDS) {
            return OUTSIDE;
        }
        int before = words.total;
        words.resize(n);
        tellingsStand = false;
        return before;
    }

    public int say(int sign) {
        if (sign < LEAST_SIGN || sign > GREATEST_SIGN) {
            return OUTSIDE;
        }
        if (text.length >= MOST_SIGNS) {
            return STATE;
        }
        text.append(sign);
        return text.length;
    }

    public int wipe() {
        int before = text.length;
        text.length = 0;
        return before;
    }

    public int define() {
        int place = text.faultPlace(words.total);
        if (place != NONE) {
            toldFault = place;
            return FAULT;
        }
        int word = text.toldWord();
        if (text.tellsBare()) {
            words.makeBare(word);
        } else {
            words.setDefinition(word, text.toldSet());
        }
        text.length = 0;
        tellingsStand = false;
        return words.isBare(word) ? NONE : Integer.bitCount(words.definitions[word]);
    }

    public int fault() {
        return text.faultPlace(words.total);
    }

    public int uses(int word) {
        if (!words.has(word)) {
            return UNKNOWN;
        }
        return words.isBare(word) ? NONE : words.definitions[word];
    }

    public int users(int word) {
        if (!words.has(word)) {
            return UNKNOWN;
        }
        return words.usersOf(word);
    }

    public int cost(int word, int n) {
        if (!words.has(word)) {
            return UNKNOWN;
        }
        if (n < FIRST_COST || n > MOST_COST) {
            return OUTSIDE;
        }
        int before = words.costs[word];
        words.costs[word] = n;
        return before;
    }

    // ---- 2 learning

    public int grounds(int set) {
        if (!words.hasAll(set)) {
            return OUTSIDE;
        }
        return words.groundedBy(set);
    }

    public int day(int word, int set) {
        if (!words.has(word)) {
            return UNKNOWN;
        }
        if (!words.hasAll(set)) {
            return OUTSIDE;
        }
        return words.daysTill(1 << word, set);
    }

    public int learned(int set, int day) {
        if (!words.hasAll(set) || day < 1 || day > MOST_WORDS) {
            return OUTSIDE;
        }
        int before = set;
        for (int past = 1; past < day; past++) {
            before = words.nextDay(before);
        }
        return words.nextDay(before) & ~before;
    }

    public int know(int set) {
        if (!words.hasAll(set)) {
            return OUTSIDE;
        }
        int before = words.known;
        words.known = set;
        return before;
    }

    public int plan(int what) {
        if (what < 0 || what > 3) {
            return OUTSIDE;
        }
        int planned = currentTellings().cheapest(words, words.known);
        switch (what) {
            case 0:
                return planned;
            case 1:
                return words.costOf(planned);
            case 2:
                return Integer.bitCount(planned);
            default:
                return words.daysTill(words.all(), words.known | planned);
        }
    }

    public int saves(int word) {
        if (!words.has(word)) {
            return UNKNOWN;
        }
        Tellings current = currentTellings();
        int without = current.cheapest(words, words.known);
        int with = current.cheapest(words, words.known | 1 << word);
        return words.costOf(without) - words.costOf(with);
    }

    public int least(int what) {
        if (what != 0 && what != 1 && !words.has(what - OF_WORD)) {
            return OUTSIDE;
        }
        Tellings current = currentTellings();
        if (what == 1) {
            return current.greatestLeast();
        }
        return current.leastWith(what == 0 ? 0 : 1 << what - OF_WORD);
    }

    // ---- 3 rings

    public int way(int from, int to) {
        if (!words.has(from) || !words.has(to)) {
            return UNKNOWN;
        }
        return words.stepsBetween(from, to);
    }

    public int ring(int k) {
        if (k < -1) {
            return OUTSIDE;
        }
        Rings current = currentRings();
        return k == -1 ? current.howMany() : current.numbered(k);
    }

    public int lie(int what) {
        switch (what) {
            case 0:
                return currentRings().inRings;
            case 1:
                return currentRings().before();
            case 2:
                return currentRings().behind();
            case 3:
                return words.all() & ~words.used();
            case 4:
                return words.all() & ~words.defined;
            default:
                return OUTSIDE;
        }
    }

    // ---- 4 images

    public int image(int k) {
        if (k < 0 || k >= IMAGES) {
            return OUTSIDE;
        }
        images[k].copyFrom(words);
        keptImages |= 1 << k;
        return 1;
    }

    public int restore(int k) {
        if (k < 0 || k >= IMAGES) {
            return OUTSIDE;
        }
        if ((keptImages >> k & 1) == 0) {
            return STATE;
        }
        words.copyFrom(images[k]);
        tellingsStand = false;
        return 1;
    }

    public int count(int what) {
        switch (what) {
            case 0:
                return words.total;
            case 1:
                return words.known;
            case 2:
                return Integer.bitCount(words.defined);
            case 3:
                return words.howOftenUsed();
            case 4:
                return text.length;
            case 5:
                return toldFault;
            case 6:
                return keptImages;
            default:
                return words.has(what - OF_WORD) ? words.costs[what - OF_WORD] : OUTSIDE;
        }
    }

    private Rings currentRings() {
        rings.trace(words);
        return rings;
    }

    private Tellings currentTellings() {
        if (!tellingsStand) {
            tellings.find(words, currentRings());
            tellingsStand = true;
        }
        return tellings;
    }

    /** What an IMAGE keeps: SIZE, COSTS, DEFINITIONS and THE KNOWN. */
    private static final class Words {
        /** SIZE: 1 to MOST_WORDS, so that each WORD below it is an index of both rows. */
        private int total = FIRST_WORDS;
        private int known = 0;
        /** The WORDS that have a DEFINITION, an empty one too; all others are BARE. */
        private int defined = 0;
        private final int[] costs = new int[MOST_WORDS];
        /** The set of a BARE WORD is empty here, so that it USES none wherever uses are followed. */
        private final int[] definitions = new int[MOST_WORDS];

        private Words() {
            for (int word = 0; word < MOST_WORDS; word++) {
                costs[word] = FIRST_COST;
            }
        }

        private int all() {
            return (1 << total) - 1;
        }

        private boolean has(int word) {
            return word >= 0 && word < total;
        }

        private boolean hasAll(int set) {
            return (set & ~all()) == 0;
        }

        private boolean isBare(int word) {
            return (defined >> word & 1) == 0;
        }

        private void makeBare(int word) {
            definitions[word] = 0;
            defined &= ~(1 << word);
        }

        private void setDefinition(int word, int set) {
            definitions[word] = set;
            defined |= 1 << word;
        }

        /** WORDS that go are made as new at once, so that they are as new when they come again. */
        private void resize(int n) {
            total = n;
            known &= all();
            for (int word = 0; word < n; word++) {
                definitions[word] &= all();
            }
            for (int word = n; word < MOST_WORDS; word++) {
                makeBare(word);
                costs[word] = FIRST_COST;
            }
        }

        private void copyFrom(Words other) {
            total = other.total;
            known = other.known;
            defined = other.defined;
            for (int word = 0; word < MOST_WORDS; word++) {
                costs[word] = other.costs[word];
                definitions[word] = other.definitions[word];
            }
        }

        private int usersOf(int word) {
            int set = 0;
            for (int user = 0; user < total; user++) {
                set |= (definitions[user] >> word & 1) << user;
            }
            return set;
        }

        private int used() {
            int set = 0;
            for (int user = 0; user < total; user++) {
                set |= definitions[user];
            }
            return set;
        }

        private int howOftenUsed() {
            int sum = 0;
            for (int user = 0; user < total; user++) {
                sum += Integer.bitCount(definitions[user]);
            }
            return sum;
        }

        private int costOf(int set) {
            int sum = 0;
            for (int word = 0; word < total; word++) {
                if ((set >> word & 1) != 0) {
                    sum += costs[word];
                }
            }
            return sum;
        }

        /** What is known on the DAY after one on which a set was known. */
        private int nextDay(int set) {
            int next = set;
            for (int word = 0; word < total; word++) {
                if (!isBare(word) && (definitions[word] & ~set) == 0) {
                    next |= 1 << word;
                }
            }
            return next;
        }

        /** Each DAY but the last brings a WORD, so that no more DAYS are needed than there are WORDS. */
        private int groundedBy(int set) {
            int now = set;
            for (int past = 0; past < total; past++) {
                now = nextDay(now);
            }
            return now;
        }

        /** On which DAY all of the wanted WORDS are known for the first time, LEARNING from a set. */
        private int daysTill(int wanted, int set) {
            int now = set;
            for (int past = 0; past <= total; past++) {
                if ((wanted & ~now) == 0) {
                    return past;
                }
                now = nextDay(now);
            }
            return NONE;
        }

        private int stepsBetween(int from, int to) {
            int reached = definitions[from];
            for (int steps = 1; steps <= total; steps++) {
                if ((reached >> to & 1) != 0) {
                    return steps;
                }
                reached |= usedByAny(reached);
            }
            return NONE;
        }

        private int usedByAny(int users) {
            int set = 0;
            for (int user = 0; user < total; user++) {
                if ((users >> user & 1) != 0) {
                    set |= definitions[user];
                }
            }
            return set;
        }
    }

    /** THE TEXT. */
    private static final class Text {
        private final int[] signs = new int[MOST_SIGNS];
        private int length = 0;

        private void append(int sign) {
            if (length < MOST_SIGNS) {
                signs[length] = sign;
                length++;
            }
        }

        /** The place of the FAULT where there are so many WORDS, or NONE. */
        private int faultPlace(int total) {
            if (length == 0 || wordBit(signs[0], total) == 0) {
                return 0;
            }
            if (length == 1 || signs[1] != ':' && signs[1] != '.') {
                return 1;
            }
            if (tellsBare()) {
                return length == 2 ? NONE : 2;
            }
            int seen = 0;
            for (int at = 2; at < length; at++) {
                int bit = wordBit(signs[at], total);
                if (bit == 0 || (seen & bit) != 0) {
                    return at;
                }
                seen |= bit;
            }
            return NONE;
        }

        /** A WORD that there is only if THE TEXT has no FAULT. */
        private int toldWord() {
            return signs[0] - 'a';
        }

        private boolean tellsBare() {
            return signs[1] == '.';
        }

        private int toldSet() {
            int set = 0;
            for (int at = 2; at < length; at++) {
                set |= wordBit(signs[at], MOST_WORDS);
            }
            return set;
        }

        /** The set of the one WORD whose letter a sign is; empty, if there is none. */
        private static int wordBit(int sign, int total) {
            int word = sign - 'a';
            return word >= 0 && word < total ? 1 << word : 0;
        }
    }

    /** Which WORDS there are WAYS to, and the RINGS that come of it. */
    private static final class Rings {
        private int total = 0;
        /** To which WORDS there is a WAY from each. */
        private final int[] reach = new int[MOST_WORDS];
        private int inRings = 0;

        private void trace(Words words) {
            total = words.total;
            for (int word = 0; word < total; word++) {
                reach[word] = words.definitions[word];
            }
            for (int via = 0; via < total; via++) {
                for (int from = 0; from < total; from++) {
                    if ((reach[from] >> via & 1) != 0) {
                        reach[from] |= reach[via];
                    }
                }
            }
            inRings = 0;
            for (int word = 0; word < total; word++) {
                inRings |= reach[word] & 1 << word;
            }
        }

        /** The RING of a WORD that is in one. */
        private int ringOf(int word) {
            int set = 0;
            for (int other = 0; other < total; other++) {
                if ((reach[word] >> other & 1) != 0 && (reach[other] >> word & 1) != 0) {
                    set |= 1 << other;
                }
            }
            return set;
        }

        private int howMany() {
            int rings = 0;
            int left = inRings;
            for (int word = 0; word < total; word++) {
                if ((left >> word & 1) != 0) {
                    left &= ~ringOf(word);
                    rings++;
                }
            }
            return rings;
        }

        private int numbered(int k) {
            int next = 0;
            int left = inRings;
            for (int word = 0; word < total; word++) {
                if ((left >> word & 1) != 0) {
                    int found = ringOf(word);
                    if (next == k) {
                        return found;
                    }
                    left &= ~found;
                    next++;
                }
            }
            return NONE;
        }

        private int before() {
            int set = 0;
            for (int word = 0; word < total; word++) {
                if ((inRings >> word & 1) != 0) {
                    set |= reach[word];
                }
            }
            return set & ~inRings;
        }

        private int behind() {
            int set = 0;
            for (int word = 0; word < total; word++) {
                if ((reach[word] & inRings) != 0) {
                    set |= 1 << word;
                }
            }
            return set & ~inRings;
        }
    }

    /**
     * Which sets GROUND ALL. A set does so just if all BARE WORDS are in it and the WORDS outside it
     * make no circle among themselves. So BARE WORDS must be told; of the others only those in RINGS
     * ever need to be, and each set of these is looked at once.
     */
    private static final class Tellings {
        private int must = 0;
        private int may = 0;
        /** A bit for each set of WORDS that may be told, set if there is no circle in it; bits keep the row short. */
        private final long[] circleFree = new long[(1 << MOST_WORDS) / BITS_OF_LONG];

        private void find(Words words, Rings rings) {
            must = words.all() & ~words.defined;
            may = rings.inRings;
            int subsets = 1 << Integer.bitCount(may);
            int set = 0;
            for (int seen = 0; seen < subsets; seen++) {
                mark(set, set == 0 || isFreeWithoutOne(words, set));
                set = nextSubset(set, may);
            }
        }

        /** Smaller sets are marked already: one WORD that USES none of a set can be left out of it. */
        private boolean isFreeWithoutOne(Words words, int set) {
            for (int word = 0; word < words.total; word++) {
                if ((set >> word & 1) != 0 && (words.definitions[word] & set) == 0) {
                    return isFree(set & ~(1 << word));
                }
            }
            return false;
        }

        /** The next greater one of the sets of some WORDS; the empty one behind the last. */
        private static int nextSubset(int set, int of) {
            return set - of & of;
        }

        private void mark(int set, boolean free) {
            int at = set / BITS_OF_LONG;
            long bit = 1L << set % BITS_OF_LONG;
            if (at >= 0 && at < circleFree.length) {
                circleFree[at] = free ? circleFree[at] | bit : circleFree[at] & ~bit;
            }
        }

        private boolean isFree(int set) {
            int at = set / BITS_OF_LONG;
            return at >= 0 && at < circleFree.length && (circleFree[at] >> set % BITS_OF_LONG & 1) != 0;
        }

        /**
         * THE PLAN, if a set were THE KNOWN. What must be told is the same in each set that is compared,
         * so it doesn't sway the choice; lesser numbers come first and stay, where COST and count are equal.
         */
        private int cheapest(Words words, int known) {
            int choice = may & ~known;
            int best = choice;
            int bestCost = words.costOf(best);
            int subsets = 1 << Integer.bitCount(choice);
            int told = 0;
            for (int seen = 0; seen < subsets; seen++) {
                if (isFree(choice & ~told)) {
                    int toldCost = words.costOf(told);
                    boolean fewer = Integer.bitCount(told) < Integer.bitCount(best);
                    if (toldCost < bestCost || toldCost == bestCost && fewer) {
                        best = told;
                        bestCost = toldCost;
                    }
                }
                told = nextSubset(told, choice);
            }
            return best | must & ~known;
        }

        private boolean isLeast(int told) {
            int rest = may & ~told;
            if (!isFree(rest)) {
                return false;
            }
            for (int word = 0; word < MOST_WORDS; word++) {
                if ((told >> word & 1) != 0 && isFree(rest | 1 << word)) {
                    return false;
                }
            }
            return true;
        }

        /** How many of the least sets that GROUND ALL have all the wanted WORDS. */
        private int leastWith(int wanted) {
            int found = 0;
            int subsets = 1 << Integer.bitCount(may);
            int told = 0;
            for (int seen = 0; seen < subsets; seen++) {
                if ((wanted & ~(told | must)) == 0 && isLeast(told)) {
                    found++;
                }
                told = nextSubset(told, may);
            }
            return found;
        }

        private int greatestLeast() {
            int most = 0;
            int subsets = 1 << Integer.bitCount(may);
            int told = 0;
            for (int seen = 0; seen < subsets; seen++) {
                int has = Integer.bitCount(told | must);
                if (has > most && isLeast(told)) {
                    most = has;
                }
                told = nextSubset(told, may);
            }
            return most;
        }
    }
}
