/** The document word by word, with no thought of speed. */
final class Model {
    private static final int UNKNOWN = -1, OUTSIDE = -2, STATE = -3, NONE = -6, FAULT = -7;
    private int size = 8;
    private int[] costs = new int[14];
    private boolean[] bare = new boolean[14];
    private boolean[][] uses = new boolean[14][14];
    private int known = 0;
    private String text = "";
    private int told = NONE;
    private final Model[] images = new Model[2];

    Model() {
        for (int word = 0; word < 14; word++) {
            costs[word] = 1;
            bare[word] = true;
        }
    }

    /** SIZE. */
    int words() {
        return size;
    }

    int call(String name, int first, int second) {
        switch (name) {
            case "size": return size(first);
            case "say": return say(first);
            case "wipe": return wipe();
            case "define": return define();
            case "fault": return fault();
            case "uses": return !is(first) ? UNKNOWN : bare[first] ? NONE : set(uses[first]);
            case "users": return users(first);
            case "cost": return cost(first, second);
            case "grounds": return !isSet(first) ? OUTSIDE : known(first, 14);
            case "day": return day(first, second);
            case "learned": return learned(first, second);
            case "know": return know(first);
            case "plan": return plan(first);
            case "saves": return saves(first);
            case "least": return least(first);
            case "way": return !is(first) || !is(second) ? UNKNOWN : way(first, second);
            case "ring": return ring(first);
            case "lie": return lie(first);
            case "image": return image(first);
            case "restore": return restore(first);
            case "count": return count(first);
            default: throw new IllegalStateException(name);
        }
    }

    private boolean is(int word) {
        return 0 <= word && word < size;
    }

    private boolean isSet(int set) {
        return 0 <= set && set < 1 << size;
    }

    private static boolean in(int word, int set) {
        return (set & 1 << word) != 0;
    }

    private static int set(boolean[] row) {
        int set = 0;
        for (int word = 0; word < row.length; word++) {
            set += row[word] ? 1 << word : 0;
        }
        return set;
    }

    private int size(int n) {
        if (n < 1 || n > 14) {
            return OUTSIDE;
        }
        int before = size;
        for (int come = size; come < n; come++) {
            bare[come] = true;
            costs[come] = 1;
            uses[come] = new boolean[14];
        }
        for (int go = n; go < size; go++) {
            for (int word = 0; word < 14; word++) {
                uses[word][go] = false;
            }
            if (in(go, known)) {
                known -= 1 << go;
            }
        }
        size = n;
        return before;
    }

    private int say(int sign) {
        if (sign < 33 || sign > 126) {
            return OUTSIDE;
        }
        if (text.length() == 20) {
            return STATE;
        }
        text += (char) sign;
        return text.length();
    }

    private int wipe() {
        int before = text.length();
        text = "";
        return before;
    }

    private boolean isBeginning(String part) {
        String letter = "[a-" + (char) ('a' + size - 1) + "]";
        if (!part.matches("|" + letter + "(|\\.|:" + letter + "*)")) {
            return false;
        }
        for (int at = 2; at < part.length(); at++) {
            if (part.lastIndexOf(part.charAt(at)) != at) {
                return false;
            }
        }
        return true;
    }

    private int fault() {
        for (int place = 0; place < text.length(); place++) {
            if (!isBeginning(text.substring(0, place + 1))) {
                return place;
            }
        }
        return text.length() >= 2 ? NONE : text.length();
    }

    private int define() {
        if (fault() != NONE) {
            told = fault();
            return FAULT;
        }
        int word = text.charAt(0) - 'a';
        uses[word] = new boolean[14];
        for (char letter : text.substring(2).toCharArray()) {
            uses[word][letter - 'a'] = true;
        }
        bare[word] = text.charAt(1) == '.';
        int letters = text.length() - 2;
        text = "";
        return bare[word] ? NONE : letters;
    }

    private int users(int word) {
        if (!is(word)) {
            return UNKNOWN;
        }
        int set = 0;
        for (int user = 0; user < size; user++) {
            set += uses[user][word] ? 1 << user : 0;
        }
        return set;
    }

    private int cost(int word, int n) {
        if (!is(word)) {
            return UNKNOWN;
        }
        if (n < 1 || n > 9) {
            return OUTSIDE;
        }
        int before = costs[word];
        costs[word] = n;
        return before;
    }

    /** What is known on a DAY, LEARNING from a set. */
    private int known(int set, int day) {
        int now = set;
        for (int past = 0; past < day; past++) {
            int before = now;
            for (int word = 0; word < size; word++) {
                if (!in(word, before) && !bare[word] && (set(uses[word]) & before) == set(uses[word])) {
                    now |= 1 << word;
                }
            }
            if (now == before) {
                return now;
            }
        }
        return now;
    }

    private int day(int word, int set) {
        if (!is(word)) {
            return UNKNOWN;
        }
        if (!isSet(set)) {
            return OUTSIDE;
        }
        for (int day = 0; day <= 14; day++) {
            if (in(word, known(set, day))) {
                return day;
            }
        }
        return NONE;
    }

    private int learned(int set, int day) {
        if (!isSet(set) || day < 1 || day > 14) {
            return OUTSIDE;
        }
        return known(set, day) - known(set, day - 1);
    }

    private int know(int set) {
        if (!isSet(set)) {
            return OUTSIDE;
        }
        int before = known;
        known = set;
        return before;
    }

    private boolean groundsAll(int set) {
        return known(set, 14) == (1 << size) - 1;
    }

    private int costs(int set) {
        int sum = 0;
        for (int word = 0; word < size; word++) {
            sum += in(word, set) ? costs[word] : 0;
        }
        return sum;
    }

    private int planFrom(int known) {
        int best = -1;
        for (int set = 0; set < 1 << size; set++) {
            if ((set & known) == 0 && (best < 0 || isBetter(set, best)) && groundsAll(set | known)) {
                best = set;
            }
        }
        return best;
    }

    private boolean isBetter(int set, int best) {
        if (costs(set) != costs(best)) {
            return costs(set) < costs(best);
        }
        if (Integer.bitCount(set) != Integer.bitCount(best)) {
            return Integer.bitCount(set) < Integer.bitCount(best);
        }
        return set < best;
    }

    private int plan(int what) {
        if (what < 0 || what > 3) {
            return OUTSIDE;
        }
        int planned = planFrom(known);
        if (what < 3) {
            return what == 0 ? planned : what == 1 ? costs(planned) : Integer.bitCount(planned);
        }
        int days = 0;
        while (known(known | planned, days) != (1 << size) - 1) {
            days++;
        }
        return days;
    }

    private int saves(int word) {
        if (!is(word)) {
            return UNKNOWN;
        }
        return costs(planFrom(known)) - costs(planFrom(known | 1 << word));
    }

    private boolean isLeast(int set) {
        if (!groundsAll(set)) {
            return false;
        }
        for (int word = 0; word < size; word++) {
            if (in(word, set) && groundsAll(set - (1 << word))) {
                return false;
            }
        }
        return true;
    }

    private int least(int what) {
        if (what != 0 && what != 1 && (what < 10 || !is(what - 10))) {
            return OUTSIDE;
        }
        int answer = 0;
        for (int set = 0; set < 1 << size; set++) {
            if (isLeast(set)) {
                if (what == 1) {
                    answer = Math.max(answer, Integer.bitCount(set));
                } else if (what == 0 || in(what - 10, set)) {
                    answer++;
                }
            }
        }
        return answer;
    }

    private int way(int from, int to) {
        int[][] steps = new int[size][size];
        for (int a = 0; a < size; a++) {
            for (int b = 0; b < size; b++) {
                steps[a][b] = uses[a][b] ? 1 : 1000;
            }
        }
        for (int via = 0; via < size; via++) {
            for (int a = 0; a < size; a++) {
                for (int b = 0; b < size; b++) {
                    steps[a][b] = Math.min(steps[a][b], steps[a][via] + steps[via][b]);
                }
            }
        }
        return steps[from][to] >= 1000 ? NONE : steps[from][to];
    }

    /** The RING of a WORD; 0, if it is in none. */
    private int ringOf(int word) {
        int set = 0;
        for (int other = 0; other < size; other++) {
            set += way(word, other) > 0 && way(other, word) > 0 ? 1 << other : 0;
        }
        return set;
    }

    private int ring(int k) {
        if (k < -1) {
            return OUTSIDE;
        }
        int rings = 0;
        for (int word = 0; word < size; word++) {
            int ring = ringOf(word);
            if (ring != 0 && Integer.numberOfTrailingZeros(ring) == word) {
                if (rings == k) {
                    return ring;
                }
                rings++;
            }
        }
        return k == -1 ? rings : NONE;
    }

    private boolean lies(int word, int what) {
        if (what == 0 || what == 3 || what == 4) {
            return what == 0 ? ringOf(word) != 0 : what == 3 ? users(word) == 0 : bare[word];
        }
        boolean found = false;
        for (int other = 0; other < size; other++) {
            int steps = what == 1 ? way(other, word) : way(word, other);
            found |= ringOf(word) == 0 && ringOf(other) != 0 && steps > 0;
        }
        return found;
    }

    private int lie(int what) {
        if (what < 0 || what > 4) {
            return OUTSIDE;
        }
        int set = 0;
        for (int word = 0; word < size; word++) {
            set += lies(word, what) ? 1 << word : 0;
        }
        return set;
    }

    private static void copy(Model from, Model to) {
        to.size = from.size;
        to.known = from.known;
        to.costs = from.costs.clone();
        to.bare = from.bare.clone();
        to.uses = new boolean[14][];
        for (int word = 0; word < 14; word++) {
            to.uses[word] = from.uses[word].clone();
        }
    }

    private int image(int k) {
        if (k != 0 && k != 1) {
            return OUTSIDE;
        }
        images[k] = new Model();
        copy(this, images[k]);
        return 1;
    }

    private int restore(int k) {
        if (k != 0 && k != 1) {
            return OUTSIDE;
        }
        if (images[k] == null) {
            return STATE;
        }
        copy(images[k], this);
        return 1;
    }

    private int count(int what) {
        int definitions = 0;
        int used = 0;
        for (int word = 0; word < size; word++) {
            definitions += bare[word] ? 0 : 1;
            used += Integer.bitCount(users(word));
        }
        switch (what) {
            case 0: return size;
            case 1: return known;
            case 2: return definitions;
            case 3: return used;
            case 4: return text.length();
            case 5: return told;
            case 6: return (images[0] != null ? 1 : 0) + (images[1] != null ? 2 : 0);
            default: return what >= 10 && is(what - 10) ? costs[what - 10] : OUTSIDE;
        }
    }
}
