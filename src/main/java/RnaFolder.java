/** Folding a short row of bases into nested pairs with the greatest score. */
public final class RnaFolder {
    private static final int MOST_BASES = 11;
    private static final int GREATEST_BASE = 3;
    private static final int GREATEST_GAP = 4;
    private static final int GREATEST_HOLD = 3;
    private static final int NUMBERS = 6;
    private static final int GREATEST_NUMBER = 20;

    private static final int STACK_BONUS = 3;
    private static final int BULGE_COST = 4;
    private static final int BRANCH_COST = 5;

    private static final int FREE = 0;
    private static final int FIRST_OF_PAIR = 1;
    private static final int SECOND_OF_PAIR = 2;

    private static final int NO_KIND = -1;
    private static final int NO_PLACE = -1;
    private static final int NO_CODE = -1;
    private static final int NO_SCORE = -1000;

    private final int gap;
    private int size = 0;
    private final int[] bases = new int[MOST_BASES];
    private final int[] holds = new int[MOST_BASES];
    private final int[] numbers = new int[NUMBERS];

    // The fold that was read last; every question reads it anew before it looks.
    private final int[] digits = new int[MOST_BASES];
    private final int[] partners = new int[MOST_BASES];
    private final int[] opened = new int[MOST_BASES];

    // What the last survey found; every question surveys anew before it looks.
    private int foundFolds = 0;
    private int foundBest = NO_SCORE;
    private int foundBestFolds = 0;
    private int foundBestCode = NO_CODE;

    public RnaFolder(int gap) {
        this.gap = gap < 0 ? 0 : gap > GREATEST_GAP ? GREATEST_GAP : gap;
        numbers[0] = 3;
        numbers[1] = 5;
        numbers[2] = 1;
        numbers[STACK_BONUS] = 2;
        numbers[BULGE_COST] = 2;
        numbers[BRANCH_COST] = 3;
    }

    public int push(int base) {
        if (!isBase(base)) {
            return -1;
        }
        if (size >= MOST_BASES) {
            return -2;
        }
        bases[size] = base;
        holds[size] = FREE;
        size++;
        return size;
    }

    public int pop() {
        if (size <= 0) {
            return -1;
        }
        size--;
        return bases[size];
    }

    public int set(int place, int base) {
        if (!isPlace(place)) {
            return -1;
        }
        if (!isBase(base)) {
            return -2;
        }
        int before = bases[place];
        bases[place] = base;
        return before;
    }

    public int hold(int place, int how) {
        if (!isPlace(place)) {
            return -1;
        }
        if (how < 0 || how > GREATEST_HOLD) {
            return -2;
        }
        int before = holds[place];
        holds[place] = how;
        return before;
    }

    public int tune(int which, int value) {
        if (which < 0 || which >= NUMBERS) {
            return -1;
        }
        if (value < 0 || value > GREATEST_NUMBER) {
            return -2;
        }
        int before = numbers[which];
        numbers[which] = value;
        return before;
    }

    public int length() {
        return size;
    }

    public int fits(int i, int j) {
        if (!isPlace(i) || !isPlace(j)) {
            return -1;
        }
        return canPair(i, j) ? 1 : 0;
    }

    public int folds() {
        survey(NO_PLACE, NO_PLACE);
        return foundFolds;
    }

    public int best() {
        survey(NO_PLACE, NO_PLACE);
        return foundBest;
    }

    public int bestFolds() {
        survey(NO_PLACE, NO_PLACE);
        return foundBestFolds;
    }

    public int bestCode() {
        survey(NO_PLACE, NO_PLACE);
        return foundBestCode;
    }

    public int partner(int place) {
        if (!isPlace(place)) {
            return -1;
        }
        survey(NO_PLACE, NO_PLACE);
        if (foundBestCode == NO_CODE) {
            return -2;
        }
        readFold(foundBestCode, false);
        return partners[place] == NO_PLACE ? -2 : partners[place];
    }

    public int bestWith(int i, int j) {
        if (!isPlace(i) || !isPlace(j)) {
            return -2000;
        }
        survey(i, j);
        return foundBest;
    }

    public int foldsWith(int i, int j) {
        if (!isPlace(i) || !isPlace(j)) {
            return -1;
        }
        survey(i, j);
        return foundFolds;
    }

    public int scoreOf(int code) {
        if (code < 0 || code >= threeToThe(size)) {
            return NO_SCORE;
        }
        int sound = readFold(code, false);
        return sound == size ? foldScore() : NO_SCORE;
    }

    private static boolean isBase(int base) {
        return base >= 0 && base <= GREATEST_BASE;
    }

    private boolean isPlace(int place) {
        return place >= 0 && place < size;
    }

    /** The kind of a pair of these two bases, in either order. */
    private static int kindOf(int one, int other) {
        int low = one < other ? one : other;
        int high = one < other ? other : one;
        if (low == 0 && high == 3) {
            return 0;
        }
        if (low == 1 && high == 2) {
            return 1;
        }
        if (low == 2 && high == 3) {
            return 2;
        }
        return NO_KIND;
    }

    private boolean canPair(int i, int j) {
        // The gap is at least 0, so i >= j is turned away here too.
        return j - i > gap && kindOf(bases[i], bases[j]) != NO_KIND;
    }

    private static int threeToThe(int power) {
        int result = 1;
        for (int k = 0; k < power; k++) {
            result *= 3;
        }
        return result;
    }

    /** Finds what there is to say of the allowed folds with the pair (i, j), or of all if i is NO_PLACE. */
    private void survey(int i, int j) {
        foundFolds = 0;
        foundBest = NO_SCORE;
        foundBestFolds = 0;
        foundBestCode = NO_CODE;
        int end = threeToThe(size);
        int next = 0;
        for (int code = 0; code < end; code++) {
            if (code < next) {
                continue;
            }
            int sound = readFold(code, true);
            if (sound < size) {
                // This is the first code with its unsound beginning: all that begin so are passed over.
                next = code + threeToThe(size - 1 - sound);
            } else if (hasPair(i, j)) {
                int score = foldScore();
                count(code, score);
            }
        }
    }

    /** Whether the fold read last has the pair (i, j); a pair names its first place first. */
    private boolean hasPair(int i, int j) {
        return i == NO_PLACE || i < j && partners[i] == j;
    }

    private void count(int code, int score) {
        foundFolds++;
        if (score > foundBest) {
            foundBest = score;
            foundBestFolds = 0;
            // Codes come in rising order, so the first one with a score is the least.
            foundBestCode = code;
        }
        if (score == foundBest) {
            foundBestFolds++;
        }
    }

    /**
     * Reads a code into digits and partners, and answers how many of its first places are sound:
     * the row's length if it is the code of a fold (of an allowed one, if the holds are heeded).
     */
    private int readFold(int code, boolean heedHolds) {
        readDigits(code);
        int depth = 0;
        for (int place = 0; place < size; place++) {
            if (heedHolds && !isAsHeld(place)) {
                return place;
            }
            partners[place] = NO_PLACE;
            if (digits[place] == FIRST_OF_PAIR) {
                opened[depth] = place;
                depth++;
            }
            if (digits[place] == SECOND_OF_PAIR) {
                if (depth == 0 || !canPair(opened[depth - 1], place)) {
                    return place;
                }
                depth--;
                partners[place] = opened[depth];
                partners[opened[depth]] = place;
            }
            // Each open pair needs one of the places that are left; at the last place none may be open.
            if (depth > size - 1 - place) {
                return place;
            }
        }
        return size;
    }

    private void readDigits(int code) {
        int rest = code;
        for (int place = size - 1; place >= 0; place--) {
            digits[place] = rest % 3;
            rest /= 3;
        }
    }

    private boolean isAsHeld(int place) {
        // A hold other than FREE is one more than the digit that it asks for.
        return holds[place] == FREE || holds[place] == digits[place] + 1;
    }

    /** The score of the fold read last. */
    private int foldScore() {
        int score = 0;
        for (int place = 0; place < size; place++) {
            if (digits[place] == FIRST_OF_PAIR) {
                score += pairScore(place, partners[place]);
            }
        }
        return score;
    }

    private int pairScore(int i, int j) {
        // Reading the fold has shown that the two places fit, so their pair is of a kind.
        int strength = numbers[kindOf(bases[i], bases[j])];
        int within = 0;
        int lastWithin = NO_PLACE;
        int depth = 0;
        for (int k = i + 1; k < j; k++) {
            if (digits[k] == FIRST_OF_PAIR) {
                // Deeper down, another pair lies between (i, j) and this one.
                if (depth == 0) {
                    within++;
                    lastWithin = k;
                }
                depth++;
            }
            if (digits[k] == SECOND_OF_PAIR) {
                depth--;
            }
        }
        if (within == 0) {
            return strength;
        }
        if (within > 1) {
            return strength - numbers[BRANCH_COST];
        }
        boolean stacked = lastWithin == i + 1 && partners[lastWithin] == j - 1;
        return stacked ? strength + numbers[STACK_BONUS] : strength - numbers[BULGE_COST];
    }
}
