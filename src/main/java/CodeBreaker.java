/**
 * Secret codes that are guessed with answers: which codes can still be, which guesses part them
 * best, and how many guesses are surely enough.
 */
public final class CodeBreaker {
    public static final int BAD_ARG = -1;
    public static final int FULL = -2;
    public static final int NONE = -3;
    public static final int MANY = -4;

    private static final int MAX_LENGTH = 4;
    private static final int MAX_DIGITS = 3;
    private static final int MAX_CODES = 81;
    private static final int MAX_TOLD = 8;
    private static final int MAX_PEGS = 4;
    /** With more possible codes than this, need, needKept and first answer MANY. */
    private static final int MAX_FEW = 8;
    /** Above every 10 b + w with b and w from 0 to 4. */
    private static final int ANSWER_BOUND = 45;
    /** MAX_CODES times MAX_LENGTH. */
    private static final int ALL_PLACES = 324;
    /** MAX_CODES times MAX_DIGITS. */
    private static final int ALL_TIMES = 243;
    /** MAX_CODES times MAX_FEW. */
    private static final int ALL_REMAINS = 648;
    /** The number of sets of at most MAX_FEW codes. */
    private static final int ALL_SETS = 256;
    /** Above every need: k possible codes, guessed one after the other, need at most k guesses. */
    private static final int NEED_BOUND = 9;

    private final int length;
    private final int digits;
    private final int codeCount;

    /** The digit of code x at place p is at x * MAX_LENGTH + p. */
    private final int[] digitAt = new int[ALL_PLACES];
    /** How often digit d comes in code x is at x * MAX_DIGITS + d. */
    private final int[] timesOf = new int[ALL_TIMES];

    private final int[] toldGuess = new int[MAX_TOLD];
    private final int[] toldAnswer = new int[MAX_TOLD];
    private int toldCount;

    /** The possible codes, the least one first. */
    private final int[] possibleCode = new int[MAX_CODES];
    private final boolean[] isPossible = new boolean[MAX_CODES];
    private int possibleCount;

    /** The number of possible codes for each answer to the guess that was looked at last. */
    private final int[] partSize = new int[ANSWER_BOUND];

    /*
     * The search for the least need works on sets of possible codes: bit k of a set stands for
     * possibleCode[k].
     */
    /** The set that stays possible after guess g with secret k; at g * MAX_FEW + k. */
    private final int[] remains = new int[ALL_REMAINS];
    /** The set that holds the code alone; empty if the code is not possible. */
    private final int[] setOfCode = new int[MAX_CODES];
    private final int[] needOfSet = new int[ALL_SETS];

    public CodeBreaker(int length, int digits) {
        this.length = clamp(length, MAX_LENGTH);
        this.digits = clamp(digits, MAX_DIGITS);
        this.codeCount = power(this.digits, this.length);
        writeDigits();
        findPossible();
    }

    public int codes() {
        return codeCount;
    }

    public int answer(int g, int s) {
        if (!isCode(g) || !isCode(s)) {
            return BAD_ARG;
        }
        return answerTo(g, s);
    }

    public int tell(int g, int b, int w) {
        if (!isCode(g) || !isPegCount(b) || !isPegCount(w)) {
            return BAD_ARG;
        }
        if (toldCount >= MAX_TOLD) {
            return FULL;
        }
        toldGuess[toldCount] = g;
        toldAnswer[toldCount] = 10 * b + w;
        toldCount++;
        findPossible();
        return possibleCount;
    }

    public int forget() {
        if (toldCount == 0) {
            return NONE;
        }
        toldCount--;
        findPossible();
        return possibleCount;
    }

    public int told() {
        return toldCount;
    }

    public int possible() {
        return possibleCount;
    }

    public int code(int i) {
        if (i < 0 || i >= possibleCount) {
            return NONE;
        }
        return possibleCode[i];
    }

    public boolean canBe(int x) {
        return isCode(x) && isPossible[x];
    }

    public int parts(int g) {
        if (!isCode(g)) {
            return BAD_ARG;
        }
        measureParts(g);
        int count = 0;
        for (int a = 0; a < ANSWER_BOUND; a++) {
            if (partSize[a] > 0) {
                count++;
            }
        }
        return count;
    }

    public int worst(int g) {
        if (!isCode(g)) {
            return BAD_ARG;
        }
        return greatestPart(g);
    }

    public int weight(int g) {
        if (!isCode(g)) {
            return BAD_ARG;
        }
        return sumOfSquares(g);
    }

    public int safest() {
        return bestGuess(false);
    }

    public int sharpest() {
        return bestGuess(true);
    }

    public int need() {
        return leastNeed(false);
    }

    public int needKept() {
        return leastNeed(true);
    }

    public int first() {
        if (possibleCount == 0) {
            return NONE;
        }
        int least = leastNeed(false);
        if (least == MANY) {
            return MANY;
        }
        int all = (1 << possibleCount) - 1;
        for (int g = 0; g < codeCount; g++) {
            if (needWithGuess(g, all) == least) {
                return g;
            }
        }
        return NONE;
    }

    public int useful() {
        int count = 0;
        for (int r = 0; r < toldCount; r++) {
            if (rulesOutAlone(r)) {
                count++;
            }
        }
        return count;
    }

    private static int clamp(int value, int most) {
        if (value < 1) {
            return 1;
        }
        return value > most ? most : value;
    }

    private static int power(int base, int exponent) {
        int result = 1;
        for (int i = 0; i < exponent; i++) {
            result *= base;
        }
        return result;
    }

    private boolean isCode(int x) {
        return x >= 0 && x < codeCount;
    }

    private static boolean isPegCount(int n) {
        return n >= 0 && n <= MAX_PEGS;
    }

    private void writeDigits() {
        for (int x = 0; x < codeCount; x++) {
            int rest = x;
            for (int p = length - 1; p >= 0; p--) {
                int digit = rest % digits;
                rest /= digits;
                digitAt[x * MAX_LENGTH + p] = digit;
                timesOf[x * MAX_DIGITS + digit]++;
            }
        }
    }

    private int answerTo(int guess, int secret) {
        int samePlaces = 0;
        for (int p = 0; p < length; p++) {
            if (digitAt[guess * MAX_LENGTH + p] == digitAt[secret * MAX_LENGTH + p]) {
                samePlaces++;
            }
        }
        int shared = 0;
        for (int d = 0; d < digits; d++) {
            int inGuess = timesOf[guess * MAX_DIGITS + d];
            int inSecret = timesOf[secret * MAX_DIGITS + d];
            shared += inGuess < inSecret ? inGuess : inSecret;
        }
        return 10 * samePlaces + (shared - samePlaces);
    }

    private void findPossible() {
        possibleCount = 0;
        for (int x = 0; x < codeCount; x++) {
            // No recorded guess has the number MAX_TOLD, so none is left out.
            isPossible[x] = fitsAllBut(x, MAX_TOLD);
            if (isPossible[x]) {
                possibleCode[possibleCount] = x;
                possibleCount++;
            }
        }
    }

    private boolean fits(int x, int row) {
        return answerTo(toldGuess[row], x) == toldAnswer[row];
    }

    private boolean fitsAllBut(int x, int leftOut) {
        for (int r = 0; r < toldCount; r++) {
            if (r != leftOut && !fits(x, r)) {
                return false;
            }
        }
        return true;
    }

    private boolean rulesOutAlone(int row) {
        for (int x = 0; x < codeCount; x++) {
            if (!isPossible[x] && fitsAllBut(x, row)) {
                return true;
            }
        }
        return false;
    }

    private void measureParts(int guess) {
        for (int a = 0; a < ANSWER_BOUND; a++) {
            partSize[a] = 0;
        }
        for (int i = 0; i < possibleCount; i++) {
            int a = answerTo(guess, possibleCode[i]);
            partSize[a]++;
        }
    }

    private int greatestPart(int guess) {
        measureParts(guess);
        int greatest = 0;
        for (int a = 0; a < ANSWER_BOUND; a++) {
            if (partSize[a] > greatest) {
                greatest = partSize[a];
            }
        }
        return greatest;
    }

    private int sumOfSquares(int guess) {
        measureParts(guess);
        int sum = 0;
        for (int a = 0; a < ANSWER_BOUND; a++) {
            sum += partSize[a] * partSize[a];
        }
        return sum;
    }

    private int bestGuess(boolean byWeight) {
        if (possibleCount == 0) {
            return NONE;
        }
        int best = NONE;
        int bestScore = 0;
        for (int g = 0; g < codeCount; g++) {
            int score = byWeight ? sumOfSquares(g) : greatestPart(g);
            boolean firstOne = best == NONE;
            if (firstOne || score < bestScore
                    || score == bestScore && isPossible[g] && !isPossible[best]) {
                best = g;
                bestScore = score;
            }
        }
        return best;
    }

    private int leastNeed(boolean kept) {
        if (possibleCount > MAX_FEW) {
            return MANY;
        }
        findSetsOfCodes();
        findRemains();
        findNeeds(kept);
        return needOfSet[(1 << possibleCount) - 1];
    }

    private void findSetsOfCodes() {
        for (int x = 0; x < codeCount; x++) {
            setOfCode[x] = 0;
        }
        for (int k = 0; k < possibleCount; k++) {
            setOfCode[possibleCode[k]] = 1 << k;
        }
    }

    private void findRemains() {
        for (int g = 0; g < codeCount; g++) {
            for (int k = 0; k < possibleCount; k++) {
                remains[g * MAX_FEW + k] = remainsAfter(g, possibleCode[k]);
            }
        }
    }

    private int remainsAfter(int guess, int secret) {
        // The secret itself was guessed: nothing is left to do, as with an empty set.
        if (guess == secret) {
            return 0;
        }
        int given = answerTo(guess, secret);
        int set = 0;
        for (int k = 0; k < possibleCount; k++) {
            if (answerTo(guess, possibleCode[k]) == given) {
                set |= 1 << k;
            }
        }
        return set;
    }

    private void findNeeds(boolean kept) {
        int setCount = 1 << possibleCount;
        needOfSet[0] = 0;
        // A set's subsets are lesser numbers, so their needs are known before its own.
        for (int set = 1; set < setCount; set++) {
            // A guess that leaves the whole set then counts as above the bound, and is not taken.
            needOfSet[set] = NEED_BOUND;
            int least = NEED_BOUND;
            for (int g = 0; g < codeCount; g++) {
                if (kept && (setOfCode[g] & set) == 0) {
                    continue;
                }
                int needed = needWithGuess(g, set);
                if (needed < least) {
                    least = needed;
                }
            }
            needOfSet[set] = least;
        }
    }

    private int needWithGuess(int guess, int set) {
        int most = 0;
        for (int k = 0; k < possibleCount; k++) {
            if ((set >> k & 1) == 1) {
                int further = needOfSet[remains[guess * MAX_FEW + k] & set];
                if (further > most) {
                    most = further;
                }
            }
        }
        return most + 1;
    }
}
