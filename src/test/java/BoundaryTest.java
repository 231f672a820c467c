import java.util.function.ToIntFunction;

/**
 * Each sentence of the document that names a boundary: the last values inside it, the first ones
 * outside it, and the least and the greatest int. A fault is told with the sentence that it breaks.
 * What is due is worked out by hand; the numbers of the constants are written out, too.
 */
public final class BoundaryTest {
    private static final int BAD_ARG = -1;
    private static final int FULL = -2;
    private static final int NONE = -3;
    private static final int MANY = -4;
    private static final int LEAST = Integer.MIN_VALUE;
    private static final int GREATEST = Integer.MAX_VALUE;
    /** The number of codes with l digits, each one of c. */
    private static final int[][] CODES = {{1, 2, 3}, {1, 4, 9}, {1, 8, 27}, {1, 16, 81}};

    private static int wrong = 0;
    private static String sentence = "";

    public static void main(String[] args) {
        terms();
        newObject();
        tell();
        forget();
        toldAndPossible();
        code();
        canBe();
        partsWorstWeight();
        safestAndSharpest();
        needAndFirst();
        useful();
        calls();
        System.out.println(wrong == 0 ? "all boundaries hold" : wrong + " answers are not as due");
        if (wrong != 0) {
            System.exit(1);
        }
    }

    private static void due(String call, int got, int want) {
        if (got != want) {
            wrong++;
            System.out.println(sentence + ": " + call + " answered " + got + ", due is " + want);
        }
    }

    private static void due(String call, boolean got, boolean want) {
        due(call, got ? 1 : 0, want ? 1 : 0);
    }

    /** Numbers below 0 or above most, some of which come inside if a few bits are lost. */
    private static int[] outside(int most) {
        return new int[] {-1, most + 1, LEAST, GREATEST, -2, most + 2, LEAST + 1, GREATEST - 1,
            -most - 1, 1 << 8, 1 << 16, 1 << 29, 1 << 30, most + (1 << 30), LEAST + most, -256, -65536};
    }

    /** The code with these digits. */
    private static int num(String digits) {
        return Integer.parseInt(digits, 3);
    }

    /** An object with these recorded guesses, each one as g, b and w. */
    private static CodeBreaker with(int length, int digits, int... records) {
        CodeBreaker x = new CodeBreaker(length, digits);
        for (int i = 0; i < records.length; i += 3) {
            x.tell(records[i], records[i + 1], records[i + 2]);
        }
        return x;
    }

    private static CodeBreaker none(int length, int digits) {
        return with(length, digits, 0, 4, 4);
    }

    /** An object with 8 recorded guesses, by which the last code alone is possible. */
    private static CodeBreaker full(int length, int digits) {
        CodeBreaker x = new CodeBreaker(length, digits);
        for (int i = 0; i < 8; i++) {
            x.tell(CODES[length - 1][digits - 1] - 1, length, 0);
        }
        return x;
    }

    private interface OfShape {
        void test(int length, int digits, int count);
    }

    private static void eachShape(String words, OfShape test) {
        String before = sentence;
        for (int l = 1; l <= 4; l++) {
            for (int c = 1; c <= 3; c++) {
                sentence = words + " [L " + l + ", C " + c + "]";
                test.test(l, c, CODES[l - 1][c - 1]);
            }
        }
        sentence = before;
    }

    // Terms

    private static void terms() {
        constants();
        eachShape("Codes are 0 to C to the power L less 1", BoundaryTest::codeRange);
        digitsOfCodes();
        eachShape("The ANSWER is 10 b + w", BoundaryTest::answerRange);
        lesserNumberOfTimes();
        eachShape("b and w from 0 to 4, also one that can't be", BoundaryTest::everyAnswer);
        eachShape("At most 8 are recorded", BoundaryTest::atMostEight);
        eachShape("POSSIBLE if for each recorded guess", BoundaryTest::forEachRecorded);
        eachShape("one that there is not answers BAD_ARG (or false) before anything else",
                BoundaryTest::noSuchCode);
    }

    private static void constants() {
        sentence = "The constants";
        due("BAD_ARG", CodeBreaker.BAD_ARG, BAD_ARG);
        due("FULL", CodeBreaker.FULL, FULL);
        due("NONE", CodeBreaker.NONE, NONE);
        due("MANY", CodeBreaker.MANY, MANY);
    }

    private static void codeRange(int length, int digits, int count) {
        CodeBreaker x = new CodeBreaker(length, digits);
        due("codes()", x.codes(), count);
        due("answer(0, 0)", x.answer(0, 0), 10 * length);
        due("answer(last, last)", x.answer(count - 1, count - 1), 10 * length);
        due("canBe(0)", x.canBe(0), true);
        due("canBe(last)", x.canBe(count - 1), true);
        due("tell(last, L, 0)", x.tell(count - 1, length, 0), 1);
        due("code(0)", x.code(0), count - 1);
        x.forget();
        due("tell(0, L, 0)", x.tell(0, length, 0), 1);
        due("code(0)", x.code(0), 0);
    }

    /** Which end is the first one no call can tell: all codes turned round give the same answers. */
    private static void digitsOfCodes() {
        sentence = "code x has, as a number in base C with L digits, these digits";
        CodeBreaker x = new CodeBreaker(4, 3);
        // Each digit of its own: 1 is 0001, 27 is 1000; they differ at the first and last place.
        due("answer(1, 27)", x.answer(1, 27), 22);
        due("answer(1, 2)", x.answer(1, 2), 30);
        due("answer(27, 54)", x.answer(27, 54), 30);
        due("answer(2, 27)", x.answer(2, 27), 21);
        // With 1120 the answer is 4 b for 1120 alone, that is 27 + 9 + 6.
        due("tell(42, 4, 0)", x.tell(42, 4, 0), 1);
        due("answer(42, 1111)", x.answer(42, num("1111")), 20);
        due("answer(42, 1000)", x.answer(42, 27), 20);
        due("answer(42, 0001)", x.answer(42, 1), 2);
    }

    private static void answerRange(int length, int digits, int count) {
        for (int g = 0; g < count; g++) {
            // A new one for each guess, so that none is used for more than 512 calls.
            CodeBreaker x = new CodeBreaker(length, digits);
            for (int s = 0; s < count; s++) {
                int a = x.answer(g, s);
                String call = "answer(" + g + ", " + s + ")";
                due(call + " is 10 L", a == 10 * length, g == s);
                due(call + " turned", x.answer(s, g), a);
                due(call + ", b + w in 0 to L", a >= 0 && a / 10 + a % 10 <= length, true);
                // With all places but one alike, the digit that is left fits nowhere else.
                due(call + " is L - 1 b and 1 w", a == 10 * (length - 1) + 1, false);
            }
        }
        CodeBreaker x = new CodeBreaker(length, digits);
        due("answer(0, last)", x.answer(0, count - 1), digits == 1 ? 10 * length : 0);
    }

    private static void lesserNumberOfTimes() {
        sentence = "the lesser one of the numbers of times";
        CodeBreaker x = new CodeBreaker(4, 3);
        due("answer(0000, 1000)", x.answer(0, num("1000")), 30);
        due("answer(1000, 0000)", x.answer(num("1000"), 0), 30);
        due("answer(0001, 1222)", x.answer(num("0001"), num("1222")), 1);
        due("answer(0011, 1222)", x.answer(num("0011"), num("1222")), 1);
        due("answer(0011, 1122)", x.answer(num("0011"), num("1122")), 2);
        due("answer(0111, 1222)", x.answer(num("0111"), num("1222")), 1);
        due("answer(0011, 1100)", x.answer(num("0011"), num("1100")), 4);
        due("answer(0012, 2100)", x.answer(num("0012"), num("2100")), 4);
    }

    /** All 25 answers are recorded, and only those that some code gives leave a code. */
    private static void everyAnswer(int length, int digits, int count) {
        int[] guesses = {0, count - 1};
        for (int g : guesses) {
            int left = 0;
            for (int b = 0; b <= 4; b++) {
                for (int w = 0; w <= 4; w++) {
                    CodeBreaker x = new CodeBreaker(length, digits);
                    String call = "tell(" + g + ", " + b + ", " + w + ")";
                    int got = x.tell(g, b, w);
                    left += got;
                    // These guesses have one digit alone, so that no digit is at another place.
                    due(call, got, w == 0 ? codesWithDigit(length, digits, b) : 0);
                    due("told() after " + call, x.told(), 1);
                    due("possible() after " + call, x.possible(), got);
                    due("forget() after " + call, x.forget(), count);
                }
            }
            due("all answers together", left, count);
        }
    }

    /** How many codes have a digit at just b places: the places, times the other digits elsewhere. */
    private static int codesWithDigit(int length, int digits, int b) {
        int[][] choose = {{1, 1, 0, 0, 0}, {1, 2, 1, 0, 0}, {1, 3, 3, 1, 0}, {1, 4, 6, 4, 1}};
        int ways = choose[length - 1][b];
        for (int p = b; p < length; p++) {
            ways *= digits - 1;
        }
        return ways;
    }

    private static void atMostEight(int length, int digits, int count) {
        CodeBreaker x = new CodeBreaker(length, digits);
        for (int i = 1; i <= 8; i++) {
            due("tell " + i, x.tell(count - 1, length, 0), 1);
            due("told()", x.told(), i);
        }
        for (int i = 0; i < 3; i++) {
            due("tell 9", x.tell(count - 1, length, 0), FULL);
            due("tell 9, can't be", x.tell(0, 4, 4), FULL);
            due("told()", x.told(), 8);
            due("possible()", x.possible(), 1);
        }
        due("forget()", x.forget(), 1);
        due("tell 8 again", x.tell(0, 4, 4), 0);
        due("tell 9 again", x.tell(0, 4, 4), FULL);
        for (int i = 7; i >= 0; i--) {
            due("forget() to " + i, x.forget(), i == 0 ? count : 1);
        }
        due("forget() of none", x.forget(), NONE);
    }

    /** Without one all are possible; each one counts, be it the first or the eighth. */
    private static void forEachRecorded(int length, int digits, int count) {
        due("possible() of a new one", new CodeBreaker(length, digits).possible(), count);
        for (int at = 0; at < 8; at++) {
            CodeBreaker x = new CodeBreaker(length, digits);
            for (int i = 0; i < 8; i++) {
                boolean odd = i == at;
                due("tell " + i + ", " + at + " can't be", x.tell(0, odd ? 4 : length, odd ? 4 : 0),
                        i < at ? 1 : 0);
            }
            due("possible(), " + at + " can't be", x.possible(), 0);
            due("canBe(0), " + at + " can't be", x.canBe(0), false);
            due("useful(), " + at + " can't be", x.useful(), 1);
        }
    }

    private static void noSuchCode(int length, int digits, int count) {
        CodeBreaker[] objects = {
            new CodeBreaker(length, digits), none(length, digits), full(length, digits)};
        int[] told = {0, 1, 8};
        for (int i = 0; i < objects.length; i++) {
            for (int bad : outside(count - 1)) {
                noSuchCode(objects[i], bad);
            }
            due("told()", objects[i].told(), told[i]);
        }
    }

    private static void noSuchCode(CodeBreaker x, int bad) {
        due("answer(" + bad + ", 0)", x.answer(bad, 0), BAD_ARG);
        due("answer(0, " + bad + ")", x.answer(0, bad), BAD_ARG);
        due("answer(" + bad + ", same)", x.answer(bad, bad), BAD_ARG);
        due("tell(" + bad + ", 0, 0)", x.tell(bad, 0, 0), BAD_ARG);
        due("tell(" + bad + ", 4, 4)", x.tell(bad, 4, 4), BAD_ARG);
        due("tell(" + bad + ", -1, 5)", x.tell(bad, -1, 5), BAD_ARG);
        due("canBe(" + bad + ")", x.canBe(bad), false);
        due("parts(" + bad + ")", x.parts(bad), BAD_ARG);
        due("worst(" + bad + ")", x.worst(bad), BAD_ARG);
        due("weight(" + bad + ")", x.weight(bad), BAD_ARG);
    }

    // Promises 1 and 2

    private static void newObject() {
        int[] under = {LEAST, LEAST + 1, -256, -4, -3, -2, -1, 0};
        int[] over = {5, 6, 256, 257, 1 << 16, 1 << 30, GREATEST - 1, GREATEST};
        sentence = "length: below 1 it becomes 1, above 4 it becomes 4";
        for (int c = 1; c <= 3; c++) {
            for (int l = 1; l <= 4; l++) {
                made(l, c, l, c);
            }
            for (int l : under) {
                made(l, c, 1, c);
            }
            for (int l : over) {
                made(l, c, 4, c);
            }
        }
        sentence = "digits: below 1 it becomes 1, above 3 it becomes 3";
        for (int l = 1; l <= 4; l++) {
            made(l, 4, l, 3);
            for (int c : under) {
                made(l, c, l, 1);
            }
            for (int c : over) {
                made(l, c, l, 3);
            }
        }
        sentence = "length and digits, both out of range";
        made(LEAST, LEAST, 1, 1);
        made(0, 0, 1, 1);
        made(0, 4, 1, 3);
        made(5, 0, 4, 1);
        made(5, 4, 4, 3);
        made(LEAST, GREATEST, 1, 3);
        made(GREATEST, LEAST, 4, 1);
        made(GREATEST, GREATEST, 4, 3);
    }

    private static void made(int length, int digits, int asLength, int asDigits) {
        CodeBreaker x = new CodeBreaker(length, digits);
        String made = "new(" + length + ", " + digits + ") ";
        int count = CODES[asLength - 1][asDigits - 1];
        due(made + "codes()", x.codes(), count);
        due(made + "answer(0, 0)", x.answer(0, 0), 10 * asLength);
        due(made + "canBe(last)", x.canBe(count - 1), true);
        due(made + "canBe(last + 1)", x.canBe(count), false);
        due(made + "told()", x.told(), 0);
        due(made + "possible()", x.possible(), count);
        due(made + "useful()", x.useful(), 0);
        due(made + "forget()", x.forget(), NONE);
        due(made + "codes() later", x.codes(), count);
    }

    // Promise 4

    private static void tell() {
        eachShape("b or w not 0 to 4 answers BAD_ARG", BoundaryTest::badPegs);
        eachShape("Tested in this order", BoundaryTest::orderOfTests);
        answersThatLookAlike();
        sentence = "Otherwise the number of possible codes";
        CodeBreaker x = new CodeBreaker(4, 3);
        due("tell(1, 1, 2)", x.tell(1, 1, 2), 9);
        x.forget();
        due("tell(0, 3, 0)", x.tell(0, 3, 0), 8);
        due("tell(80, 0, 0)", x.tell(80, 0, 0), 4);
        due("tell(1, 4, 0)", x.tell(1, 4, 0), 1);
        due("tell(0, 4, 0)", x.tell(0, 4, 0), 0);
        due("tell(0, 4, 0) again", x.tell(0, 4, 0), 0);
    }

    private static void badPegs(int length, int digits, int count) {
        CodeBreaker x = new CodeBreaker(length, digits);
        for (int bad : outside(4)) {
            due("tell(0, " + bad + ", 0)", x.tell(0, bad, 0), BAD_ARG);
            due("tell(0, " + bad + ", 4)", x.tell(0, bad, 4), BAD_ARG);
            due("tell(last, 0, " + bad + ")", x.tell(count - 1, 0, bad), BAD_ARG);
            due("tell(last, 4, " + bad + ")", x.tell(count - 1, 4, bad), BAD_ARG);
            due("tell(0, " + bad + ", same)", x.tell(0, bad, bad), BAD_ARG);
        }
        due("told()", x.told(), 0);
        due("possible()", x.possible(), count);
    }

    private static void orderOfTests(int length, int digits, int count) {
        CodeBreaker x = full(length, digits);
        for (int bad : outside(4)) {
            due("tell(0, " + bad + ", 0) when full", x.tell(0, bad, 0), BAD_ARG);
            due("tell(0, 0, " + bad + ") when full", x.tell(0, 0, bad), BAD_ARG);
        }
        for (int bad : outside(count - 1)) {
            due("tell(" + bad + ", 0, 0) when full", x.tell(bad, 0, 0), BAD_ARG);
        }
        int[] good = {0, 4};
        for (int n : good) {
            due("tell(0, " + n + ", 0) when full", x.tell(0, n, 0), FULL);
            due("tell(last, 0, " + n + ") when full", x.tell(count - 1, 0, n), FULL);
        }
        due("told()", x.told(), 8);
        due("possible()", x.possible(), 1);
    }

    /** Pairs of b and w out of range that make, as 10 b + w, an answer that is in it. */
    private static void answersThatLookAlike() {
        sentence = "b or w not 0 to 4 answers BAD_ARG, whatever 10 b + w is";
        CodeBreaker x = new CodeBreaker(4, 3);
        due("tell(0, 0, 10)", x.tell(0, 0, 10), BAD_ARG);
        due("tell(0, 0, 40)", x.tell(0, 0, 40), BAD_ARG);
        due("tell(0, 1, -10)", x.tell(0, 1, -10), BAD_ARG);
        due("tell(0, 5, -10)", x.tell(0, 5, -10), BAD_ARG);
        due("tell(0, -1, 10)", x.tell(0, -1, 10), BAD_ARG);
        // Ten times this is 4 if only 32 bits are kept.
        due("tell(4, 429496730, 0)", x.tell(4, 429496730, 0), BAD_ARG);
        due("told()", x.told(), 0);
        due("possible()", x.possible(), 81);
    }

    // Promise 5

    private static void forget() {
        eachShape("forget: NONE if there is none", BoundaryTest::forgetOfNone);
        sentence = "The last recorded guess is forgotten";
        CodeBreaker x = new CodeBreaker(1, 3);
        x.tell(0, 0, 0);
        x.tell(1, 0, 0);
        due("code(0) of {2}", x.code(0), 2);
        due("forget()", x.forget(), 2);
        due("code(0) of {1, 2}", x.code(0), 1);
        due("code(1) of {1, 2}", x.code(1), 2);
        due("tell(2, 0, 0)", x.tell(2, 0, 0), 1);
        due("code(0) of {1}", x.code(0), 1);
        due("forget()", x.forget(), 2);
        due("forget()", x.forget(), 3);
        due("forget() of none", x.forget(), NONE);
        due("told()", x.told(), 0);
        eighthIsForgotten();
        forgottenIsNothing();
    }

    private static void forgetOfNone(int length, int digits, int count) {
        CodeBreaker x = new CodeBreaker(length, digits);
        for (int i = 0; i < 10; i++) {
            due("forget() of none", x.forget(), NONE);
            due("told()", x.told(), 0);
            due("possible()", x.possible(), count);
        }
        // All eight can still be recorded, and taken back.
        for (int i = 1; i <= 8; i++) {
            due("tell " + i, x.tell(0, 4, 4), 0);
        }
        due("tell 9", x.tell(0, 4, 4), FULL);
        for (int i = 1; i <= 8; i++) {
            due("forget() " + i, x.forget(), i < 8 ? 0 : count);
        }
        due("forget() 9", x.forget(), NONE);
        due("possible()", x.possible(), count);
    }

    private static void eighthIsForgotten() {
        sentence = "The last recorded guess is forgotten, of 8";
        CodeBreaker x = new CodeBreaker(2, 2);
        for (int i = 0; i < 7; i++) {
            x.tell(0, 1, 0);
        }
        due("tell 8", x.tell(1, 2, 0), 1);
        due("code(0)", x.code(0), 1);
        due("forget()", x.forget(), 2);
        due("code(1)", x.code(1), 2);
        due("tell 8, another", x.tell(2, 2, 0), 1);
        due("code(0)", x.code(0), 2);
        due("tell 9", x.tell(1, 2, 0), FULL);
        due("code(0)", x.code(0), 2);
    }

    private static void forgottenIsNothing() {
        sentence = "The last recorded guess is forgotten: it is nothing to later answers";
        CodeBreaker x = with(3, 3, 0, 3, 0);
        needs(x, 1, 1, 0);
        due("forget()", x.forget(), 27);
        // 100, 101, 121, 200, 220 and 221.
        due("tell(012, 0, 2)", x.tell(num("012"), 0, 2), 6);
        due("tell(120, 1, 1)", x.tell(num("120"), 1, 1), 3);
        // 101, 200 and 221 answer 1 b to each other; only 000, which can't be any more, parts them.
        needs(x, 2, 3, 0);
    }

    // Promises 6 and 7

    private static void toldAndPossible() {
        sentence = "told: the number of recorded guesses";
        CodeBreaker x = new CodeBreaker(4, 3);
        for (int round = 0; round < 3; round++) {
            for (int i = 0; i < 8; i++) {
                due("told()", x.told(), i);
                x.tell(i, 4, 4);
            }
            due("told()", x.told(), 8);
            for (int i = 7; i >= 0; i--) {
                x.forget();
                due("told()", x.told(), i);
            }
        }
        sentence = "possible: the number of possible codes";
        due("of all", new CodeBreaker(4, 3).possible(), 81);
        due("of one code", new CodeBreaker(4, 1).possible(), 1);
        due("of all but one", with(1, 3, 2, 0, 0).possible(), 2);
        due("of one", full(4, 3).possible(), 1);
        due("of none", none(4, 3).possible(), 0);
        due("of none, of one code", with(4, 1, 0, 3, 0).possible(), 0);
    }

    // Promise 8

    private static void code() {
        eachShape("code: NONE if there is none", BoundaryTest::codeOfNone);
        sentence = "The i-th possible code (0 is the least)";
        // With three 0 of four digits: 0001, 0002, 0010, 0020, 0100, 0200, 1000 and 2000.
        CodeBreaker x = with(4, 3, 0, 3, 0);
        int[] want = {1, 2, 3, 6, 9, 18, 27, 54};
        for (int i = 0; i < 8; i++) {
            due("code(" + i + ")", x.code(i), want[i]);
        }
        for (int bad : outside(7)) {
            due("code(" + bad + ") of 8", x.code(bad), NONE);
        }
        x.forget();
        due("code(8) of 81", x.code(8), 8);
        due("code(80) of 81", x.code(80), 80);
    }

    private static void codeOfNone(int length, int digits, int count) {
        CodeBreaker x = new CodeBreaker(length, digits);
        due("code(0) of all", x.code(0), 0);
        due("code(last) of all", x.code(count - 1), count - 1);
        CodeBreaker one = with(length, digits, count - 1, length, 0);
        due("code(0) of one", one.code(0), count - 1);
        CodeBreaker none = none(length, digits);
        due("code(0) of none", none.code(0), NONE);
        due("code(last) of none", none.code(count - 1), NONE);
        for (int bad : outside(count - 1)) {
            due("code(" + bad + ") of all", x.code(bad), NONE);
            due("code(" + bad + ") of none", none.code(bad), NONE);
        }
        for (int bad : outside(0)) {
            due("code(" + bad + ") of one", one.code(bad), NONE);
        }
        none.forget();
        due("code(last) of all again", none.code(count - 1), count - 1);
    }

    // Promise 9

    private static void canBe() {
        eachShape("canBe: whether code x is possible", (length, digits, count) -> {
            CodeBreaker all = new CodeBreaker(length, digits);
            CodeBreaker last = full(length, digits);
            CodeBreaker least = with(length, digits, 0, length, 0);
            CodeBreaker none = none(length, digits);
            for (int x = 0; x < count; x++) {
                due("canBe(" + x + ") of all", all.canBe(x), true);
                due("canBe(" + x + ") of the last", last.canBe(x), x == count - 1);
                due("canBe(" + x + ") of the least", least.canBe(x), x == 0);
                due("canBe(" + x + ") of none", none.canBe(x), false);
            }
            for (int bad : outside(count - 1)) {
                due("canBe(" + bad + ") of the last", last.canBe(bad), false);
                due("canBe(" + bad + ") of the least", least.canBe(bad), false);
            }
        });
    }

    // Promises 10, 11 and 12

    private static void partsWorstWeight() {
        eachShape("worst: 0 if none is possible", (length, digits, count) -> {
            CodeBreaker x = none(length, digits);
            for (int g = 0; g < count; g++) {
                measures(x, g, 0, 0, 0);
            }
        });
        eachShape("one code alone is one part", (length, digits, count) -> {
            CodeBreaker x = full(length, digits);
            for (int g = 0; g < count; g++) {
                measures(x, g, 1, 1, 1);
            }
        });
        sentence = "one part with all codes";
        // Two 1 and two 2: 0000 is answered with 0 for all six.
        measures(with(4, 3, 0, 0, 0, 40, 2, 0), 0, 1, 6, 36);
        sentence = "each code in a part of its own";
        // 12 and 20 have no 0 and one 0.
        measures(with(2, 3, 1, 0, 1), 0, 2, 1, 2);
        sentence = "all codes, in parts of 1 and of more";
        measures(new CodeBreaker(1, 2), 1, 2, 1, 2);
        measures(new CodeBreaker(1, 3), 2, 2, 2, 5);
        // By the number of 2: 16, 32, 24, 8 and 1.
        measures(new CodeBreaker(4, 3), 80, 5, 32, 1921);
        sentence = "the same part if the answers are the same, b and w";
        // 0001 for 0001, 0010 and 0100: 4 b, then 2 b and 2 w twice; for 1000 the same.
        measures(with(4, 2, 15, 1, 0), 1, 2, 3, 10);
    }

    private static void measures(CodeBreaker x, int g, int parts, int worst, int weight) {
        due("parts(" + g + ")", x.parts(g), parts);
        due("worst(" + g + ")", x.worst(g), worst);
        due("weight(" + g + ")", x.weight(g), weight);
    }

    // Promises 13 and 14

    private static void safestAndSharpest() {
        eachShape("safest, sharpest: NONE if no code is possible", (length, digits, count) -> {
            best(none(length, digits), NONE, NONE);
            CodeBreaker x = none(length, digits);
            x.forget();
            x.tell(count - 1, length, 0);
            best(x, count - 1, count - 1);
        });
        sentence = "of several one that is possible";
        // Any guess leaves one code alone in its part, so that all are alike: the last code is it.
        best(full(4, 3), 80, 80);
        // 00 parts 12 from 20 as well as 12 does.
        best(with(2, 3, 1, 0, 1), 5, 5);
        sentence = "of these the least";
        best(new CodeBreaker(1, 1), 0, 0);
        best(new CodeBreaker(1, 2), 0, 0);
        best(new CodeBreaker(1, 3), 0, 0);
        best(with(1, 3, 0, 0, 0), 1, 1);
        sentence = "if there is one";
        // Of 0001, 0010, 0100 and 1000 each parts off itself; 0011, which can't be, makes two pairs.
        best(with(4, 2, 15, 1, 0), 3, 3);
        // 0012 parts the six codes with two 1 and two 2 in pairs; 0112 has two pairs and two alone.
        best(with(4, 3, 0, 0, 0, 40, 2, 0), num("0012"), num("0112"));
    }

    private static void best(CodeBreaker x, int safest, int sharpest) {
        due("safest()", x.safest(), safest);
        due("sharpest()", x.sharpest(), sharpest);
    }

    // Promises 15, 16 and 17

    private static void needAndFirst() {
        eachShape("need: 0 if no code is possible; first: NONE", (length, digits, count) ->
                needs(none(length, digits), 0, 0, NONE));
        eachShape("one code needs one guess", (length, digits, count) -> {
            needs(full(length, digits), 1, 1, count - 1);
            needs(with(length, digits, 0, length, 0), 1, 1, 0);
        });
        eachShape("MANY: more than 8 codes are possible", (length, digits, count) -> {
            CodeBreaker x = new CodeBreaker(length, digits);
            due("need() is MANY", x.need() == MANY, count > 8);
            due("needKept() is MANY", x.needKept() == MANY, count > 8);
            due("first() is MANY", x.first() == MANY, count > 8);
        });
        sentence = "2 codes";
        needs(new CodeBreaker(1, 2), 2, 2, 0);
        // 0 parts 1 from 2 no better than not at all.
        needs(with(1, 3, 0, 0, 0), 2, 2, 1);
        eightAndNine();
        keptOrNot();
    }

    private static void needs(CodeBreaker x, int need, int needKept, int first) {
        due("need()", x.need(), need);
        due("needKept()", x.needKept(), needKept);
        due("first()", x.first(), first);
        due("need() again", x.need(), need);
    }

    private static void eightAndNine() {
        sentence = "MANY: more than 8 codes are possible; 8 are not";
        // 000 leaves 011, 101 and 110 together, which need three more; 001 leaves 000, 011 and 101,
        // which 011 parts, and 010 and 100.
        needs(new CodeBreaker(3, 2), 3, 3, 1);
        // With three 0 of four, 0001 leaves parts of 1, 1, 3 and 3, and 0120 parts 0010, 0100 and
        // 1000; a guess that is kept parts off one of three alone.
        needs(with(4, 3, 0, 3, 0), 3, 4, 1);
        due("8 are", with(4, 3, 0, 3, 0).possible(), 8);
        needs(new CodeBreaker(2, 3), MANY, MANY, MANY);
        needs(with(4, 3, 1, 1, 2), MANY, MANY, MANY);
        due("9 are", with(4, 3, 1, 1, 2).possible(), 9);
        sentence = "MANY, as long as there are more than 8";
        CodeBreaker x = new CodeBreaker(4, 3);
        needs(x, MANY, MANY, MANY);
        x.tell(0, 3, 0);
        needs(x, 3, 4, 1);
        x.forget();
        needs(x, MANY, MANY, MANY);
        x.tell(0, 4, 4);
        needs(x, 0, 0, NONE);
    }

    /**
     * "Would still be" has no case of its own: for no set of codes that can come does a guess that
     * was possible, and is no longer, make needKept less.
     */
    private static void keptOrNot() {
        sentence = "needKept: each guess is a code that is possible";
        // One 1 of four digits: each of the four parts off itself alone; 0011 makes two pairs.
        needs(with(4, 2, 15, 1, 0), 3, 4, 3);
        // Two 1 of four digits 0 and 1: 0000 parts nothing; 0001 makes two parts of three.
        needs(with(4, 2, 15, 2, 0), 4, 4, 1);
        // The same with 1 and 2, where a 0 helps.
        needs(with(4, 3, 0, 0, 0, 40, 2, 0), 3, 4, 1);
        // Each of three codes with one place parts off itself alone.
        needs(new CodeBreaker(1, 3), 3, 3, 0);
    }

    // Promise 18

    private static void useful() {
        sentence = "without which other codes would be possible, too";
        due("of none", new CodeBreaker(4, 3).useful(), 0);
        due("of one that rules nothing out", with(4, 1, 0, 4, 0).useful(), 0);
        due("of one that rules all out", none(4, 1).useful(), 1);
        // Each one rules out a code of its own; no code is left.
        due("of three", with(1, 3, 0, 0, 0, 1, 0, 0, 2, 0, 0).useful(), 3);
        due("of five", with(4, 3, 71, 2, 0, 21, 1, 2, 40, 2, 0, 55, 1, 2, 53, 2, 0).useful(), 5);
        due("of 8 alike", full(4, 3).useful(), 0);
        sentence = "each left out by itself";
        due("of two alike", with(1, 3, 0, 0, 0, 0, 0, 0).useful(), 0);
        due("of two alike and one", with(1, 3, 0, 0, 0, 1, 0, 0, 0, 0, 0).useful(), 1);
        due("of two that can't be", with(1, 3, 0, 4, 4, 1, 4, 4).useful(), 0);
        oneOfEight();
    }

    /** Seven are alike, and the one at each place in turn rules 00 out of 00 and 11. */
    private static void oneOfEight() {
        for (int at = 0; at < 8; at++) {
            CodeBreaker x = new CodeBreaker(2, 2);
            for (int i = 0; i < 8; i++) {
                x.tell(i == at ? 0 : 1, i == at ? 0 : 1, 0);
            }
            due("of the one at " + at, x.useful(), 1);
            due("tell 9", x.tell(0, 4, 4), FULL);
            due("of the one at " + at + " after FULL", x.useful(), 1);
            x.forget();
            due("of 7, the one was at " + at, x.useful(), at == 7 ? 0 : 1);
        }
    }

    // An object is used for at most 512 calls

    private static void calls() {
        sentence = "at most 512 calls";
        lastCall("codes()", CodeBreaker::codes, 9);
        lastCall("answer(0, 1)", x -> x.answer(0, 1), 10);
        lastCall("answer(9, 1)", x -> x.answer(9, 1), BAD_ARG);
        lastCall("tell(5, 0, 1)", x -> x.tell(5, 0, 1), 1);
        lastCall("tell(5, 0, 5)", x -> x.tell(5, 0, 5), BAD_ARG);
        lastCall("forget()", CodeBreaker::forget, 9);
        lastCall("told()", CodeBreaker::told, 1);
        lastCall("possible()", CodeBreaker::possible, 2);
        lastCall("code(1)", x -> x.code(1), 6);
        lastCall("code(2)", x -> x.code(2), NONE);
        lastCall("canBe(5)", x -> x.canBe(5) ? 1 : 0, 1);
        lastCall("canBe(9)", x -> x.canBe(9) ? 1 : 0, 0);
        lastCall("parts(0)", x -> x.parts(0), 2);
        lastCall("worst(0)", x -> x.worst(0), 1);
        lastCall("weight(0)", x -> x.weight(0), 2);
        lastCall("safest()", CodeBreaker::safest, 5);
        lastCall("sharpest()", CodeBreaker::sharpest, 5);
        lastCall("need()", CodeBreaker::need, 2);
        lastCall("needKept()", CodeBreaker::needKept, 2);
        lastCall("first()", CodeBreaker::first, 0);
        lastCall("useful()", CodeBreaker::useful, 1);
        sentence = "at most 512 calls, all of one kind";
        onlyCall("codes()", CodeBreaker::codes, 8);
        onlyCall("answer(0, 1)", x -> x.answer(0, 1), 20);
        onlyCall("tell(8, 0, 0)", x -> x.tell(8, 0, 0), BAD_ARG);
        onlyCall("forget()", CodeBreaker::forget, NONE);
        onlyCall("told()", CodeBreaker::told, 0);
        onlyCall("possible()", CodeBreaker::possible, 8);
        onlyCall("code(7)", x -> x.code(7), 7);
        onlyCall("canBe(7)", x -> x.canBe(7) ? 1 : 0, 1);
        // By the number of 0: 1, 3, 3 and 1 codes.
        onlyCall("parts(0)", x -> x.parts(0), 4);
        onlyCall("worst(0)", x -> x.worst(0), 3);
        onlyCall("weight(0)", x -> x.weight(0), 20);
        onlyCall("safest()", CodeBreaker::safest, 0);
        // 001 makes parts of 1, 1, 1, 2 and 3 codes.
        onlyCall("sharpest()", CodeBreaker::sharpest, 1);
        onlyCall("need()", CodeBreaker::need, 3);
        onlyCall("needKept()", CodeBreaker::needKept, 3);
        onlyCall("first()", CodeBreaker::first, 1);
        onlyCall("useful()", CodeBreaker::useful, 0);
    }

    /** The call, which changes nothing, is made 512 times on a new object with 8 codes. */
    private static void onlyCall(String name, ToIntFunction<CodeBreaker> call, int want) {
        CodeBreaker x = new CodeBreaker(3, 2);
        for (int i = 1; i <= 512; i++) {
            due(name + " as call " + i, call.applyAsInt(x), want);
        }
    }

    /** 12 and 20 are possible, as after the first call; the call in question is the 512th. */
    private static void lastCall(String name, ToIntFunction<CodeBreaker> call, int want) {
        CodeBreaker x = with(2, 3, 1, 0, 1);
        for (int i = 0; i < 255; i++) {
            due("tell(5, 0, 1)", x.tell(5, 0, 1), 1);
            due("forget()", x.forget(), 2);
        }
        due(name + " as call 512", call.applyAsInt(x), want);
        // The same call alone, which must not wear out; tell and forget do change what is due.
        CodeBreaker y = with(2, 3, 1, 0, 1);
        boolean changes = want != BAD_ARG && (name.startsWith("tell") || name.startsWith("forget"));
        for (int i = 2; i <= 512 && !changes; i++) {
            due(name + " as call " + i, call.applyAsInt(y), want);
        }
    }
}
