import java.util.function.IntSupplier;

/** For each promise of the document: ordinary inputs, the edges that it names, and wrong inputs. */
public final class PromiseTest {
    private static final int[] OUTSIDE = {-1, Integer.MIN_VALUE, Integer.MAX_VALUE};

    private static int wrong = 0;
    private static String promise = "";

    public static void main(String[] args) {
        constants();
        newObject();
        codes();
        answer();
        tell();
        tellOrder();
        forget();
        told();
        possible();
        code();
        canBe();
        parts();
        worst();
        weight();
        safest();
        sharpest();
        need();
        needKept();
        first();
        useful();
        refusedChangesNothing();
        objectsAreApart();
        manyCalls();
        System.out.println(wrong == 0 ? "all promises hold" : wrong + " answers are not as due");
        if (wrong != 0) {
            System.exit(1);
        }
    }

    private static void due(String call, int got, int want) {
        if (got != want) {
            wrong++;
            System.out.println(promise + ": " + call + " answered " + got + ", due is " + want);
        }
    }

    private static void due(String call, boolean got, boolean want) {
        due(call, got ? 1 : 0, want ? 1 : 0);
    }

    /** The code with these digits, as a number in the given base. */
    private static int num(String digits, int base) {
        return Integer.parseInt(digits, base);
    }

    private static void constants() {
        promise = "constants";
        due("BAD_ARG", CodeBreaker.BAD_ARG, -1);
        due("FULL", CodeBreaker.FULL, -2);
        due("NONE", CodeBreaker.NONE, -3);
        due("MANY", CodeBreaker.MANY, -4);
    }

    private static void newObject() {
        promise = "promise 1";
        int[] lengths = {Integer.MIN_VALUE, -1, 0, 1, 2, 3, 4, 5, Integer.MAX_VALUE};
        int[] asLength = {1, 1, 1, 1, 2, 3, 4, 4, 4};
        int[] digits = {Integer.MIN_VALUE, -1, 0, 1, 2, 3, 4, Integer.MAX_VALUE};
        int[] asDigits = {1, 1, 1, 1, 2, 3, 3, 3};
        for (int i = 0; i < lengths.length; i++) {
            for (int j = 0; j < digits.length; j++) {
                CodeBreaker x = new CodeBreaker(lengths[i], digits[j]);
                String made = "(" + lengths[i] + ", " + digits[j] + ") ";
                int count = (int) Math.pow(asDigits[j], asLength[i]);
                due(made + "codes()", x.codes(), count);
                due(made + "answer(0, 0)", x.answer(0, 0), 10 * asLength[i]);
                due(made + "told()", x.told(), 0);
                due(made + "possible()", x.possible(), count);
                due(made + "useful()", x.useful(), 0);
                due(made + "forget()", x.forget(), CodeBreaker.NONE);
            }
        }
    }

    private static void codes() {
        promise = "promise 2";
        int[][] want = {{1, 2, 3}, {1, 4, 9}, {1, 8, 27}, {1, 16, 81}};
        for (int l = 1; l <= 4; l++) {
            for (int c = 1; c <= 3; c++) {
                CodeBreaker x = new CodeBreaker(l, c);
                due("codes()", x.codes(), want[l - 1][c - 1]);
                x.tell(0, 0, 0);
                due("codes() after tell", x.codes(), want[l - 1][c - 1]);
            }
        }
    }

    private static void answer() {
        promise = "promise 3";
        CodeBreaker x = new CodeBreaker(4, 3);
        String[][] rows = {
            {"0000", "0000", "40"}, {"0000", "2222", "0"}, {"0012", "0021", "22"},
            {"0011", "1100", "4"}, {"0012", "2200", "3"}, {"0001", "0010", "22"},
            {"0120", "1201", "3"}, {"2222", "0212", "20"}, {"0111", "1000", "2"},
            {"1000", "0111", "2"}, {"0122", "0122", "40"}, {"0122", "0112", "30"},
            {"0000", "0111", "10"}, {"1122", "2211", "4"}, {"1121", "2122", "20"},
        };
        for (String[] r : rows) {
            int g = num(r[0], 3);
            int s = num(r[1], 3);
            due("answer(" + r[0] + ", " + r[1] + ")", x.answer(g, s), Integer.parseInt(r[2]));
        }
        // The first digit is the highest one: 5 is 012, 15 is 120.
        CodeBreaker y = new CodeBreaker(3, 3);
        due("answer(5, 15)", y.answer(5, 15), 3);
        due("answer(1, 2)", y.answer(1, 2), 20);
        due("answer(9, 1)", y.answer(9, 1), 12);
        for (int bad : OUTSIDE) {
            due("answer(bad, 0)", x.answer(bad, 0), CodeBreaker.BAD_ARG);
            due("answer(0, bad)", x.answer(0, bad), CodeBreaker.BAD_ARG);
            due("answer(bad, bad)", x.answer(bad, bad), CodeBreaker.BAD_ARG);
        }
        due("answer(81, 0)", x.answer(81, 0), CodeBreaker.BAD_ARG);
        due("answer(0, 81)", x.answer(0, 81), CodeBreaker.BAD_ARG);
        due("answer(80, 80)", x.answer(80, 80), 40);
        due("answer(27, 0) of 27", y.answer(27, 0), CodeBreaker.BAD_ARG);
        due("answer(0, 27) of 27", y.answer(0, 27), CodeBreaker.BAD_ARG);
        // What is recorded is nothing to the answer.
        x.tell(0, 0, 0);
        due("answer(0, 0) after tell", x.answer(0, 0), 40);
    }

    private static void tell() {
        promise = "promise 4";
        CodeBreaker x = new CodeBreaker(2, 3);
        // Only 12 and 20 have a digit of 01, and that at the other place.
        due("tell(01, 0, 1)", x.tell(1, 0, 1), 2);
        due("told()", x.told(), 1);
        due("tell(12, 0, 1)", x.tell(5, 0, 1), 1);
        due("told()", x.told(), 2);
        due("tell again", x.tell(5, 0, 1), 1);
        due("told()", x.told(), 3);
        // Answers that can't be are recorded all the same.
        due("tell(00, 4, 4)", x.tell(0, 4, 4), 0);
        due("told()", x.told(), 4);
        CodeBreaker y = new CodeBreaker(2, 3);
        due("tell(8, 2, 0)", y.tell(8, 2, 0), 1);
        due("code(0)", y.code(0), 8);
        // 1 b and 0 w is not the same as 0 b and 1 w.
        CodeBreaker z = new CodeBreaker(2, 2);
        due("tell(00, 1, 0)", z.tell(0, 1, 0), 2);
        z.forget();
        due("tell(00, 0, 1)", z.tell(0, 0, 1), 0);
    }

    private static void tellOrder() {
        promise = "promise 4, order";
        CodeBreaker x = new CodeBreaker(2, 2);
        int[] badPegs = {-1, 5, 10, Integer.MIN_VALUE, Integer.MAX_VALUE};
        for (int i = 0; i < 8; i++) {
            refuseTells(x, badPegs);
            due("told()", x.told(), i);
            due("tell " + i, x.tell(1, 1, 0), 2);
        }
        refuseTells(x, badPegs);
        due("ninth tell", x.tell(1, 1, 0), CodeBreaker.FULL);
        due("ninth tell, another answer", x.tell(0, 4, 4), CodeBreaker.FULL);
        due("told()", x.told(), 8);
        due("possible()", x.possible(), 2);
        due("forget()", x.forget(), 2);
        // Of 00 and 11 only 11 has no 0.
        due("tell after forget", x.tell(0, 0, 0), 1);
        due("told()", x.told(), 8);
    }

    private static void refuseTells(CodeBreaker x, int[] badPegs) {
        for (int bad : badPegs) {
            due("tell(0, " + bad + ", 0)", x.tell(0, bad, 0), CodeBreaker.BAD_ARG);
            due("tell(0, 0, " + bad + ")", x.tell(0, 0, bad), CodeBreaker.BAD_ARG);
        }
        for (int bad : OUTSIDE) {
            due("tell(" + bad + ", 0, 0)", x.tell(bad, 0, 0), CodeBreaker.BAD_ARG);
        }
        due("tell(codes, 0, 0)", x.tell(x.codes(), 0, 0), CodeBreaker.BAD_ARG);
    }

    private static void forget() {
        promise = "promise 5";
        CodeBreaker x = new CodeBreaker(3, 2);
        due("forget() of none", x.forget(), CodeBreaker.NONE);
        x.tell(1, 1, 2);
        x.tell(2, 1, 2);
        due("told()", x.told(), 2);
        due("forget()", x.forget(), 2);
        due("told()", x.told(), 1);
        due("code(0)", x.code(0), 2);
        due("code(1)", x.code(1), 4);
        // The last one is forgotten, not the first one.
        x.tell(0, 0, 0);
        due("possible()", x.possible(), 0);
        due("forget()", x.forget(), 2);
        due("forget()", x.forget(), 8);
        due("forget() of none", x.forget(), CodeBreaker.NONE);
        due("told()", x.told(), 0);
        due("possible()", x.possible(), 8);
    }

    private static void told() {
        promise = "promise 6";
        CodeBreaker x = new CodeBreaker(4, 3);
        for (int i = 0; i < 8; i++) {
            due("told()", x.told(), i);
            x.tell(i, 1, 1);
        }
        due("told() of 8", x.told(), 8);
        x.tell(0, 0, 0);
        due("told() after FULL", x.told(), 8);
        for (int i = 7; i >= 0; i--) {
            x.forget();
            due("told()", x.told(), i);
        }
        x.forget();
        due("told() after NONE", x.told(), 0);
    }

    private static void possible() {
        promise = "promise 7";
        CodeBreaker x = new CodeBreaker(4, 3);
        due("possible()", x.possible(), 81);
        x.tell(0, 0, 0);
        due("possible() without 0", x.possible(), 16);
        x.tell(num("1111", 3), 2, 0);
        due("possible() with two 1", x.possible(), 6);
        x.tell(num("1122", 3), 4, 0);
        due("possible() found", x.possible(), 1);
        x.tell(num("1122", 3), 0, 4);
        due("possible() against itself", x.possible(), 0);
    }

    private static void code() {
        promise = "promise 8";
        CodeBreaker x = new CodeBreaker(4, 3);
        for (int i = 0; i < 81; i++) {
            due("code(" + i + ")", x.code(i), i);
        }
        due("code(81)", x.code(81), CodeBreaker.NONE);
        x.tell(0, 0, 0);
        x.tell(num("1111", 3), 2, 0);
        String[] want = {"1122", "1212", "1221", "2112", "2121", "2211"};
        for (int i = 0; i < want.length; i++) {
            due("code(" + i + ")", x.code(i), num(want[i], 3));
        }
        due("code(6)", x.code(6), CodeBreaker.NONE);
        for (int bad : OUTSIDE) {
            due("code(" + bad + ")", x.code(bad), CodeBreaker.NONE);
        }
        x.tell(0, 4, 0);
        due("code(0) of none", x.code(0), CodeBreaker.NONE);
    }

    private static void canBe() {
        promise = "promise 9";
        CodeBreaker x = new CodeBreaker(2, 3);
        for (int c = 0; c < 9; c++) {
            due("canBe(" + c + ")", x.canBe(c), true);
        }
        x.tell(1, 0, 1);
        for (int c = 0; c < 9; c++) {
            due("canBe(" + c + ") after tell", x.canBe(c), c == 5 || c == 6);
        }
        due("canBe(9)", x.canBe(9), false);
        for (int bad : OUTSIDE) {
            due("canBe(" + bad + ")", x.canBe(bad), false);
        }
        CodeBreaker y = new CodeBreaker(2, 3);
        due("canBe(9) when all can", y.canBe(9), false);
        due("canBe(-1) when all can", y.canBe(-1), false);
    }

    /** Possible are the six codes with two 1 and two 2. */
    private static CodeBreaker sixCodes() {
        CodeBreaker x = new CodeBreaker(4, 3);
        x.tell(0, 0, 0);
        x.tell(num("1111", 3), 2, 0);
        return x;
    }

    private static CodeBreaker noCode(int length, int digits) {
        CodeBreaker x = new CodeBreaker(length, digits);
        x.tell(0, 4, 4);
        return x;
    }

    private interface CallWithCode {
        int of(CodeBreaker x, int g);
    }

    private static void refuseCodes(String name, CallWithCode call) {
        CodeBreaker[] objects = {new CodeBreaker(2, 3), noCode(2, 3)};
        for (CodeBreaker x : objects) {
            due(name + "(9)", call.of(x, 9), CodeBreaker.BAD_ARG);
            for (int bad : OUTSIDE) {
                due(name + "(" + bad + ")", call.of(x, bad), CodeBreaker.BAD_ARG);
            }
        }
    }

    private static void parts() {
        promise = "promise 10";
        CodeBreaker x = sixCodes();
        due("parts(0000)", x.parts(0), 1);
        due("parts(1122)", x.parts(num("1122", 3)), 3);
        due("parts(0012)", x.parts(num("0012", 3)), 3);
        due("parts(0112)", x.parts(num("0112", 3)), 4);
        due("parts of 81", new CodeBreaker(4, 3).parts(0), 5);
        due("parts of one", new CodeBreaker(4, 1).parts(0), 1);
        due("parts of none", noCode(4, 3).parts(0), 0);
        refuseCodes("parts", CodeBreaker::parts);
    }

    private static void worst() {
        promise = "promise 11";
        CodeBreaker x = sixCodes();
        due("worst(0000)", x.worst(0), 6);
        due("worst(1122)", x.worst(num("1122", 3)), 4);
        due("worst(0112)", x.worst(num("0112", 3)), 2);
        due("worst of 81", new CodeBreaker(4, 3).worst(0), 32);
        due("worst of one", new CodeBreaker(4, 1).worst(0), 1);
        due("worst of none", noCode(4, 3).worst(0), 0);
        refuseCodes("worst", CodeBreaker::worst);
    }

    private static void weight() {
        promise = "promise 12";
        CodeBreaker x = sixCodes();
        due("weight(0000)", x.weight(0), 36);
        due("weight(1122)", x.weight(num("1122", 3)), 1 + 16 + 1);
        due("weight(0112)", x.weight(num("0112", 3)), 1 + 2 * 2 + 2 * 2 + 1);
        // Four places, each 0 or not, with two ways not to be 0: 16, 32, 24, 8 and 1 codes.
        due("weight of 81", new CodeBreaker(4, 3).weight(0), 256 + 1024 + 576 + 64 + 1);
        due("weight of one", new CodeBreaker(4, 1).weight(0), 1);
        due("weight of none", noCode(4, 3).weight(0), 0);
        refuseCodes("weight", CodeBreaker::weight);
    }

    private static void safest() {
        promise = "promise 13";
        // The least one of all that are alike.
        due("safest of 1 place", new CodeBreaker(1, 3).safest(), 0);
        due("safest of (3, 2)", new CodeBreaker(3, 2).safest(), 0);
        due("safest of (4, 3)", new CodeBreaker(4, 3).safest(), 1);
        // A code that is possible comes before a lesser one that is not.
        CodeBreaker x = new CodeBreaker(2, 3);
        x.tell(1, 0, 1);
        due("worst(0)", x.worst(0), 1);
        due("safest of {12, 20}", x.safest(), 5);
        // A better code that is not possible comes before one that is.
        CodeBreaker y = sixCodes();
        int g = y.safest();
        due("worst(safest)", y.worst(g), 2);
        due("canBe(safest)", y.canBe(g), false);
        // 0012 makes three parts of two; the lesser ones have a part of three or more.
        due("safest of six", g, num("0012", 3));
        due("safest of none", noCode(4, 3).safest(), CodeBreaker.NONE);
    }

    private static void sharpest() {
        promise = "promise 14";
        due("sharpest of 1 place", new CodeBreaker(1, 3).sharpest(), 0);
        due("sharpest of (3, 2)", new CodeBreaker(3, 2).sharpest(), 1);
        due("sharpest of (4, 3)", new CodeBreaker(4, 3).sharpest(), 4);
        CodeBreaker x = new CodeBreaker(2, 3);
        x.tell(1, 0, 1);
        due("weight(0)", x.weight(0), 2);
        due("sharpest of {12, 20}", x.sharpest(), 5);
        CodeBreaker y = sixCodes();
        int g = y.sharpest();
        due("weight(sharpest)", y.weight(g), 10);
        due("canBe(sharpest)", y.canBe(g), false);
        due("sharpest of six", g, num("0112", 3));
        due("sharpest of none", noCode(4, 3).sharpest(), CodeBreaker.NONE);
    }

    /** An object with these recorded guesses, each one as g, b and w. */
    private static CodeBreaker told(int length, int digits, int... records) {
        CodeBreaker x = new CodeBreaker(length, digits);
        for (int i = 0; i < records.length; i += 3) {
            x.tell(records[i], records[i + 1], records[i + 2]);
        }
        return x;
    }

    private static void edgesOfNeed(String name, java.util.function.ToIntFunction<CodeBreaker> call) {
        due(name + " of none", call.applyAsInt(noCode(4, 3)), name.equals("first") ? -3 : 0);
        due(name + " of none in one", call.applyAsInt(noCode(1, 1)), name.equals("first") ? -3 : 0);
        due(name + " of 9", call.applyAsInt(new CodeBreaker(2, 3)), CodeBreaker.MANY);
        due(name + " of 16", call.applyAsInt(new CodeBreaker(4, 2)), CodeBreaker.MANY);
        due(name + " of 81", call.applyAsInt(new CodeBreaker(4, 3)), CodeBreaker.MANY);
    }

    private static void need() {
        promise = "promise 15";
        due("need of 1", new CodeBreaker(3, 1).need(), 1);
        due("need of 2", new CodeBreaker(1, 2).need(), 2);
        // One place: each guess parts off itself alone.
        due("need of 3", new CodeBreaker(1, 3).need(), 3);
        due("need of 4", new CodeBreaker(2, 2).need(), 3);
        due("need of 8", new CodeBreaker(3, 2).need(), 3);
        due("need of six", sixCodes().need(), 3);
        edgesOfNeed("need", CodeBreaker::need);
        CodeBreaker x = new CodeBreaker(2, 3);
        due("need, too many", x.need(), CodeBreaker.MANY);
        x.tell(1, 0, 1);
        due("need, then few", x.need(), 2);
        x.forget();
        due("need, many again", x.need(), CodeBreaker.MANY);
    }

    private static void needKept() {
        promise = "promise 16";
        due("needKept of 1", new CodeBreaker(3, 1).needKept(), 1);
        due("needKept of 2", new CodeBreaker(1, 2).needKept(), 2);
        due("needKept of 3", new CodeBreaker(1, 3).needKept(), 3);
        due("needKept of 8", new CodeBreaker(3, 2).needKept(), 3);
        edgesOfNeed("needKept", CodeBreaker::needKept);
        keptCostsMore();
    }

    /** Guesses that are kept to possible codes can need more; the two calls don't disturb each other. */
    private static void keptCostsMore() {
        CodeBreaker x = sixCodes();
        IntSupplier kept = x::needKept;
        // Any of the six parts off itself, its opposite, and four; of these again itself, its
        // opposite, and two: 1122, then 1212, then 1221, then 2112.
        due("needKept of six", kept.getAsInt(), 4);
        due("need of six", x.need(), 3);
        due("needKept of six again", kept.getAsInt(), 4);
        // 0001 makes two parts of three, and 0120 or 0210 parts all three of either.
        due("first of six", x.first(), num("0001", 3));
    }

    private static void first() {
        promise = "promise 17";
        due("first of 1", new CodeBreaker(3, 1).first(), 0);
        due("first of 2", new CodeBreaker(1, 2).first(), 0);
        due("first of 3", new CodeBreaker(1, 3).first(), 0);
        due("first of 8", new CodeBreaker(3, 2).first(), 1);
        // The least one counts, possible or not: 00 parts 12 from 20 as well.
        due("first of {12, 20}", told(2, 3, 1, 0, 1).first(), 0);
        // With one code alone only that code comes to it with one guess.
        due("first of {20}", told(2, 3, 6, 2, 0).first(), 6);
        edgesOfNeed("first", CodeBreaker::first);
    }

    private static void useful() {
        promise = "promise 18";
        CodeBreaker x = new CodeBreaker(3, 2);
        due("useful of none", x.useful(), 0);
        x.tell(1, 1, 2);
        due("useful of one", x.useful(), 1);
        x.tell(2, 1, 2);
        due("useful of two", x.useful(), 2);
        x.tell(4, 3, 0);
        due("useful: the third says as much as both", x.useful(), 0);
        x.forget();
        due("useful after forget", x.useful(), 2);
        // The same twice: neither is missed.
        due("useful twice", told(2, 3, 1, 0, 1, 1, 0, 1).useful(), 0);
        due("useful of what can't be", told(2, 3, 0, 4, 4).useful(), 1);
        due("useful of two that can't be", told(2, 3, 0, 4, 4, 1, 4, 4).useful(), 0);
        due("useful of one that says nothing", told(3, 1, 0, 3, 0).useful(), 0);
        due("useful of the one that can't be", told(3, 1, 0, 3, 0, 0, 2, 0, 0, 3, 0).useful(), 1);
    }

    private static void refusedChangesNothing() {
        promise = "refused calls";
        CodeBreaker x = sixCodes();
        int[] before = state(x);
        refuseTells(x, new int[] {-1, 5});
        x.answer(-1, 0);
        x.parts(81);
        x.worst(81);
        x.weight(81);
        x.code(6);
        x.canBe(81);
        due("state is the same", java.util.Arrays.equals(before, state(x)), true);
        CodeBreaker y = new CodeBreaker(4, 3);
        before = state(y);
        y.forget();
        y.need();
        y.needKept();
        y.first();
        due("state is the same", java.util.Arrays.equals(before, state(y)), true);
    }

    private static int[] state(CodeBreaker x) {
        int[] seen = new int[90];
        seen[0] = x.told();
        seen[1] = x.possible();
        seen[2] = x.useful();
        seen[3] = x.safest();
        seen[4] = x.sharpest();
        seen[5] = x.need();
        seen[6] = x.needKept();
        seen[7] = x.first();
        for (int i = 0; i < 81; i++) {
            seen[8 + i] = x.code(i);
        }
        return seen;
    }

    private static void objectsAreApart() {
        promise = "two objects";
        CodeBreaker x = new CodeBreaker(2, 3);
        CodeBreaker y = new CodeBreaker(3, 2);
        x.tell(1, 0, 1);
        due("told() of the other", y.told(), 0);
        due("need() of the other", y.need(), 3);
        due("need()", x.need(), 2);
        due("codes()", x.codes(), 9);
        due("codes() of the other", y.codes(), 8);
    }

    private static void manyCalls() {
        promise = "512 calls";
        CodeBreaker x = new CodeBreaker(3, 2);
        for (int i = 0; i < 128; i++) {
            due("tell", x.tell(1, 1, 2), 2);
            due("need", x.need(), 2);
            due("forget", x.forget(), 8);
            due("first", x.first(), 1);
        }
    }
}
