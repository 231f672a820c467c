import java.util.ArrayList;
import java.util.Arrays;
import java.util.List;
import java.util.function.ToIntFunction;

/**
 * "No call ever throws. A refused call answers the code named and changes nothing." Each call that
 * is refused in a state is made there, by itself and many after each other; all later calls must
 * answer as those of a second object that was made alike and had no refused call.
 */
public final class RefusedTest {
    private static final int BAD_ARG = -1;
    private static final int FULL = -2;
    private static final int NONE = -3;
    private static final int MANY = -4;
    private static final int FALSE = 0;
    private static final int[] ODD = {Integer.MIN_VALUE, Integer.MIN_VALUE + 1, -65536, -256, -82,
        -10, -5, -4, -3, -2, -1, 0, 1, 2, 3, 4, 5, 8, 9, 10, 16, 26, 27, 79, 80, 81, 82, 255, 256,
        65536, 429496730, 1 << 29, 1 << 30, (1 << 30) + 80, Integer.MAX_VALUE};

    private static int wrong = 0;

    public static void main(String[] args) {
        for (State s : states()) {
            refusedByThemselves(s);
            refusedTogether(s);
            refusedBetween(s);
            neverThrows(s);
        }
        System.out.println(wrong == 0 ? "refused calls change nothing" : wrong + " faults");
        if (wrong != 0) {
            System.exit(1);
        }
    }

    private static void fault(String text) {
        wrong++;
        if (wrong <= 40) {
            System.out.println(text);
        }
    }

    /** An object's recorded guesses, and what they come to, worked out by hand. */
    private record State(int length, int digits, int codes, int possible, int... told) {
        CodeBreaker make() {
            CodeBreaker x = new CodeBreaker(length, digits);
            for (int i = 0; i < told.length; i += 3) {
                x.tell(told[i], told[i + 1], told[i + 2]);
            }
            return x;
        }

        boolean full() {
            return told.length == 24;
        }

        @Override
        public String toString() {
            return "L " + length + ", C " + digits + ", told " + Arrays.toString(told);
        }
    }

    private record Call(String name, ToIntFunction<CodeBreaker> ask, int due) {
    }

    private static List<State> states() {
        List<State> all = new ArrayList<>();
        int[][] codes = {{1, 2, 3}, {1, 4, 9}, {1, 8, 27}, {1, 16, 81}};
        for (int l = 1; l <= 4; l++) {
            for (int c = 1; c <= 3; c++) {
                int n = codes[l - 1][c - 1];
                all.add(new State(l, c, n, n));
                all.add(new State(l, c, n, 0, 0, 4, 4));
                all.add(new State(l, c, n, 1, n - 1, l, 0));
                all.add(new State(l, c, n, 1, eight(n - 1, l, 0)));
                all.add(new State(l, c, n, 0, eight(n - 1, 4, 4)));
            }
        }
        // About the bound of 8 possible codes, below it, and far above it.
        all.add(new State(4, 3, 81, 8, 0, 3, 0));
        all.add(new State(4, 3, 81, 9, 1, 1, 2));
        all.add(new State(4, 3, 81, 6, 0, 0, 0, 40, 2, 0));
        all.add(new State(4, 2, 16, 4, 15, 1, 0));
        all.add(new State(4, 2, 16, 6, eight(15, 2, 0)));
        all.add(new State(4, 3, 81, 32, eight(0, 1, 0)));
        // Eight that are not alike, so that a change of one of them shows in useful.
        all.add(new State(1, 3, 3, 1,
                0, 0, 0, 0, 0, 0, 0, 0, 0, 0, 0, 0, 0, 0, 0, 0, 0, 0, 1, 0, 0, 2, 1, 0));
        all.add(new State(1, 3, 3, 1,
                1, 0, 0, 1, 0, 0, 1, 0, 0, 1, 0, 0, 1, 0, 0, 1, 0, 0, 0, 1, 0, 2, 0, 0));
        all.add(new State(4, 3, 81, 1, 49, 1, 2, 69, 1, 2, 34, 1, 3, 15, 1, 2,
                40, 2, 0, 0, 1, 0, 46, 2, 2, 80, 1, 0));
        return all;
    }

    private static int[] eight(int g, int b, int w) {
        int[] told = new int[24];
        for (int i = 0; i < 24; i += 3) {
            told[i] = g;
            told[i + 1] = b;
            told[i + 2] = w;
        }
        return told;
    }

    /** Every call that the document refuses in this state. */
    private static List<Call> refused(State s) {
        List<Call> calls = new ArrayList<>();
        for (int n : ODD) {
            if (n < 0 || n >= s.codes) {
                refusedForCode(calls, n);
            }
            if (n < 0 || n > 4) {
                calls.add(new Call("tell(0, " + n + ", 0)", x -> x.tell(0, n, 0), BAD_ARG));
                calls.add(new Call("tell(0, 4, " + n + ")", x -> x.tell(0, 4, n), BAD_ARG));
            }
            if (n < 0 || n >= s.possible) {
                calls.add(new Call("code(" + n + ")", x -> x.code(n), NONE));
            }
        }
        if (s.full()) {
            calls.add(new Call("tell(0, 0, 0)", x -> x.tell(0, 0, 0), FULL));
            calls.add(new Call("tell(last, 4, 4)", x -> x.tell(s.codes - 1, 4, 4), FULL));
        }
        if (s.told.length == 0) {
            calls.add(new Call("forget()", CodeBreaker::forget, NONE));
        }
        if (s.possible == 0) {
            calls.add(new Call("safest()", CodeBreaker::safest, NONE));
            calls.add(new Call("sharpest()", CodeBreaker::sharpest, NONE));
            calls.add(new Call("first()", CodeBreaker::first, NONE));
        }
        if (s.possible > 8) {
            calls.add(new Call("need()", CodeBreaker::need, MANY));
            calls.add(new Call("needKept()", CodeBreaker::needKept, MANY));
            calls.add(new Call("first()", CodeBreaker::first, MANY));
        }
        return calls;
    }

    private static void refusedForCode(List<Call> calls, int bad) {
        calls.add(new Call("answer(" + bad + ", 0)", x -> x.answer(bad, 0), BAD_ARG));
        calls.add(new Call("answer(0, " + bad + ")", x -> x.answer(0, bad), BAD_ARG));
        calls.add(new Call("tell(" + bad + ", 0, 0)", x -> x.tell(bad, 0, 0), BAD_ARG));
        calls.add(new Call("tell(" + bad + ", 5, -1)", x -> x.tell(bad, 5, -1), BAD_ARG));
        calls.add(new Call("canBe(" + bad + ")", x -> x.canBe(bad) ? 1 : 0, FALSE));
        calls.add(new Call("parts(" + bad + ")", x -> x.parts(bad), BAD_ARG));
        calls.add(new Call("worst(" + bad + ")", x -> x.worst(bad), BAD_ARG));
        calls.add(new Call("weight(" + bad + ")", x -> x.weight(bad), BAD_ARG));
    }

    private static void ask(State s, CodeBreaker x, Call call) {
        int got = answerOrFault(s, x, call);
        if (got != call.due) {
            fault(s + ": " + call.name + " answered " + got + ", due is " + call.due);
        }
    }

    private static int answerOrFault(State s, CodeBreaker x, Call call) {
        try {
            return call.ask.applyAsInt(x);
        } catch (RuntimeException e) {
            fault(s + ": " + call.name + " threw " + e);
            return call.due;
        }
    }

    private static void sameLater(State s, String after, int[] due, int[] got) {
        for (int i = 0; i < due.length; i++) {
            if (due[i] != got[i]) {
                fault(s + ": after " + after + " later call " + i + " answered " + got[i]
                        + ", without it " + due[i]);
            }
        }
    }

    private static void refusedByThemselves(State s) {
        int[] seen = seen(s, s.make());
        int[] wentOn = wentOn(s, s.make());
        for (Call call : refused(s)) {
            CodeBreaker x = s.make();
            ask(s, x, call);
            sameLater(s, call.name, wentOn, wentOn(s, x));
            // What is seen without a change of state needs most calls, so it is seen more seldom.
            if (s.codes <= 16 || call.due != BAD_ARG && !call.name.startsWith("code")) {
                CodeBreaker y = s.make();
                ask(s, y, call);
                sameLater(s, call.name, seen, seen(s, y));
            }
        }
    }

    /** Many refused calls after each other, at most as many as leave 512 calls in all. */
    private static void refusedTogether(State s) {
        int[] seen = seen(s, s.make());
        int[] wentOn = wentOn(s, s.make());
        List<Call> calls = refused(s);
        for (int from = 0; from < calls.size(); from += 60) {
            List<Call> some = calls.subList(from, Math.min(from + 60, calls.size()));
            CodeBreaker x = s.make();
            CodeBreaker y = s.make();
            for (Call call : some) {
                ask(s, x, call);
                ask(s, y, call);
            }
            String after = "calls " + from + " and on";
            sameLater(s, after, seen, seen(s, x));
            sameLater(s, after, wentOn, wentOn(s, y));
        }
    }

    /** A refused call before each recorded guess that the state is made of. */
    private static void refusedBetween(State s) {
        CodeBreaker x = new CodeBreaker(s.length, s.digits);
        for (int i = 0; i < s.told.length; i += 3) {
            refuseTells(s, x);
            x.tell(s.told[i], s.told[i + 1], s.told[i + 2]);
        }
        refuseTells(s, x);
        sameLater(s, "refused tells before each guess", seen(s, s.make()), seen(s, x));
    }

    private static void refuseTells(State s, CodeBreaker x) {
        ask(s, x, new Call("tell(codes, 4, 4)", y -> y.tell(s.codes, 4, 4), BAD_ARG));
        ask(s, x, new Call("tell(-1, 4, 4)", y -> y.tell(-1, 4, 4), BAD_ARG));
        ask(s, x, new Call("tell(0, 5, 4)", y -> y.tell(0, 5, 4), BAD_ARG));
        ask(s, x, new Call("tell(0, 4, 5)", y -> y.tell(0, 4, 5), BAD_ARG));
        ask(s, x, new Call("tell(0, -1, 4)", y -> y.tell(0, -1, 4), BAD_ARG));
        ask(s, x, new Call("tell(0, 4, -1)", y -> y.tell(0, 4, -1), BAD_ARG));
    }

    /** What all calls that change nothing answer. */
    private static int[] seen(State s, CodeBreaker x) {
        List<Integer> all = new ArrayList<>(few(x));
        for (int g = -1; g <= s.codes; g++) {
            all.add(x.code(g));
            all.add(x.canBe(g) ? 1 : 0);
            all.add(x.parts(g));
            all.add(x.worst(g));
            all.add(x.weight(g));
        }
        return all.stream().mapToInt(i -> i).toArray();
    }

    private static List<Integer> few(CodeBreaker x) {
        return List.of(x.codes(), x.told(), x.possible(), x.useful(), x.safest(), x.sharpest(),
                x.need(), x.needKept(), x.first(), x.code(0), x.code(1));
    }

    /** What is answered on the way to 8 recorded guesses, back to none, and up again. */
    private static int[] wentOn(State s, CodeBreaker x) {
        List<Integer> all = new ArrayList<>(few(x));
        for (int i = 0; i < 9; i++) {
            all.add(x.tell(i % s.codes, s.length > 1 ? 1 : 0, 0));
            all.add(x.told());
            all.add(x.possible());
            all.add(x.useful());
        }
        for (int i = 0; i < 9; i++) {
            all.add(x.forget());
            all.addAll(few(x));
        }
        all.add(x.tell(s.codes - 1, s.length, 0));
        all.addAll(few(x));
        return all.stream().mapToInt(i -> i).toArray();
    }

    /** All calls with all odd numbers, in and out of range: none throws. */
    private static void neverThrows(State s) {
        for (int n : ODD) {
            CodeBreaker x = s.make();
            for (int m : ODD) {
                free(s, x, "answer(" + n + ", " + m + ")", y -> y.answer(n, m));
                free(s, x, "tell(" + n + ", " + m + ", 0)", y -> y.tell(n, m, 0));
                free(s, x, "tell(" + n + ", 0, " + m + ")", y -> y.tell(n, 0, m));
                free(s, x, "tell(0, " + n + ", " + m + ")", y -> y.tell(0, n, m));
            }
            free(s, x, "code(" + n + ")", y -> y.code(n));
            free(s, x, "canBe(" + n + ")", y -> y.canBe(n) ? 1 : 0);
            free(s, x, "parts(" + n + ")", y -> y.parts(n));
            free(s, x, "worst(" + n + ")", y -> y.worst(n));
            free(s, x, "weight(" + n + ")", y -> y.weight(n));
            for (int i = 0; i < 9; i++) {
                free(s, x, "all calls without a number", y -> few(y).size());
                free(s, x, "forget()", CodeBreaker::forget);
            }
            free(s, new CodeBreaker(n, s.digits), "new(" + n + ", C)", y -> few(y).size());
            free(s, new CodeBreaker(s.length, n), "new(L, " + n + ")", y -> few(y).size());
        }
    }

    private static void free(State s, CodeBreaker x, String name, ToIntFunction<CodeBreaker> ask) {
        answerOrFault(s, x, new Call(name, ask, 0));
    }
}
