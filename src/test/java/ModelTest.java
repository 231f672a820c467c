import java.util.ArrayDeque;
import java.util.ArrayList;
import java.util.Comparator;
import java.util.Deque;
import java.util.HashMap;
import java.util.HashSet;
import java.util.List;
import java.util.Map;
import java.util.Set;
import java.util.TreeMap;

/**
 * All answers, every recorded guess by itself, every pair of them where there are few codes, every
 * set of possible codes that recorded guesses can come to, and long runs of calls: each answer is
 * held against a plain model that is written from the document's words, with lists and recursion,
 * and shares no code with the class.
 */
public final class ModelTest {
    private static final int RUNS = 600;
    private static final int CALLS = 512;
    /** With up to 8 recorded guesses and 8 questions, one object has calls for so many sets. */
    private static final int SETS_OF_ONE = 20;
    private static final int[] ODD = {
        Integer.MIN_VALUE, -2, -1, 5, 9, 80, 81, 82, 1 << 16, Integer.MAX_VALUE};

    private static int wrong = 0;
    private static long seed = 20261115L;

    public static void main(String[] args) {
        for (int length = 1; length <= 4; length++) {
            for (int digits = 1; digits <= 3; digits++) {
                everyAnswer(length, digits);
                everyTell(length, digits);
                everySet(length, digits);
            }
        }
        for (int run = 0; run < RUNS && wrong < 20; run++) {
            // Every pair of length and digits comes, and pairs that are out of range.
            int length = run % 13 == 12 ? pick(12) - 4 : 1 + run % 4;
            int digits = run % 13 == 12 ? pick(9) - 3 : 1 + run / 4 % 3;
            oneRun(run, length, digits);
        }
        System.out.println(wrong == 0 ? "class and model agree" : wrong + " answers differ");
        if (wrong != 0) {
            System.exit(1);
        }
    }

    private static void everyAnswer(int length, int digits) {
        Model m = new Model(length, digits);
        for (int g = 0; g < m.codes.size(); g++) {
            // A new one for each guess, so that none is used for more than 512 calls.
            CodeBreaker x = new CodeBreaker(length, digits);
            for (int s = 0; s < m.codes.size(); s++) {
                due(-1, log(x), "answer(" + g + ", " + s + ")", x.answer(g, s), m.answer(g, s));
            }
        }
    }

    /** Every code with every answer, also those that can't be; of few codes, every two of these. */
    private static void everyTell(int length, int digits) {
        Model m = new Model(length, digits);
        List<int[]> all = new ArrayList<>();
        for (int at = 0; at < 25 * m.codes.size(); at++) {
            all.add(new int[] {at / 25, at / 5 % 5, at % 5});
        }
        for (int i = 0; i < all.size() && wrong < 20; i++) {
            oneSet(new CodeBreaker(length, digits), m, List.of(all.get(i)));
            for (int j = 0; j < all.size() && m.codes.size() <= 9; j++) {
                twoTells(new CodeBreaker(length, digits), m, all.get(i), all.get(j));
            }
        }
    }

    private static void twoTells(CodeBreaker x, Model m, int[] one, int[] other) {
        m.told.clear();
        StringBuilder log = log(x);
        tellAll(x, m, List.of(one, other), log);
        due(-1, log, "told()", x.told(), 2);
        due(-1, log, "useful()", x.useful(), m.useful());
        due(-1, log, "code(0)", x.code(0), m.code(0));
        due(-1, log, "forget()", x.forget(), m.forget());
        due(-1, log, "useful()", x.useful(), m.useful());
        due(-1, log, "code(0)", x.code(0), m.code(0));
    }

    private static void tellAll(CodeBreaker x, Model m, List<int[]> records, StringBuilder log) {
        for (int[] r : records) {
            String call = "tell(" + r[0] + ", " + r[1] + ", " + r[2] + ")";
            due(-1, log, call, x.tell(r[0], r[1], r[2]), m.tell(r[0], r[1], r[2]));
        }
    }

    private static StringBuilder log(CodeBreaker x) {
        return new StringBuilder("codes " + x.codes());
    }

    /** Goes from set to set, each one by a shortest list of recorded guesses. */
    private static void everySet(int length, int digits) {
        Model m = new Model(length, digits);
        Set<List<Integer>> seen = new HashSet<>();
        Deque<List<int[]>> ahead = new ArrayDeque<>();
        List<Due> found = new ArrayList<>();
        seen.add(m.possible());
        ahead.add(List.of());
        while (!ahead.isEmpty() && wrong < 20) {
            List<int[]> records = ahead.remove();
            Due due = oneSet(new CodeBreaker(length, digits), m, records);
            sameAfterOthers(new CodeBreaker(length, digits), m, due);
            found.add(due);
            for (int g = 0; g < m.codes.size() && records.size() < 8; g++) {
                for (Map.Entry<Integer, List<Integer>> part : m.split(g, due.left).entrySet()) {
                    if (seen.add(part.getValue())) {
                        List<int[]> more = new ArrayList<>(records);
                        more.add(new int[] {g, part.getKey() / 10, part.getKey() % 10});
                        ahead.add(more);
                    }
                }
            }
        }
        oneAfterOther(length, digits, m, found);
    }

    /** What is due to the questions without a number, with these recorded guesses. */
    private record Due(List<int[]> told, List<Integer> left, int need, int needKept, int first,
            int safest, int sharpest, int useful) {
        static Due of(Model m) {
            return new Due(List.copyOf(m.told), m.possible(), m.need(false), m.need(true), m.first(),
                    m.best(false), m.best(true), m.useful());
        }

        void check(CodeBreaker x, StringBuilder log) {
            due(-1, log, "told()", x.told(), told.size());
            due(-1, log, "possible()", x.possible(), left.size());
            due(-1, log, "need()", x.need(), need);
            due(-1, log, "needKept()", x.needKept(), needKept);
            due(-1, log, "first()", x.first(), first);
            due(-1, log, "safest()", x.safest(), safest);
            due(-1, log, "sharpest()", x.sharpest(), sharpest);
            due(-1, log, "useful()", x.useful(), useful);
        }
    }

    /** All questions but answer, with these recorded guesses; at most 512 calls. */
    private static Due oneSet(CodeBreaker x, Model m, List<int[]> records) {
        m.told.clear();
        StringBuilder log = log(x);
        tellAll(x, m, records, log);
        Due due = Due.of(m);
        due.check(x, log);
        for (int g = 0; g < m.codes.size(); g++) {
            int atG = g < due.left.size() ? due.left.get(g) : -3;
            due(-1, log, "code(" + g + ")", x.code(g), atG);
            due(-1, log, "canBe(" + g + ")", x.canBe(g) ? 1 : 0, due.left.contains(g) ? 1 : 0);
            due(-1, log, "parts(" + g + ")", x.parts(g), m.parts(g));
            due(-1, log, "worst(" + g + ")", x.worst(g), m.worst(g));
            due(-1, log, "weight(" + g + ")", x.weight(g), m.weight(g));
        }
        return due;
    }

    /** What was recorded and asked before, and is forgotten, is nothing to any answer. */
    private static void sameAfterOthers(CodeBreaker x, Model m, Due due) {
        m.told.clear();
        StringBuilder log = log(x).append(", each code told and forgotten,");
        for (int c = 0; c < m.codes.size(); c++) {
            x.tell(c, m.length, 0);
            due(-1, log, "needKept() of " + c, x.needKept(), 1);
            x.forget();
        }
        tellAll(x, m, due.told, log);
        due.check(x, log);
    }

    /** One object comes to many sets, those next that are alike in size, least and greatest code. */
    private static void oneAfterOther(int length, int digits, Model m, List<Due> found) {
        List<Due> row = new ArrayList<>(found);
        row.sort(Comparator.<Due>comparingInt(d -> d.left.size()).thenComparing(d -> d.left.get(0))
                .thenComparing(d -> d.left.get(d.left.size() - 1)));
        for (int from = 0; from < row.size() && wrong < 20; from += SETS_OF_ONE - 1) {
            CodeBreaker x = new CodeBreaker(length, digits);
            StringBuilder log = log(x);
            m.told.clear();
            for (Due due : row.subList(from, Math.min(from + SETS_OF_ONE, row.size()))) {
                tellAll(x, m, due.told, log);
                due.check(x, log);
                while (!m.told.isEmpty()) {
                    due(-1, log, "forget()", x.forget(), m.forget());
                }
            }
        }
    }

    /** A fixed row of numbers, the same in every run of the test. */
    private static int pick(int bound) {
        seed = seed * 6364136223846793005L + 1442695040888963407L;
        return (int) ((seed >>> 33) % bound);
    }

    private static void oneRun(int run, int length, int digits) {
        CodeBreaker x = new CodeBreaker(length, digits);
        Model m = new Model(length, digits);
        int secret = pick(m.codes.size());
        StringBuilder log = new StringBuilder("new(" + length + ", " + digits + ")");
        for (int i = 0; i < CALLS && wrong < 20; i++) {
            step(run, x, m, secret, log);
        }
    }

    private static int someCode(Model m) {
        return pick(12) == 0 ? ODD[pick(ODD.length)] : pick(m.codes.size());
    }

    private static int somePegs() {
        return pick(12) == 0 ? ODD[pick(ODD.length)] : pick(5);
    }

    private static void step(int run, CodeBreaker x, Model m, int secret, StringBuilder log) {
        int g = someCode(m);
        switch (pick(20)) {
            case 0, 1, 2 -> {
                // Mostly answers for one secret, so that many steps leave few codes, not none.
                int a = pick(4) == 0 || !m.isCode(g) ? -1 : m.answer(g, secret);
                int b = a < 0 ? somePegs() : a / 10;
                int w = a < 0 ? somePegs() : a % 10;
                due(run, log, "tell(" + g + ", " + b + ", " + w + ")", x.tell(g, b, w), m.tell(g, b, w));
            }
            case 3, 4 -> due(run, log, "forget()", x.forget(), m.forget());
            case 5 -> due(run, log, "told()", x.told(), m.told.size());
            case 6 -> due(run, log, "possible()", x.possible(), m.possible().size());
            case 7 -> due(run, log, "code(" + g + ")", x.code(g), m.code(g));
            case 8 -> {
                int i = pick(9);
                due(run, log, "code(" + i + ")", x.code(i), m.code(i));
            }
            case 9 -> due(run, log, "canBe(" + g + ")", x.canBe(g) ? 1 : 0, m.possible().contains(g) ? 1 : 0);
            case 10 -> due(run, log, "parts(" + g + ")", x.parts(g), m.parts(g));
            case 11 -> due(run, log, "worst(" + g + ")", x.worst(g), m.worst(g));
            case 12 -> due(run, log, "weight(" + g + ")", x.weight(g), m.weight(g));
            case 13 -> due(run, log, "safest()", x.safest(), m.best(false));
            case 14 -> due(run, log, "sharpest()", x.sharpest(), m.best(true));
            case 15 -> due(run, log, "need()", x.need(), m.need(false));
            case 16 -> due(run, log, "needKept()", x.needKept(), m.need(true));
            case 17 -> due(run, log, "first()", x.first(), m.first());
            case 18 -> due(run, log, "useful()", x.useful(), m.useful());
            default -> {
                int s = someCode(m);
                int want = m.isCode(g) && m.isCode(s) ? m.answer(g, s) : -1;
                due(run, log, "answer(" + g + ", " + s + ")", x.answer(g, s), want);
            }
        }
    }

    private static void due(int run, StringBuilder log, String call, int got, int want) {
        if (call.startsWith("tell") || call.startsWith("forget")) {
            log.append(' ').append(call);
        }
        if (got != want) {
            wrong++;
            System.out.println((run < 0 ? "set" : "run " + run) + ": " + log + ": " + call + " answered " + got + ", due is " + want);
        }
    }

    private static final class Model {
        final List<String> codes = new ArrayList<>();
        final List<int[]> told = new ArrayList<>();
        private final int length;
        private final int[][] answers;
        private final Map<String, Boolean> known = new HashMap<>();

        Model(int length, int digits) {
            this.length = Math.max(1, Math.min(4, length));
            int base = Math.max(1, Math.min(3, digits));
            codes.add("");
            for (int p = 0; p < this.length; p++) {
                List<String> longer = new ArrayList<>();
                for (String c : codes) {
                    for (int d = 0; d < base; d++) {
                        longer.add(c + d);
                    }
                }
                codes.clear();
                codes.addAll(longer);
            }
            answers = new int[codes.size()][codes.size()];
            for (int g = 0; g < codes.size(); g++) {
                for (int s = 0; s < codes.size(); s++) {
                    answers[g][s] = reply(codes.get(g), codes.get(s));
                }
            }
        }

        /** Strikes out what is alike, first at the same place, then elsewhere. */
        private static int reply(String guess, String secret) {
            StringBuilder g = new StringBuilder(guess);
            StringBuilder s = new StringBuilder(secret);
            int b = 0;
            for (int p = g.length() - 1; p >= 0; p--) {
                if (g.charAt(p) == s.charAt(p)) {
                    b++;
                    g.deleteCharAt(p);
                    s.deleteCharAt(p);
                }
            }
            int w = 0;
            for (int p = 0; p < g.length(); p++) {
                int at = s.indexOf(g.substring(p, p + 1));
                if (at >= 0) {
                    w++;
                    s.deleteCharAt(at);
                }
            }
            return 10 * b + w;
        }

        boolean isCode(int x) {
            return x >= 0 && x < codes.size();
        }

        int answer(int g, int s) {
            return answers[g][s];
        }

        int tell(int g, int b, int w) {
            if (!isCode(g) || b < 0 || b > 4 || w < 0 || w > 4) {
                return -1;
            }
            if (told.size() == 8) {
                return -2;
            }
            told.add(new int[] {g, b, w});
            return possible().size();
        }

        int forget() {
            if (told.isEmpty()) {
                return -3;
            }
            told.remove(told.size() - 1);
            return possible().size();
        }

        List<Integer> possible() {
            return possibleBy(told);
        }

        private List<Integer> possibleBy(List<int[]> records) {
            List<Integer> left = new ArrayList<>();
            for (int x = 0; x < codes.size(); x++) {
                boolean all = true;
                for (int[] r : records) {
                    int a = answer(r[0], x);
                    all &= a / 10 == r[1] && a % 10 == r[2];
                }
                if (all) {
                    left.add(x);
                }
            }
            return left;
        }

        int code(int i) {
            List<Integer> left = possible();
            return i >= 0 && i < left.size() ? left.get(i) : -3;
        }

        Map<Integer, List<Integer>> split(int g, List<Integer> left) {
            Map<Integer, List<Integer>> parts = new TreeMap<>();
            for (int x : left) {
                parts.computeIfAbsent(answer(g, x), a -> new ArrayList<>()).add(x);
            }
            return parts;
        }

        int parts(int g) {
            return isCode(g) ? split(g, possible()).size() : -1;
        }

        int worst(int g) {
            return isCode(g) ? worst(g, possible()) : -1;
        }

        private int worst(int g, List<Integer> left) {
            return split(g, left).values().stream().mapToInt(List::size).max().orElse(0);
        }

        int weight(int g) {
            return isCode(g) ? weight(g, possible()) : -1;
        }

        private int weight(int g, List<Integer> left) {
            return split(g, left).values().stream().mapToInt(p -> p.size() * p.size()).sum();
        }

        int best(boolean byWeight) {
            List<Integer> left = possible();
            if (left.isEmpty()) {
                return -3;
            }
            int[] score = new int[codes.size()];
            int least = Integer.MAX_VALUE;
            for (int g = 0; g < score.length; g++) {
                score[g] = byWeight ? weight(g, left) : worst(g, left);
                least = Math.min(least, score[g]);
            }
            for (int g : left) {
                if (score[g] == least) {
                    return g;
                }
            }
            for (int g = 0; g < score.length; g++) {
                if (score[g] == least) {
                    return g;
                }
            }
            throw new IllegalStateException();
        }

        /** Whether some way that begins with g comes to each of the codes with at most n guesses. */
        private boolean enoughWith(int g, List<Integer> left, int n, boolean kept) {
            for (Map.Entry<Integer, List<Integer>> part : split(g, left).entrySet()) {
                if (part.getKey() != 10 * length && !enough(part.getValue(), n - 1, kept)) {
                    return false;
                }
            }
            return true;
        }

        private boolean enough(List<Integer> left, int n, boolean kept) {
            if (left.isEmpty() || n == 0) {
                return left.isEmpty();
            }
            String key = left + " " + n + " " + kept;
            Boolean before = known.get(key);
            if (before != null) {
                return before;
            }
            boolean found = false;
            for (int g = 0; g < codes.size() && !found; g++) {
                found = (!kept || left.contains(g)) && enoughWith(g, left, n, kept);
            }
            known.put(key, found);
            return found;
        }

        int need(boolean kept) {
            List<Integer> left = possible();
            if (left.size() > 8) {
                return -4;
            }
            int n = 0;
            while (!enough(left, n, kept)) {
                n++;
            }
            return n;
        }

        int first() {
            List<Integer> left = possible();
            int n = need(false);
            if (left.isEmpty() || n < 0) {
                return left.isEmpty() ? -3 : n;
            }
            int g = 0;
            while (!enoughWith(g, left, n, false)) {
                g++;
            }
            return g;
        }

        int useful() {
            int count = 0;
            for (int i = 0; i < told.size(); i++) {
                List<int[]> others = new ArrayList<>(told);
                others.remove(i);
                if (possibleBy(others).size() > possible().size()) {
                    count++;
                }
            }
            return count;
        }
    }
}
