import java.util.Random;

/** Long runs by seeds that never change: every call is asked of the class and of the Oracle. */
public final class RandomRunsTest {
    private static final int RUNS = 1500, CALLS = 512;
    private static final String SIGNS = "0123456789abcdef=; gA:/\0";
    private static final String[] BEHIND_A_WORD = {"", " ", ";", "=", "=5;", "x", "0", "000000"};

    private final Random random;
    private final int run;
    private final NibbleTrunk x = new NibbleTrunk();
    private final Oracle oracle = new Oracle();
    /** How many figures words are made of: few give deep trees, many give wide ones. */
    private final int figures;
    private final int longest;
    /** How many values there are: with one alone many nodes are alike. */
    private final int values;
    /** Some runs begin with all keys that a text has room for, and then enter far more than they take. */
    private final boolean greedy;
    private int calls = 0;
    private int wrong = 0;

    private RandomRunsTest(int run) {
        this.run = run;
        random = new Random(run);
        figures = new int[] {2, 3, 16, 5}[run % 4];
        greedy = run % 6 == 5;
        longest = greedy ? 3 + random.nextInt(4) : 1 + random.nextInt(6);
        values = new int[] {1, 2, 3, 1000, 1}[run % 5];
    }

    public static void main(String[] args) {
        int wrong = 0;
        long calls = 0;
        for (int run = 0; run < RUNS && wrong < 20; run++) {
            RandomRunsTest test = new RandomRunsTest(run);
            if (test.greedy) test.crowd();
            while (test.calls < CALLS && test.wrong == 0) test.step();
            wrong += test.wrong;
            calls += test.calls;
        }
        System.out.println(calls + " calls, " + wrong + " answers are not as due");
        if (wrong != 0) System.exit(1);
    }

    private void due(String call, long got, long want) {
        calls++;
        if (got != want) {
            wrong++;
            System.out.println("run " + run + ", call " + calls + ": " + call + " answered " + got + ", due is " + want);
        }
    }

    private int pick(int... of) {
        return of[random.nextInt(of.length)];
    }

    /** Mostly 0 .. most, at times beyond. */
    private int number(int most) {
        int odd = random.nextInt(30);
        if (odd == 0) return pick(-1, most + 1, Integer.MIN_VALUE, Integer.MAX_VALUE);
        return random.nextInt(most + 1);
    }

    private int length() {
        return random.nextInt(60) == 0 ? pick(-1, 0, 7, 8, 32, Integer.MAX_VALUE) : 1 + random.nextInt(longest);
    }

    private int figuresFor(int n) {
        if (random.nextInt(60) == 0) return pick(-1, 16, 1 << 24, Integer.MIN_VALUE, Integer.MAX_VALUE);
        int v = 0;
        for (int k = 0; k < n && k < 6; k++) {
            int f = random.nextInt(figures);
            v = v * 16 + (f == figures - 1 ? 15 : f);
        }
        return v;
    }

    private void crowd() {
        StringBuilder s = new StringBuilder();
        for (int f = 0; f < 16; f++) s.append(Integer.toHexString(f)).append("=").append(f % 3).append(";");
        for (int f = 0; f < 5; f++) s.append("2").append(f).append("=").append(f % 3).append(";");
        write(0, s.toString());
        due("index(0) of " + s, x.index(0), oracle.index(0));
    }

    private void step() {
        switch (random.nextInt(greedy ? 16 : 8)) {
            case 0: rowStep(); break;
            case 1: textStep(); break;
            case 2: case 3: deedStep(); break;
            case 4: case 5: wordStep(); break;
            case 6: case 7: nodeStep(); break;
            default: deedStep(); break;
        }
        due("asked()", x.asked(), oracle.asked());
        due("finding()", x.finding(), oracle.finding());
        due("digest()", x.digest(), oracle.digest());
    }

    private void rowStep() {
        int r = number(5), to = number(5), i = number(7), j = number(7), n = number(5);
        int v = random.nextBoolean() ? random.nextInt() : random.nextInt(9) - 4;
        switch (random.nextInt(6)) {
            case 0: {
                int size = random.nextInt(5) == 0 ? pick(0, 1, 40, 41, -1, Integer.MIN_VALUE) : random.nextInt(8);
                due("row(" + r + ", " + size + ")", x.row(r, size), oracle.row(r, size));
                break;
            }
            case 1: due("lay(" + r + ", " + i + ", " + v + ")", x.lay(r, i, v), oracle.lay(r, i, v)); break;
            case 2: due("at(" + r + ", " + i + ")", x.at(r, i), oracle.at(r, i)); break;
            case 3:
                if (random.nextInt(3) == 0) due("tear(" + r + ")", x.tear(r), oracle.tear(r));
                break;
            case 4:
                due("copy(" + r + ", " + i + ", " + to + ", " + j + ", " + n + ")",
                        x.copy(r, i, to, j, n), oracle.copy(r, i, to, j, n));
                break;
            default: due("mean(" + r + ")", x.mean(r), oracle.mean(r)); break;
        }
    }

    private void textStep() {
        int t = number(3);
        switch (random.nextInt(8)) {
            case 0: write(random.nextInt(4), tale()); break;
            case 1: {
                int n = random.nextInt(3) == 0 ? pick(0, 1, 90, 91, -1, Integer.MIN_VALUE) : random.nextInt(20);
                due("text(" + t + ", " + n + ")", x.text(t, n), oracle.text(t, n));
                break;
            }
            case 2: case 3: case 4: {
                int i = number(20);
                int v = random.nextInt(4) == 0 ? random.nextInt() : SIGNS.charAt(random.nextInt(SIGNS.length()));
                due("put(" + t + ", " + i + ", " + v + ")", x.put(t, i, v), oracle.put(t, i, v));
                break;
            }
            case 5: case 6: due("fault(" + t + ")", x.fault(t), oracle.fault(t)); break;
            default:
                if (random.nextInt(greedy ? 60 : 3) == 0) due("index(" + t + ")", x.index(t), oracle.index(t));
                break;
        }
    }

    private void write(int t, String tale) {
        due("text(" + t + ", " + tale.length() + ")", x.text(t, tale.length()), oracle.text(t, tale.length()));
        // The tale is laid at once, without being counted: a run has more use for other calls.
        for (int i = 0; i < tale.length(); i++) {
            x.put(t, i, tale.charAt(i));
            oracle.put(t, i, tale.charAt(i));
        }
        due("fault(" + t + ") of " + tale, x.fault(t), oracle.fault(t));
        if (random.nextInt(greedy ? 60 : 3) == 0) due("index(" + t + ") of " + tale, x.index(t), oracle.index(t));
    }

    private String tale() {
        StringBuilder s = new StringBuilder();
        int items = random.nextInt(12);
        for (int k = 0; k < items; k++) {
            if (random.nextInt(3) == 0) s.append(" ".repeat(random.nextInt(3)));
            int n = 1 + random.nextInt(longest);
            int f = 0;
            for (; f < n; f++) s.append(Character.forDigit(random.nextInt(figures), 16));
            if (random.nextInt(40) == 0) s.append("00000".substring(random.nextInt(5)));
            s.append('=').append(random.nextInt(values));
            if (random.nextInt(40) == 0) s.append("00");
            s.append(';');
        }
        // The first word once more, with what may not follow it, or more figures than a word has.
        if (s.indexOf("=") > 0 && random.nextInt(4) == 0) {
            s.append(s.substring(0, s.indexOf("=")).strip())
                    .append(BEHIND_A_WORD[random.nextInt(BEHIND_A_WORD.length)]);
        }
        if (s.length() > 90) s.setLength(90);
        if (s.length() > 0 && random.nextInt(3) == 0) {
            s.setCharAt(random.nextInt(s.length()), SIGNS.charAt(random.nextInt(SIGNS.length())));
        }
        if (s.length() > 0 && random.nextInt(6) == 0) s.setLength(random.nextInt(s.length()));
        return s.toString();
    }

    private void deedStep() {
        int n = length(), v = figuresFor(n), value = random.nextInt(40) == 0 ? pick(-1, 1000, 999) : random.nextInt(values);
        switch (random.nextInt(greedy ? 60 : 12)) {
            case 0: case 1: due("take(" + v + ", " + n + ")", x.take(v, n), oracle.take(v, n)); break;
            case 2: due("strip(" + v + ", " + n + ")", x.strip(v, n), oracle.strip(v, n)); break;
            case 3: {
                int back = oracle.count(9) - random.nextInt(4);
                int till = random.nextInt(9) == 0 ? number(oracle.count(9)) : back;
                due("undo(" + till + ")", x.undo(till), oracle.undo(till));
                break;
            }
            case 4: {
                int k = number(2);
                due("keep(" + k + ")", x.keep(k), oracle.keep(k));
                break;
            }
            case 5: {
                int k = number(2);
                due("on(" + k + ")", x.on(k), oracle.on(k));
                break;
            }
            case 6: case 12: case 13: case 14: case 15: case 16: {
                int m = number(greedy ? 6 : 20), seed = random.nextInt(9) == 0 ? pick(0, -1, 1, 2147483646, 2147483647) : random.nextInt();
                due("lots(" + m + ", " + seed + ")", x.lots(m, seed), oracle.lots(m, seed));
                break;
            }
            default:
                due("enter(" + v + ", " + n + ", " + value + ")", x.enter(v, n, value), oracle.enter(v, n, value));
                break;
        }
        // A greedy run has all its calls for deeds, so it asks for one change alone.
        int first = greedy ? random.nextInt(4) : -1, last = greedy ? first : 4;
        for (int what = first; what <= last; what++) due("change(" + what + ")", x.change(what), oracle.change(what));
    }

    private void wordStep() {
        int n = length(), v = figuresFor(n), m = length(), w = figuresFor(m), k = number(Math.max(1, oracle.count(0)));
        switch (random.nextInt(7)) {
            case 0: due("find(" + v + ", " + n + ")", x.find(v, n), oracle.find(v, n)); break;
            case 1: due("longest(" + v + ", " + n + ")", x.longest(v, n), oracle.longest(v, n)); break;
            case 2: due("next(" + v + ", " + n + ")", x.next(v, n), oracle.next(v, n)); break;
            case 3: due("nth(" + k + ")", x.nth(k), oracle.nth(k)); break;
            case 4: due("rank(" + v + ", " + n + ")", x.rank(v, n), oracle.rank(v, n)); break;
            case 5: {
                int last = number(6);
                due("lately(" + last + ")", x.lately(last), oracle.lately(last));
                break;
            }
            default:
                due("between(" + v + ", " + n + ", " + w + ", " + m + ")",
                        x.between(v, n, w, m), oracle.between(v, n, w, m));
                break;
        }
    }

    private void nodeStep() {
        int n = random.nextInt(4) == 0 ? 0 : random.nextInt(longest), v = n == 0 ? pick(0, 0, 0, 0, 0, 1) : figuresFor(n);
        int what = number(4), size = number(4), f = number(5);
        switch (random.nextInt(8)) {
            case 0: case 1: case 2: due("node(" + v + ", " + n + ", " + what + ")", x.node(v, n, what), oracle.node(v, n, what)); break;
            case 3: case 4: due("mark(" + v + ", " + n + ", " + size + ")", x.mark(v, n, size), oracle.mark(v, n, size)); break;
            case 5: due("twins()", x.twins(), oracle.twins()); break;
            case 6: due("best()", x.best(), oracle.best()); break;
            default:
                due("count(" + what + ")", x.count(what * 3), oracle.count(what * 3));
                due("findings(" + f + ")", x.findings(f), oracle.findings(f));
                break;
        }
    }
}
