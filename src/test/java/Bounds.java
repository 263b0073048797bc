import java.lang.reflect.Method;
import java.math.BigInteger;
import java.util.Arrays;
import java.util.HashMap;
import java.util.Map;
import java.util.function.Consumer;

/**
 * What the tests of the document's boundary cases share. A test names the sentence that it asks for
 * (says), the state that an object has ahead of the call (in), and what the call is due to answer. With
 * bad, full, notNow, finds and none the call is made on one of two objects of the same past, and both
 * must go on alike from there: nothing but finding() and findings() may have changed.
 */
class Bounds {
    static final int BAD = -1, FULL = -2, FINDING = -3, STATE = -4, NONE = -9;
    static final int NOTHING = 1, BEYOND = 2, UNLIKE = 3, NOUGHT = 4, SIZE = 5;
    static final int MOST = Integer.MAX_VALUE, LEAST = Integer.MIN_VALUE;
    /** 21 keys in 89 bytes, as many as fit: all 16 words of one figure, and of two what is left room for. */
    static final String LONG_TALE =
            "0=0;1=0;2=0;3=0;4=0;5=0;6=0;7=0;8=0;9=0;a=0;b=0;c=0;d=0;e=0;f=0;00=0;01=0;02=0;03=0;04=0;";

    private static final Map<String, Method> CALLS = new HashMap<>();
    private static String sentence = "";
    private static Consumer<NibbleTrunk> past = x -> { };
    private static int asked = 0;
    private static int wrong = 0;

    static {
        for (Method method : NibbleTrunk.class.getDeclaredMethods()) CALLS.put(method.getName(), method);
    }

    static void says(String quoted) {
        sentence = quoted;
    }

    static void in(Consumer<NibbleTrunk> ofAnObject) {
        past = ofAnObject;
    }

    static void end() {
        System.out.println(asked + " answers, " + wrong + " are not as due");
        if (wrong != 0) System.exit(1);
    }

    static NibbleTrunk made() {
        NibbleTrunk x = new NibbleTrunk();
        past.accept(x);
        return x;
    }

    static long ask(NibbleTrunk x, String call, int... args) {
        Object[] boxed = Arrays.stream(args).boxed().toArray();
        try {
            return ((Number) CALLS.get(call).invoke(x, boxed)).longValue();
        } catch (ReflectiveOperationException e) {
            throw new IllegalStateException(told(call, args), e);
        }
    }

    private static String told(String call, int... args) {
        String list = Arrays.toString(args);
        return call + "(" + list.substring(1, list.length() - 1) + ")";
    }

    static void same(String what, long got, long want) {
        asked++;
        if (got != want) {
            wrong++;
            System.out.println("\"" + sentence + "\" " + what + " answered " + got + ", due is " + want);
        }
    }

    /** What a call on an object in the midst of a run answers. */
    static void due(NibbleTrunk x, long want, String call, int... args) {
        same(told(call, args), ask(x, call, args), want);
    }

    static void tells(NibbleTrunk x, long want, long told, String call, int... args) {
        due(x, want, call, args);
        same(told(call, args) + ", asked()", x.asked(), told);
    }

    /** What a call answers right behind the state that was named. */
    static void answers(long want, String call, int... args) {
        due(made(), want, call, args);
    }

    static void answersAndTells(long want, long told, String call, int... args) {
        tells(made(), want, told, call, args);
    }

    static void bad(String call, int... args) {
        leavesAll(BAD, 0, call, args);
    }

    static void full(String call, int... args) {
        leavesAll(FULL, 0, call, args);
    }

    static void notNow(String call, int... args) {
        leavesAll(STATE, 0, call, args);
    }

    static void none(String call, int... args) {
        leavesAll(NONE, 0, call, args);
    }

    static void finds(int finding, String call, int... args) {
        leavesAll(FINDING, finding, call, args);
    }

    private static void leavesAll(int answer, int finding, String call, int... args) {
        String name = told(call, args);
        NibbleTrunk x = made();
        NibbleTrunk untouched = made();
        due(x, answer, call, args);
        same(name + ", finding()", x.finding(), finding == 0 ? untouched.finding() : finding);
        for (int f = 1; f <= 5; f++) {
            same(name + ", findings(" + f + ")", x.findings(f), untouched.findings(f) + (f == finding ? 1 : 0));
        }
        goOnAlike(name, x, untouched);
    }

    /** Asks both for all that can be told, then for all that undo() and on() can bring back. */
    private static void goOnAlike(String name, NibbleTrunk x, NibbleTrunk y) {
        same(name + ", asked()", x.asked(), y.asked());
        for (int what = 0; what < 4; what++) same(name + ", change(" + what + ")", x.change(what), y.change(what));
        for (int t = 0; t < 4; t++) same(name + ", fault(" + t + ")", x.fault(t), y.fault(t));
        backAlike(name, x, y);
        for (int k = 0; k < 3; k++) {
            same(name + ", on(" + k + ")", x.on(k), y.on(k));
            backAlike(name + ", on(" + k + ")", x, y);
        }
    }

    private static void backAlike(String name, NibbleTrunk x, NibbleTrunk y) {
        same(name + ", digest()", x.digest(), y.digest());
        for (int n = y.count(9) - 1; n >= 0; n = n < 3 ? n - 1 : n - 3) {
            same(name + ", undo(" + n + ")", x.undo(n), y.undo(n));
            same(name + ", undo(" + n + "), digest()", x.digest(), y.digest());
        }
    }

    static void write(NibbleTrunk x, int t, String tale) {
        x.text(t, tale.length());
        for (int i = 0; i < tale.length(); i++) x.put(t, i, tale.charAt(i));
    }

    static Consumer<NibbleTrunk> of(String tale) {
        return x -> {
            write(x, 0, tale);
            if (x.fault(0) == NONE) x.index(0);
            else throw new IllegalStateException("a fault in " + tale);
        };
    }

    /** Something of everything, and of everything something that is missing: row 2, text 2, kept index 1. */
    static void busy(NibbleTrunk x) {
        x.row(0, 3);
        x.lay(0, 0, 5);
        x.lay(0, 1, -7);
        x.lay(0, 2, 9);
        x.row(1, 0);
        x.row(5, 40);
        x.lay(5, 39, 77);
        write(x, 0, "1=7;12=5;123=9;2a=1;2b=2;f0012=3;");
        write(x, 1, "1=2;;");
        x.text(3, 0);
        x.index(0);
        x.find(0x12, 2);
        x.find(0x9, 1);
        x.enter(0x2C, 2, 3);
        x.keep(0);
        x.take(0x123, 3);
        x.enter(0x2D, 2, 4);
        x.keep(2);
        x.row(0, -1);
        x.at(0, 3);
        x.enter(0x2E, 2, 5);
        x.at(5, 39);
    }

    /** As busy() leaves it, and deeds till there are 40. */
    static void spent(NibbleTrunk x) {
        busy(x);
        for (int n = x.count(9); n < 40; n++) x.enter(0xABC, 3, n);
        x.keep(2);
        x.at(5, 39);
    }

    /** 48 keys by 27 deeds: the 21 of LONG_TALE, and 000 .. 01a with VALUES 0 .. 26. */
    static void crowded(NibbleTrunk x) {
        of(LONG_TALE).accept(x);
        x.row(0, 1);
        x.lay(0, 0, 3);
        x.at(0, 0);
        for (int v = 0; v < 27; v++) x.enter(v, 3, v);
        x.keep(0);
    }

    /** 48 keys and 40 deeds. */
    static void crowdedAndSpent(NibbleTrunk x) {
        crowded(x);
        for (int n = 27; n < 40; n++) x.enter(0, 3, n);
    }

    static int power(int n) {
        return 1 << 4 * n;
    }

    /** The seed from which lots() comes to a number at once. */
    static int seedFor(long number) {
        BigInteger modulus = BigInteger.valueOf(2147483647L);
        BigInteger factor = BigInteger.valueOf(48271L);
        return BigInteger.valueOf(number).multiply(factor.modInverse(modulus)).mod(modulus).intValueExact();
    }
}
