import java.util.List;
import java.util.function.Consumer;

/** The boundary cases that the document's 'Terms' name, a test for each sentence. */
public final class BoundsOfTermsTest extends Bounds {
    private static final List<Consumer<NibbleTrunk>> STATES = List.of(
            x -> { }, Bounds::busy, Bounds::spent, Bounds::crowded, Bounds::crowdedAndSpent);
    private static final String[] WORD_CALLS = {"take", "strip", "find", "longest", "next", "rank"};

    public static void main(String[] args) {
        constants();
        orderOfRefusals();
        orderOfDeedRefusals();
        findingsByNumber();
        shelvesOfRows();
        shelvesOfTexts();
        missingAtFirst();
        wordLengths();
        wordFigures();
        pathsOfNoFigures();
        order();
        values();
        keysAtMost();
        blanks();
        signs();
        faultPlaces();
        wordsToldAlready();
        endsTooEarly();
        longTexts();
        pathsAndNodes();
        prefixes();
        placesByChildren();
        sizesByNumber();
        deedsAtMost();
        comeAndGone();
        grownAndShrunk();
        lately();
        end();
    }

    private static void constants() {
        says("BAD = -1, FULL = -2, FINDING = -3, STATE = -4, SPENT = -6, NONE = -9");
        same("BAD", NibbleTrunk.BAD, -1);
        same("FULL", NibbleTrunk.FULL, -2);
        same("FINDING", NibbleTrunk.FINDING, -3);
        same("STATE", NibbleTrunk.STATE, -4);
        same("SPENT", NibbleTrunk.SPENT, -6);
        same("NONE", NibbleTrunk.NONE, -9);
    }

    private static void orderOfRefusals() {
        says("Refused is, the first of these that fits, in this order: BAD, .., FINDING");
        in(Bounds::busy);
        bad("row", -1, -1);
        bad("row", 6, -1);
        bad("row", 6, 41);
        bad("lay", 6, -1, 0);
        bad("at", 6, -1);
        bad("at", -1, 99);
        bad("tear", 6);
        bad("copy", 6, 0, 2, 0, -1);
        bad("copy", 2, 0, 6, 0, -1);
        bad("copy", 0, 99, -1, 99, 99);
        finds(SIZE, "copy", 2, 99, 3, 99, -1);
        finds(SIZE, "copy", 0, 99, 1, 99, -1);
        finds(NOTHING, "copy", 2, 99, 0, 99, 1);
        finds(NOTHING, "copy", 0, 99, 2, 99, 1);
        finds(NOTHING, "lay", 2, 99, 0);
        finds(NOTHING, "at", 2, -1);
        bad("text", -1, -1);
        bad("text", 4, -1);
        bad("put", 4, -1, 0);
        finds(NOTHING, "put", 2, -1, 0);
        finds(NOTHING, "put", 2, 90, 0);
        bad("node", 1, 0, 9);
        bad("node", 0xE, 1, 5);
        bad("mark", 0xE, 1, 5);
        bad("mark", 16, 1, 4);
        none("mark", 0xE, 1, 4);
        finds(UNLIKE, "mark", 0, 0, 4);
    }

    private static void orderOfDeedRefusals() {
        says("BAD, FULL, STATE: but of take() and strip() FULL is last");
        in(Bounds::spent);
        bad("enter", 0x1, 1, 1000);
        bad("enter", 16, 1, 0);
        full("enter", 0x1, 1, 0);
        bad("take", 16, 1);
        notNow("take", 0xB, 1);
        full("take", 0x1, 1);
        bad("strip", 16, 1);
        notNow("strip", 0xB, 1);
        full("strip", 0x1, 1);
        bad("lots", 21, 1);
        bad("lots", 1, 0);
        full("lots", 1, 1);
        bad("undo", 41);
        in(Bounds::crowded);
        bad("enter", 0xFFF, 3, -1);
        full("enter", 0xFFF, 3, 0);
        notNow("take", 0xFFF, 3);
        in(Bounds::crowdedAndSpent);
        full("enter", 0xFFF, 3, 0);
        notNow("take", 0xFFF, 3);
        notNow("strip", 0xFFF, 3);
    }

    private static void findingsByNumber() {
        says("FINDINGS: 1 NOTHING, 2 BEYOND, 3 UNLIKE, 4 NOUGHT, 5 SIZE");
        in(Bounds::busy);
        finds(1, "at", 2, 0);
        finds(1, "fault", 2);
        finds(1, "on", 1);
        finds(2, "at", 0, 3);
        finds(3, "mark", 0, 0, 3);
        finds(4, "mean", 1);
        finds(5, "row", 0, -1);
        finds(5, "text", 0, -1);
    }

    private static void shelvesOfRows() {
        says("ROWS 0 .. 5 are rows of 0 to 40 ints");
        in(x -> { });
        for (int r = 0; r <= 5; r++) {
            for (int n : new int[] {0, 1, 39, 40}) answers(n, "row", r, n);
            bad("row", r, 41);
            bad("row", r, MOST);
            finds(SIZE, "row", r, -1);
            finds(NOTHING, "at", r, 0);
        }
        for (int r : new int[] {-1, 6, MOST, LEAST}) {
            bad("row", r, 0);
            bad("lay", r, 0, 0);
            bad("at", r, 0);
            bad("tear", r);
            bad("mean", r);
            bad("copy", r, 0, 0, 0, 0);
            bad("copy", 0, 0, r, 0, 0);
        }
    }

    private static void shelvesOfTexts() {
        says("TEXTS 0 .. 3 rows of 0 to 90 bytes");
        in(x -> { });
        for (int t = 0; t <= 3; t++) {
            for (int n : new int[] {0, 1, 89, 90}) answers(n, "text", t, n);
            bad("text", t, 91);
            bad("text", t, MOST);
            finds(SIZE, "text", t, -1);
            finds(NOTHING, "put", t, 0, 0);
        }
        for (int t : new int[] {-1, 4, MOST, LEAST}) {
            bad("text", t, 0);
            bad("put", t, 0, 0);
            bad("fault", t);
            bad("index", t);
        }
    }

    private static void missingAtFirst() {
        says("or missing (at first)");
        in(x -> { });
        for (int r = 0; r <= 5; r++) finds(NOTHING, "tear", r);
        for (int t = 0; t <= 3; t++) finds(NOTHING, "index", t);
        for (int k = 0; k <= 2; k++) finds(NOTHING, "on", k);
        answers(0, "count", 10);
        answers(0, "count", 11);
        answers(0, "count", 12);
    }

    private static void wordLengths() {
        says("WORDS are of 1 to 6 FIGURES");
        for (Consumer<NibbleTrunk> past : STATES) {
            in(past);
            for (int n : new int[] {0, -1, 7, 8, 32, 33, MOST, LEAST}) {
                for (String call : WORD_CALLS) bad(call, 0, n);
                bad("enter", 0, n, 0);
                bad("between", 0, n, 0xF, 1);
                bad("between", 0, 1, 0xF, n);
            }
        }
        in(x -> { });
        for (int n = 1; n <= 6; n++) {
            answers(NONE, "enter", 0, n, 0);
            answers(NONE, "find", 0, n);
            none("longest", 0, n);
            none("next", 0, n);
            answersAndTells(0, 0, "rank", 0, n);
            answersAndTells(0, 0, "between", 0, n, 0, n);
            notNow("take", 0, n);
            notNow("strip", 0, n);
        }
    }

    private static void wordFigures() {
        says("v is 0 .., less than 16 to the power of n");
        for (int n = 1; n <= 6; n++) {
            int length = n;
            int last = power(n) - 1;
            in(Bounds::busy);
            for (int v : new int[] {-1, last + 1, MOST, LEAST}) {
                for (String call : WORD_CALLS) bad(call, v, n);
                bad("enter", v, n, 0);
                bad("between", v, n, 0xF, 1);
                bad("between", 0, 1, v, n);
                bad("node", v, n, 0);
                bad("mark", v, n, 1);
            }
            for (int v : new int[] {0, 1, last - 1, last}) {
                in(x -> { });
                answers(NONE, "enter", v, n, 8);
                in(x -> x.enter(v, length, 8));
                answers(8, "enter", v, n, 9);
                answers(8, "take", v, n);
                answers(1, "strip", v, n);
                answers(8, "find", v, n);
                answersAndTells(n, 8, "longest", v, n);
                none("next", v, n);
                answersAndTells(v, n, "nth", 0);
                answersAndTells(0, 1, "rank", v, n);
                answersAndTells(1, 8, "between", v, n, v, n);
            }
        }
    }

    private static void pathsOfNoFigures() {
        says("or that of no FIGURES, told by v 0, n 0");
        in(of("1=0;2=0;"));
        answersAndTells(1, 1, "node", 0, 0, 0);
        answers(1, "mark", 0, 0, 1);
        for (int v : new int[] {1, -1, MOST, LEAST}) {
            bad("node", v, 0, 0);
            bad("mark", v, 0, 1);
        }
        for (int n : new int[] {-1, 7, 8, 32, MOST, LEAST}) {
            bad("node", 0, n, 0);
            bad("mark", 0, n, 1);
        }
        none("node", 0, 6, 0);
        none("mark", 0, 6, 1);
    }

    private static void order() {
        says("WORDS are in ORDER by the first FIGURE in which they are unlike; one that is the head of another one is ahead of it");
        in(of("f=1;ffffff=2;0=3;000000=4;00=5;1=6;0f=7;10=8;e=9;"));
        int[][] ordered = {{0, 1}, {0, 2}, {0, 6}, {0x0F, 2}, {1, 1}, {0x10, 2}, {0xE, 1}, {0xF, 1}, {0xFFFFFF, 6}};
        for (int k = 0; k < ordered.length; k++) {
            int v = ordered[k][0], n = ordered[k][1];
            answersAndTells(v, n, "nth", k);
            answers(k, "rank", v, n);
            answers(k + 1, "between", 0, 1, v, n);
            answers(ordered.length - k, "between", v, n, 0xFFFFFF, 6);
            if (k + 1 < ordered.length) answersAndTells(ordered[k + 1][0], ordered[k + 1][1], "next", v, n);
            else none("next", v, n);
        }
    }

    private static void values() {
        says("KEYS are WORDS with a VALUE (0 .. 999)");
        in(Bounds::busy);
        for (int value : new int[] {0, 1, 998, 999}) {
            NibbleTrunk x = made();
            due(x, 7, "enter", 1, 1, value);
            due(x, value, "find", 1, 1);
            due(x, NONE, "enter", 0xB, 1, value);
            due(x, value, "find", 0xB, 1);
        }
        for (int value : new int[] {-1, 1000, MOST, LEAST}) {
            bad("enter", 1, 1, value);
            bad("enter", 0xB, 1, value);
        }
    }

    private static void keysAtMost() {
        says("48 at most, each once");
        in(x -> {
            crowded(x);
            x.undo(26);
        });
        answers(47, "count", 0);
        answers(NONE, "enter", 0xFFF, 3, 0);
        in(Bounds::crowded);
        answers(48, "count", 0);
        full("enter", 0xFFF, 3, 0);
        full("enter", 0xFFFFFF, 6, 0);
        answers(26, "enter", 26, 3, 5);
        NibbleTrunk x = made();
        due(x, 26, "enter", 26, 3, 5);
        due(x, 48, "count", 0);
        due(x, 5, "take", 26, 3);
        due(x, NONE, "enter", 0xFFF, 3, 0);
        due(x, FULL, "enter", 26, 3, 5);
        due(x, 48, "count", 0);
    }

    private static void faults(int want, String tale) {
        in(x -> {
            busy(x);
            write(x, 2, tale);
        });
        answers(want, "fault", 2);
        if (want != NONE) notNow("index", 2);
    }

    private static void indexes(int keys, String tale) {
        faults(NONE, tale);
        answers(keys, "index", 2);
    }

    private static void blanks() {
        says("blanks (32) ahead, between, behind as many as wanted, none within items");
        indexes(0, "");
        indexes(0, " ");
        indexes(0, " ".repeat(90));
        indexes(2, "1=2;2=3;");
        indexes(2, " 1=2; 2=3; ");
        indexes(2, " ".repeat(40) + "1=2;" + " ".repeat(22) + "2=3;" + " ".repeat(20));
        indexes(1, " ".repeat(86) + "1=2;");
        indexes(1, "1=2;" + " ".repeat(86));
        faults(2, "12 3=2;");
        faults(1, "1 =2;");
        faults(2, "1= 2;");
        faults(3, "1=2 ;");
        faults(3, "1=2 3;");
        faults(3, "1=2 ");
        for (char other : new char[] {0, 9, 10, 31, 33, 95, 160}) {
            faults(0, "" + other);
            faults(4, "1=2;" + other);
            faults(1, " " + other + "1=2;");
        }
    }

    private static void signs() {
        says("a WORD (FIGURES by 0 .. 9, a .. f), = (61), its VALUE (one to three figures), ; (59)");
        for (char c = 0; c < 256; c++) {
            boolean decimal = c >= '0' && c <= '9';
            boolean figure = decimal || c >= 'a' && c <= 'f';
            faults(figure ? NONE : c == ' ' ? 1 : 0, c + "=1;");
            faults(figure ? NONE : c == '=' ? 2 : 1, "1" + c + "=1;");
            faults(c == '=' ? NONE : figure ? 3 : 1, "1" + c + "1;");
            faults(decimal ? NONE : 2, "1=" + c + ";");
            faults(decimal ? NONE : c == ';' ? 4 : 3, "1=1" + c + ";");
            faults(c == ';' ? NONE : decimal ? 4 : 3, "1=1" + c);
        }
        says("its VALUE (one to three figures)");
        String[] told = {"0", "9", "00", "99", "000", "999", "007", "010"};
        for (String value : told) {
            in(of("1=" + value + ";"));
            answers(Integer.parseInt(value), "find", 1, 1);
        }
        says("a WORD (FIGURES by 0 .. 9, a .. f)");
        in(of("0=1;9=2;a=3;f=4;09=5;af=6;fedcba=7;012345=8;6789ab=9;"));
        int[][] words = {{0, 1}, {9, 1}, {10, 1}, {15, 1}, {9, 2}, {0xAF, 2}, {0xFEDCBA, 6}, {0x012345, 6}, {0x6789AB, 6}};
        for (int k = 0; k < words.length; k++) answers(k + 1, "find", words[k][0], words[k][1]);
    }

    private static void faultPlaces() {
        says("A FAULT is the first place at which it can't go on so");
        faults(0, "x=1;y=1;");
        faults(4, "1=1;x;x=");
        faults(2, "1=x;1=1;");
        says("the seventh FIGURE of a WORD: its place");
        indexes(1, "12345=1;");
        indexes(1, "123456=1;");
        faults(6, "1234567=1;");
        faults(6, "12345678=1;");
        faults(6, "0000000=1;");
        faults(6, "fffffff");
        faults(10, "1=1;1234567=1;");
        says("the fourth figure of a VALUE: its place");
        indexes(1, "1=999;");
        faults(5, "1=1000;");
        faults(5, "1=0000;");
        faults(5, "1=00000;");
        faults(5, "1=9999");
        faults(9, "1=1;2=1234;");
        faults(5, "1=999a;");
        faults(5, "1=999 ;");
        says("a sign that is none such: its place");
        faults(0, ";");
        faults(0, "=1;");
        faults(1, "1;");
        faults(2, "1==1;");
        faults(2, "1=;");
        faults(4, "1=1;;");
        faults(4, "1=1;=1;");
        faults(3, "1=1=1;");
        faults(6, "123456;");
    }

    private static void wordsToldAlready() {
        says("a WORD told already: its first place");
        faults(4, "1=2;1=2;");
        faults(6, "1=2;  1=3;");
        faults(8, "1=2;2=2;1=2;");
        faults(8, "1=2;2=2;2=2;");
        faults(9, "123456=1;123456=1;");
        says("also where its = does not follow");
        for (String behind : new String[] {"", " ", "   ", "x", ";", "=", "=x", "=;", "=1", "=1x", "=1234;", "\0"}) {
            faults(4, "1=2;1" + behind);
            faults(9, "123456=1;123456" + behind);
        }
        says("its FIGURES end where another sign follows them, or the TEXT ends");
        faults(6, "1=2;12");
        faults(6, "12=2;1");
        faults(6, "12=2;1x");
        faults(15, "123456=1;1234567");
        indexes(4, "1=2;01=2;10=2;001=2;");
        indexes(6, "1=1;11=1;111=1;1111=1;11111=1;111111=1;");
        indexes(2, "0=1;00=1;");
    }

    private static void endsTooEarly() {
        says("the TEXT's size, if its end comes too early");
        String tale = "1=2;abcdef=345;";
        for (int n = 0; n <= tale.length(); n++) {
            boolean whole = n == 0 || n == 4 || n == tale.length();
            faults(whole ? NONE : n, tale.substring(0, n));
        }
        String blanks = " ".repeat(85);
        faults(86, blanks + "1");
        faults(87, blanks + "1=");
        faults(88, blanks + "1=2");
        indexes(1, blanks + "1=2;");
        faults(90, blanks + "12345");
        faults(90, blanks + "123=1");
        faults(90, blanks + "1=123");
        faults(89, blanks + "1=2;x");
        faults(90, blanks + "1=2;3");
        faults(89, blanks + "1=2;1");
    }

    private static void longTexts() {
        says("48 at most (a TEXT of 90 bytes has room for 21)");
        indexes(21, LONG_TALE);
        indexes(21, LONG_TALE + " ");
        indexes(21, " " + LONG_TALE);
        faults(89, LONG_TALE + "1");
        faults(89, LONG_TALE + "f");
        faults(84, LONG_TALE.substring(0, 84) + "03=0;");
        faults(88, LONG_TALE.substring(0, 88));
        faults(88, LONG_TALE.substring(0, 88) + "x");
    }

    private static void pathsAndNodes() {
        says("A PATH is a WORD behind which KEYS go on with two or more unlike FIGURES, or with one, it being a KEY itself");
        in(x -> { });
        answers(0, "count", 1);
        none("node", 0, 0, 0);
        in(of("123456=1;"));
        answers(0, "count", 1);
        for (int n = 0; n <= 6; n++) none("node", 0x123456 >> 4 * (6 - n), n, 0);
        in(of("123456=1;123457=1;"));
        answers(1, "count", 1);
        for (int n = 0; n <= 6; n++) {
            if (n == 5) answersAndTells(1, 2, "node", 0x12345, 5, 4);
            else none("node", 0x123456 >> 4 * (6 - n), n, 0);
        }
        in(of("1=1;12=1;"));
        answers(1, "count", 1);
        none("node", 0, 0, 0);
        answersAndTells(1, 1 << 2, "node", 1, 1, 1);
        none("node", 0x12, 2, 0);
        in(of("1=1;123456=1;"));
        answers(1, "count", 1);
        answersAndTells(1, 2, "node", 1, 1, 4);
        none("node", 0x12, 2, 0);
        none("node", 0x12345, 5, 0);
        in(of("1=1;2=1;"));
        answers(1, "count", 1);
        answersAndTells(1, 2, "node", 0, 0, 4);
        none("node", 1, 1, 0);
        in(of("1=1;11=1;111=1;1111=1;11111=1;111111=1;"));
        answers(5, "count", 1);
        answers(5, "count", 7);
        in(of("0=1;1=1;11=1;111=1;1111=1;11111=1;111111=1;"));
        answers(6, "count", 1);
        answers(6, "count", 7);
        for (int n = 0; n <= 5; n++) answersAndTells(1, n == 0 ? 7 : 7 - n, "node", 0x11111 >> 4 * (5 - n), n, 4);
    }

    private static void prefixes() {
        says("its PREFIX are the FIGURES of its PATH behind those of its PARENT's and one more (all, if it has none)");
        in(of("123456=1;123457=1;"));
        answersAndTells(1, 5, "node", 0x12345, 5, 2);
        answers(5, "count", 8);
        in(of("123456=1;123457=1;0=0;"));
        answersAndTells(1, 0, "node", 0, 0, 2);
        answersAndTells(1, 4, "node", 0x12345, 5, 2);
        in(of("123456=1;123457=1;0=0;1=1;"));
        answersAndTells(1, 0, "node", 1, 1, 2);
        answersAndTells(1, 3, "node", 0x12345, 5, 2);
        in(of("123456=1;123457=1;0=0;1=1;1234=1;"));
        answersAndTells(1, 2, "node", 0x1234, 4, 2);
        answersAndTells(1, 0, "node", 0x12345, 5, 2);
        answers(2, "count", 8);
        in(of("1=1;12=1;"));
        answersAndTells(1, 1, "node", 1, 1, 2);
    }

    /** A node of the path 7 with so many children, the figures from 0 on. */
    private static Consumer<NibbleTrunk> wide(int children) {
        return x -> {
            for (int f = 0; f < children; f++) x.enter(0x70 + f, 2, f);
        };
    }

    private static int placesFor(int children) {
        return children < 3 ? 2 : children < 5 ? 4 : children < 9 ? 8 : 16;
    }

    private static void placesByChildren() {
        says("A NODE has PLACES: 2, 4, 8 or 16, the least so many as it has CHILDREN or more");
        for (int children = 2; children <= 16; children++) {
            in(wide(children));
            answers(placesFor(children), "count", 6);
            answersAndTells(1, (1 << children) - 1, "node", 7, 1, 1);
            answersAndTells(1, children, "node", 7, 1, 4);
        }
        in(of("7=0;70=0;"));
        answers(2, "count", 6);
        in(of("7=0;70=0;71=0;"));
        answers(2, "count", 6);
        in(of("7=0;70=0;71=0;72=0;73=0;"));
        answers(4, "count", 6);
        in(of("7=0;70=0;71=0;72=0;73=0;74=0;75=0;76=0;77=0;"));
        answers(8, "count", 6);
    }

    private static void sizesByNumber() {
        says("1 SMALL (2 PLACES), 2 ROWED (4), 3 TABLED (8), 4 WHOLE (16)");
        for (int children = 2; children <= 16; children++) {
            in(wide(children));
            int size = children < 3 ? 1 : children < 5 ? 2 : children < 9 ? 3 : 4;
            answersAndTells(1, size, "node", 7, 1, 0);
            for (int s = 1; s <= 4; s++) answers(s == size ? 1 : 0, "count", s + 1);
        }
    }

    private static void deedsAtMost() {
        says("These are DEEDS (40 at most)");
        in(x -> {
            spent(x);
            x.undo(39);
        });
        answers(39, "count", 9);
        answers(7, "enter", 1, 1, 0);
        answers(7, "take", 1, 1);
        answers(2, "strip", 1, 1);
        answers(9, "lots", 1, seedFor(4));
        in(Bounds::spent);
        answers(40, "count", 9);
        full("enter", 1, 1, 0);
        full("enter", 1, 1, 7);
        full("take", 1, 1);
        full("strip", 1, 1);
        full("lots", 1, 1);
        NibbleTrunk x = made();
        due(x, 1, "undo", 39);
        due(x, 7, "enter", 1, 1, 0);
        due(x, FULL, "enter", 1, 1, 0);
        due(x, 40, "count", 9);
    }

    private static void changes(NibbleTrunk x, int come, int gone, int grown, int shrunk) {
        int[] want = {come, gone, grown, shrunk};
        for (int what = 0; what < 4; what++) due(x, want[what], "change", what);
    }

    private static void comeAndGone() {
        says("a NODE has COME, if its PATH was none ahead of it, has GONE, if it is none any more");
        in(x -> { });
        NibbleTrunk x = made();
        due(x, NONE, "enter", 0x123456, 6, 1);
        changes(x, 0, 0, 0, 0);
        due(x, NONE, "enter", 0x123457, 6, 1);
        changes(x, 1, 0, 0, 0);
        due(x, NONE, "enter", 0x1234, 4, 1);
        changes(x, 1, 0, 0, 0);
        due(x, NONE, "enter", 0x12345, 5, 1);
        changes(x, 0, 0, 0, 0);
        due(x, 1, "take", 0x123456, 6);
        changes(x, 0, 0, 0, 0);
        due(x, 1, "take", 0x12345, 5);
        changes(x, 0, 1, 0, 0);
        due(x, 1, "enter", 0x1234, 4, 2);
        changes(x, 0, 0, 0, 0);
        due(x, NONE, "enter", 0xF, 1, 2);
        changes(x, 1, 0, 0, 0);
        due(x, NONE, "enter", 0x2, 1, 2);
        changes(x, 0, 0, 1, 0);
        due(x, 2, "strip", 1, 1);
        changes(x, 0, 1, 0, 1);
        due(x, 2, "take", 2, 1);
        changes(x, 0, 1, 0, 0);
        due(x, 1, "strip", 0xF, 1);
        changes(x, 0, 0, 0, 0);
        in(of("1=1;11=1;111=1;1111=1;11111=1;111111=1;"));
        x = made();
        due(x, 6, "strip", 1, 1);
        changes(x, 0, 5, 0, 0);
    }

    private static void grownAndShrunk() {
        says("has GROWN, has SHRUNK, if it has more, fewer PLACES than ahead");
        in(x -> { });
        NibbleTrunk x = made();
        for (int f = 0; f < 16; f++) {
            due(x, NONE, "enter", 0x70 + f, 2, f);
            int grown = f + 1 == 3 || f + 1 == 5 || f + 1 == 9 ? 1 : 0;
            changes(x, f + 1 == 2 ? 1 : 0, 0, grown, 0);
        }
        for (int f = 15; f >= 0; f--) {
            due(x, f, "take", 0x70 + f, 2);
            int shrunk = f == 8 || f == 4 || f == 2 ? 1 : 0;
            changes(x, 0, f == 1 ? 1 : 0, 0, shrunk);
        }
        in(of("71=0;72=0;731=0;732=0;733=0;"));
        x = made();
        due(x, 3, "strip", 0x73, 2);
        changes(x, 0, 1, 0, 1);
        in(of("71=0;72=0;731=0;732=0;733=0;"));
        x = made();
        due(x, 0, "take", 0x732, 3);
        changes(x, 0, 0, 0, 1);
    }

    private static void lately() {
        says("LATELY are the 6 unlike WORDS for which find() was asked last (each at its latest turn)");
        in(x -> { });
        NibbleTrunk x = made();
        for (int v = 0; v < 6; v++) {
            due(x, v, "count", 13);
            due(x, NONE, "find", v, 1);
            tells(x, v, 1, "lately", 0);
        }
        due(x, 6, "count", 13);
        tells(x, 0, 1, "lately", 5);
        due(x, NONE, "find", 6, 1);
        due(x, 6, "count", 13);
        tells(x, 1, 1, "lately", 5);
        due(x, NONE, "find", 1, 1);
        int[] want = {1, 6, 5, 4, 3, 2};
        for (int k = 0; k < 6; k++) tells(x, want[k], 1, "lately", k);
        due(x, NONE, "find", 1, 2);
        tells(x, 1, 2, "lately", 0);
        tells(x, 1, 1, "lately", 1);
        tells(x, 3, 1, "lately", 5);
        says("a new INDEX empties it, nothing else does");
        in(Bounds::busy);
        for (String call : new String[] {"tear", "on", "keep", "undo", "count", "mean", "fault"}) {
            x = made();
            ask(x, call, 0);
            due(x, 2, "count", 13);
        }
        x = made();
        due(x, STATE, "index", 1);
        due(x, 2, "count", 13);
        due(x, FINDING, "index", 2);
        due(x, 2, "count", 13);
        due(x, 2, "strip", 1, 1);
        due(x, 2, "count", 13);
        ask(x, "lots", 20, 7);
        due(x, 2, "count", 13);
        due(x, 0, "index", 3);
        due(x, 0, "count", 13);
        due(x, NONE, "lately", 0);
    }
}
