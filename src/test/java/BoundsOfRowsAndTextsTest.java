/** The boundary cases of promises 1 to 11: rows, texts, indexes. */
public final class BoundsOfRowsAndTextsTest extends Bounds {
    public static void main(String[] args) {
        newObject();
        row();
        lay();
        at();
        tear();
        copyRefused();
        copyOfNone();
        copyOfMost();
        copyOntoItself();
        mean();
        meanCut();
        text();
        put();
        putCut();
        fault();
        indexRefused();
        indexAnew();
        end();
    }

    private static void newObject() {
        says("1: No ROWS, TEXTS, KEYS");
        in(x -> { });
        for (int what = 0; what <= 13; what++) answers(0, "count", what);
        for (int r = 0; r <= 5; r++) finds(NOTHING, "mean", r);
        for (int t = 0; t <= 3; t++) finds(NOTHING, "fault", t);
        bad("nth", 0);
        notNow("best");
        none("next", 0, 1);
        answers(0, "undo", 0);
        bad("undo", 1);
    }

    private static void row() {
        says("2: A ROW is there with n ints 0: n");
        in(Bounds::busy);
        for (int r = 0; r <= 5; r++) {
            for (int n : new int[] {0, 1, 3, 39, 40}) {
                NibbleTrunk x = made();
                due(x, n, "row", r, n);
                for (int i = 0; i < n; i++) tells(x, 1, 0, "at", r, i);
                due(x, FINDING, "at", r, n);
                due(x, BEYOND, "finding");
            }
        }
        says("2: BAD: also n above 40");
        bad("row", 0, 41);
        bad("row", 2, 41);
        bad("row", 5, MOST);
        bad("row", -1, 3);
        bad("row", 6, 3);
        bad("row", 6, 41);
        bad("row", MOST, 0);
        bad("row", LEAST, 0);
        says("2: SIZE: below 0");
        finds(SIZE, "row", 0, -1);
        finds(SIZE, "row", 2, -1);
        finds(SIZE, "row", 5, LEAST);
        bad("row", 6, LEAST);
    }

    private static void lay() {
        says("3: Place i of a ROW is v: what it was, told by asked(): 1");
        in(Bounds::busy);
        for (int v : new int[] {0, -1, MOST, LEAST}) {
            NibbleTrunk x = made();
            tells(x, 1, 5, "lay", 0, 0, v);
            tells(x, 1, v, "lay", 0, 0, 5);
            tells(x, 1, 9, "lay", 0, 2, v);
            tells(x, 1, v, "at", 0, 2);
            tells(x, 1, 77, "lay", 5, 39, v);
            tells(x, 1, v, "at", 5, 39);
            tells(x, 1, 0, "at", 5, 38);
        }
        says("3: BAD; NOTHING; BEYOND");
        bad("lay", -1, 0, 1);
        bad("lay", 6, 0, 1);
        finds(NOTHING, "lay", 2, 0, 1);
        finds(NOTHING, "lay", 4, -1, 1);
        for (int i : new int[] {-1, 3, 40, MOST, LEAST}) finds(BEYOND, "lay", 0, i, 1);
        for (int i : new int[] {-1, 0, 1}) finds(BEYOND, "lay", 1, i, 1);
        for (int i : new int[] {-1, 40, 41}) finds(BEYOND, "lay", 5, i, 1);
    }

    private static void at() {
        says("4: Place i of a ROW, told by asked(): 1");
        in(Bounds::busy);
        answersAndTells(1, 5, "at", 0, 0);
        answersAndTells(1, 9, "at", 0, 2);
        answersAndTells(1, 0, "at", 5, 0);
        answersAndTells(1, 77, "at", 5, 39);
        says("4: BAD; NOTHING; BEYOND");
        bad("at", -1, 0);
        bad("at", 6, 0);
        finds(NOTHING, "at", 2, 0);
        finds(NOTHING, "at", 3, 40);
        for (int i : new int[] {-1, 3, 40, MOST, LEAST}) finds(BEYOND, "at", 0, i);
        for (int i : new int[] {-1, 0, 1}) finds(BEYOND, "at", 1, i);
        for (int i : new int[] {-1, 40, 41}) finds(BEYOND, "at", 5, i);
    }

    private static void tear() {
        says("5: A ROW is missing: 1");
        in(Bounds::busy);
        for (int r : new int[] {0, 1, 5}) {
            NibbleTrunk x = made();
            due(x, 1, "tear", r);
            due(x, 2, "count", 10);
            due(x, FINDING, "tear", r);
            due(x, NOTHING, "finding");
            due(x, FINDING, "mean", r);
            due(x, NOTHING, "finding");
            due(x, 1, "row", r, 1);
            tells(x, 1, 0, "at", r, 0);
        }
        says("5: BAD; NOTHING");
        for (int r : new int[] {-1, 6, MOST, LEAST}) bad("tear", r);
        for (int r : new int[] {2, 3, 4}) finds(NOTHING, "tear", r);
    }

    private static void copyRefused() {
        says("6: BAD; SIZE: n below 0; NOTHING: either; BEYOND: not so many there");
        in(Bounds::busy);
        for (int r : new int[] {-1, 6, MOST, LEAST}) {
            bad("copy", r, 0, 0, 0, 1);
            bad("copy", 0, 0, r, 0, 1);
        }
        for (int n : new int[] {-1, -2, LEAST}) {
            finds(SIZE, "copy", 0, 0, 5, 0, n);
            finds(SIZE, "copy", 0, 0, 0, 0, n);
        }
        for (int n : new int[] {0, 1, 41}) {
            finds(NOTHING, "copy", 0, 0, 2, 0, n);
            finds(NOTHING, "copy", 2, 0, 0, 0, n);
            finds(NOTHING, "copy", 2, 0, 2, 0, n);
        }
        finds(BEYOND, "copy", 0, 0, 5, 0, 4);
        finds(BEYOND, "copy", 0, 1, 5, 0, 3);
        finds(BEYOND, "copy", 0, 3, 5, 0, 1);
        finds(BEYOND, "copy", 0, -1, 5, 0, 1);
        finds(BEYOND, "copy", 5, 0, 0, 0, 4);
        finds(BEYOND, "copy", 5, 0, 0, 1, 3);
        finds(BEYOND, "copy", 5, 0, 0, 3, 1);
        finds(BEYOND, "copy", 5, 0, 0, -1, 1);
        finds(BEYOND, "copy", 0, 0, 1, 0, 1);
        finds(BEYOND, "copy", 1, 0, 0, 0, 1);
        finds(BEYOND, "copy", 5, 0, 5, 0, 41);
        finds(BEYOND, "copy", 5, 0, 5, 0, MOST);
        finds(BEYOND, "copy", 5, 1, 5, 1, MOST);
        finds(BEYOND, "copy", 5, MOST, 5, 0, 1);
        finds(BEYOND, "copy", 5, 0, 5, MOST, 1);
        finds(BEYOND, "copy", 5, MOST, 5, MOST, MOST);
        finds(BEYOND, "copy", 5, LEAST, 5, 0, 1);
        finds(BEYOND, "copy", 5, 0, 5, LEAST, MOST);
    }

    private static void copyOfNone() {
        says("6: n places, none of them");
        in(Bounds::busy);
        long before = made().digest();
        int[][] none = {{0, 0, 5, 0}, {0, 3, 5, 40}, {1, 0, 1, 0}, {1, 0, 0, 3}, {0, 2, 1, 0}};
        for (int[] c : none) {
            NibbleTrunk x = made();
            due(x, 1, "copy", c[0], c[1], c[2], c[3], 0);
            due(x, before, "digest");
            due(x, 77, "asked");
        }
        says("6: BEYOND: (a place that there is not), none of them");
        for (int place : new int[] {-1, 4, MOST, LEAST}) {
            finds(BEYOND, "copy", 0, place, 5, 0, 0);
            finds(BEYOND, "copy", 5, 0, 0, place, 0);
        }
        finds(BEYOND, "copy", 1, 1, 0, 0, 0);
        finds(BEYOND, "copy", 0, 0, 1, 1, 0);
        finds(BEYOND, "copy", 5, 41, 0, 0, 0);
        finds(BEYOND, "copy", 0, 0, 5, 41, 0);
    }

    private static void copyOfMost() {
        says("6: n places of a ROW, from one on, come to those of another one from one on");
        in(x -> {
            x.row(0, 40);
            x.row(5, 40);
            for (int i = 0; i < 40; i++) x.lay(0, i, i + 1);
        });
        NibbleTrunk x = made();
        due(x, 1, "copy", 0, 0, 5, 0, 40);
        for (int i = 0; i < 40; i++) tells(x, 1, i + 1, "at", 5, i);
        x = made();
        due(x, 1, "copy", 0, 39, 5, 0, 1);
        tells(x, 1, 40, "at", 5, 0);
        tells(x, 1, 0, "at", 5, 1);
        x = made();
        due(x, 1, "copy", 0, 0, 5, 39, 1);
        tells(x, 1, 1, "at", 5, 39);
        tells(x, 1, 0, "at", 5, 38);
        due(x, FINDING, "copy", 0, 1, 5, 0, 40);
        due(x, FINDING, "copy", 0, 0, 5, 1, 40);
        due(x, 1, "copy", 0, 1, 5, 1, 39);
        tells(x, 1, 0, "at", 5, 0);
        tells(x, 1, 2, "at", 5, 1);
        tells(x, 1, 40, "at", 5, 39);
    }

    private static void copyOntoItself() {
        says("6: (perhaps itself), as if taken ahead");
        in(x -> {
            x.row(3, 5);
            for (int i = 0; i < 5; i++) x.lay(3, i, i);
        });
        int[][] runs = {{0, 1, 4}, {1, 0, 4}, {0, 2, 3}, {2, 0, 3}, {0, 0, 5}, {4, 0, 1}};
        int[][] want = {{0, 0, 1, 2, 3}, {1, 2, 3, 4, 4}, {0, 1, 0, 1, 2}, {2, 3, 4, 3, 4}, {0, 1, 2, 3, 4}, {4, 1, 2, 3, 4}};
        for (int k = 0; k < runs.length; k++) {
            NibbleTrunk x = made();
            due(x, 1, "copy", 3, runs[k][0], 3, runs[k][1], runs[k][2]);
            for (int i = 0; i < 5; i++) tells(x, 1, want[k][i], "at", 3, i);
        }
    }

    private static void mean() {
        says("7: BAD; NOTHING; NOUGHT");
        in(Bounds::busy);
        for (int r : new int[] {-1, 6, MOST, LEAST}) bad("mean", r);
        for (int r : new int[] {2, 3, 4}) finds(NOTHING, "mean", r);
        finds(NOUGHT, "mean", 1);
        in(x -> {
            x.row(0, 2);
            x.lay(0, 0, 4);
            x.row(0, 0);
        });
        finds(NOUGHT, "mean", 0);
    }

    private static void means(int want, int... ints) {
        in(x -> {
            x.row(0, ints.length);
            for (int i = 0; i < ints.length; i++) x.lay(0, i, ints[i]);
        });
        answersAndTells(1, want, "mean", 0);
    }

    private static void meanCut() {
        says("7: The mean of a ROW's ints, cut");
        means(0, 0);
        means(-7, -7);
        means(MOST, MOST);
        means(LEAST, LEAST);
        means(0, 1, 0);
        means(0, -1, 0);
        means(1, 3, 0);
        means(-1, -3, 0);
        means(-1, -5, 0, 0);
        means(0, MOST, LEAST);
        means(MOST, MOST, MOST);
        means(LEAST, LEAST, LEAST);
        means(MOST - 1, MOST, MOST, MOST - 1);
        means(LEAST + 1, LEAST, LEAST, LEAST + 1);
        int[] most = new int[40];
        java.util.Arrays.fill(most, MOST);
        means(MOST, most);
        java.util.Arrays.fill(most, LEAST);
        means(LEAST, most);
        int[] one = new int[40];
        one[39] = 39;
        means(0, one);
        one[39] = 40;
        means(1, one);
        one[39] = -39;
        means(0, one);
        one[39] = -40;
        means(-1, one);
    }

    private static void text() {
        says("8: A TEXT is there with n blanks: n");
        in(Bounds::busy);
        for (int t = 0; t <= 3; t++) {
            for (int n : new int[] {0, 1, 89, 90}) {
                NibbleTrunk x = made();
                due(x, n, "text", t, n);
                due(x, NONE, "fault", t);
                for (int i = 0; i < n; i++) due(x, 1032, "put", t, i, 'x');
                due(x, FINDING, "put", t, n, 'x');
                due(x, BEYOND, "finding");
            }
        }
        says("8: BAD: also n above 90");
        bad("text", 0, 91);
        bad("text", 2, 91);
        bad("text", 3, MOST);
        for (int t : new int[] {-1, 4, MOST, LEAST}) bad("text", t, 90);
        bad("text", 4, 91);
        says("8: SIZE: below 0");
        finds(SIZE, "text", 0, -1);
        finds(SIZE, "text", 2, -1);
        finds(SIZE, "text", 3, LEAST);
        bad("text", 4, LEAST);
    }

    private static void put() {
        says("9: BAD; NOTHING; BEYOND");
        in(x -> {
            busy(x);
            x.text(3, 90);
        });
        for (int t : new int[] {-1, 4, MOST, LEAST}) bad("put", t, 0, 'x');
        for (int i : new int[] {0, -1, 90}) finds(NOTHING, "put", 2, i, 'x');
        for (int i : new int[] {-1, 5, 90, MOST, LEAST}) finds(BEYOND, "put", 1, i, 'x');
        for (int i : new int[] {-1, 90, 91}) finds(BEYOND, "put", 3, i, 'x');
        answers(1000 + '1', "put", 1, 0, 'x');
        answers(1000 + ';', "put", 1, 4, 'x');
        answers(1032, "put", 3, 0, 'x');
        answers(1032, "put", 3, 89, 'x');
        in(Bounds::busy);
        for (int i : new int[] {-1, 0, 1}) finds(BEYOND, "put", 3, i, 'x');
    }

    private static void putCut() {
        says("9: Byte i of a TEXT is v, cut to a byte: what it was, and 1000 more");
        in(x -> x.text(0, 2));
        int[][] cut = {{0, 0}, {1, 1}, {127, 127}, {128, -128}, {129, -127}, {255, -1}, {256, 0}, {257, 1}, {383, 127},
            {384, -128}, {-1, -1}, {-128, -128}, {-129, 127}, {-256, 0}, {MOST, -1}, {LEAST, 0}, {256 + '1', '1'}};
        for (int[] c : cut) {
            NibbleTrunk x = made();
            due(x, 1032, "put", 0, 1, c[0]);
            due(x, 1000 + c[1], "put", 0, 1, 0);
            due(x, 1000, "put", 0, 1, 0);
            due(x, 1032, "put", 0, 0, 0);
            due(x, 0, "asked");
        }
        says("9: cut to a byte, as a sign of an INDEX");
        NibbleTrunk x = made();
        x.text(0, 4);
        int[] signs = {256 + '1', '=' - 256, 512 + '7', ';' + (1 << 30)};
        for (int i = 0; i < 4; i++) due(x, 1032, "put", 0, i, signs[i]);
        due(x, NONE, "fault", 0);
        due(x, 1, "index", 0);
        due(x, 7, "find", 1, 1);
        x.put(0, 0, '1' + 128);
        due(x, 0, "fault", 0);
    }

    private static void fault() {
        says("10: A FAULT of a TEXT; NONE: there is none");
        in(Bounds::busy);
        none("fault", 0);
        none("fault", 3);
        long before = made().digest();
        NibbleTrunk x = made();
        due(x, 4, "fault", 1);
        due(x, 4, "fault", 1);
        due(x, before, "digest");
        due(x, 77, "asked");
        says("10: BAD; NOTHING");
        for (int t : new int[] {-1, 4, MOST, LEAST}) bad("fault", t);
        finds(NOTHING, "fault", 2);
    }

    private static void indexRefused() {
        says("11: BAD; NOTHING; STATE: a FAULT. (STATE behind NOTHING.)");
        in(Bounds::busy);
        for (int t : new int[] {-1, 4, MOST, LEAST}) bad("index", t);
        finds(NOTHING, "index", 2);
        notNow("index", 1);
        for (String tale : new String[] {"x", "1", "1=", "1=2", "1=2;1=2;", "1=2;3=4;5", "1=2;3=4;5=6;x"}) {
            in(x -> {
                busy(x);
                write(x, 2, tale);
            });
            notNow("index", 2);
        }
        in(x -> {
            crowdedAndSpent(x);
            x.text(1, 1);
            x.put(1, 0, 'x');
        });
        notNow("index", 1);
    }

    private static void indexAnew() {
        says("11: anew: no DEEDS; kept INDEXES go, LATELY is empty; blanks alone: no KEYS");
        String[] tales = {"", " ", "9=1;", "1=7;12=5;123=9;2a=1;2b=2;f0012=3;", LONG_TALE};
        int[] keys = {0, 0, 1, 6, 21};
        for (int k = 0; k < tales.length; k++) {
            String tale = tales[k];
            for (boolean full : new boolean[] {false, true}) {
                in(x -> {
                    if (full) crowdedAndSpent(x);
                    else busy(x);
                    x.find(1, 1);
                    write(x, 2, tale);
                });
                NibbleTrunk x = made();
                int told = x.asked();
                due(x, keys[k], "index", 2);
                due(x, keys[k], "count", 0);
                due(x, 0, "count", 9);
                due(x, 0, "count", 12);
                due(x, 0, "count", 13);
                due(x, told, "asked");
                for (int what = 0; what < 4; what++) due(x, 0, "change", what);
                for (int kept = 0; kept < 3; kept++) due(x, FINDING, "on", kept);
                due(x, BAD, "undo", 1);
                due(x, 0, "undo", 0);
                due(x, keys[k], "count", 0);
                due(x, NONE, "lately", 0);
                due(x, keys[k], "index", 2);
            }
        }
        says("11: rows and texts stay");
        in(Bounds::busy);
        NibbleTrunk x = made();
        due(x, 0, "index", 3);
        due(x, 3, "count", 10);
        due(x, 3, "count", 11);
        due(x, NONE, "fault", 0);
        due(x, 6, "index", 0);
    }
}
