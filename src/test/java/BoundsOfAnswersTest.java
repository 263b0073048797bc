import java.util.function.Consumer;

/** The boundary cases of promises 19 to 29 and 31 to 35: words, nodes, what is told. */
public final class BoundsOfAnswersTest extends Bounds {
    private static final int[][] NO_WORDS = {{0, 0}, {0, 7}, {0, -1}, {-1, 1}, {16, 1}, {1 << 24, 6}, {MOST, 6}};

    public static void main(String[] args) {
        find();
        longest();
        next();
        nth();
        rank();
        between();
        betweenMost();
        node();
        nodeWithout();
        markOfEachSize();
        markRefused();
        twinsFewest();
        twinsAlike();
        bestWithout();
        bestFirst();
        bestPlaces();
        fewerThanBefore();
        lately();
        askedBefore();
        askedStays();
        count();
        countMost();
        findingBefore();
        findings();
        digestOfNew();
        digestOfAll();
        used512Times();
        end();
    }

    private static void find() {
        says("19: The VALUE of a KEY; how many NODES have a PATH with which it begins (it, too) by asked()");
        in(of("1=0;11=1;111=2;1111=3;11111=4;111111=999;"));
        for (int n = 1; n <= 6; n++) answersAndTells(n == 6 ? 999 : n - 1, Math.min(n, 5), "find", 0x111111 >> 4 * (6 - n), n);
        in(of("1=0;11=1;111=2;1111=3;11111=4;111111=999;0=7;"));
        for (int n = 1; n <= 6; n++) answersAndTells(n == 6 ? 999 : n - 1, Math.min(n, 5) + 1, "find", 0x111111 >> 4 * (6 - n), n);
        answersAndTells(7, 1, "find", 0, 1);
        says("19: NONE: it is no KEY (asked() likewise told)");
        answersAndTells(NONE, 1, "find", 0xF, 1);
        answersAndTells(NONE, 3, "find", 0x112, 3);
        answersAndTells(NONE, 6, "find", 0x111110, 6);
        in(of("12=0;13=0;"));
        answersAndTells(NONE, 1, "find", 1, 1);
        answersAndTells(NONE, 1, "find", 0x14, 2);
        answersAndTells(NONE, 1, "find", 0x123456, 6);
        answersAndTells(NONE, 0, "find", 2, 1);
        in(x -> { });
        answersAndTells(NONE, 0, "find", 0, 1);
        answersAndTells(NONE, 0, "find", 0xFFFFFF, 6);
        in(of("5=999;"));
        answersAndTells(999, 0, "find", 5, 1);
        says("19: BAD");
        in(Bounds::busy);
        for (int[] b : NO_WORDS) bad("find", b);
    }

    private static void longest() {
        says("20: How many FIGURES the longest KEY has with which a WORD begins (it, too)");
        in(of("1=0;123=5;123456=999;f=1;"));
        answersAndTells(1, 0, "longest", 1, 1);
        answersAndTells(1, 0, "longest", 0x12, 2);
        answersAndTells(3, 5, "longest", 0x123, 3);
        answersAndTells(3, 5, "longest", 0x12345, 5);
        answersAndTells(6, 999, "longest", 0x123456, 6);
        answersAndTells(3, 5, "longest", 0x123457, 6);
        answersAndTells(1, 1, "longest", 0xFFFFFF, 6);
        says("20: NONE: there is none. BAD");
        in(x -> {
            of("12=5;123456=9;").accept(x);
            x.find(0x123456, 6);
        });
        none("longest", 1, 1);
        none("longest", 0x13, 2);
        none("longest", 0, 6);
        for (int[] b : NO_WORDS) bad("longest", b);
        in(x -> { });
        none("longest", 0, 1);
    }

    private static void next() {
        says("21: v of the first KEY behind a WORD in ORDER; its n by asked()");
        in(of("0=1;00=2;000000=3;0f=4;1=5;ffffff=6;"));
        answersAndTells(0, 2, "next", 0, 1);
        answersAndTells(0, 6, "next", 0, 2);
        answersAndTells(0, 6, "next", 0, 5);
        answersAndTells(0x0F, 2, "next", 0, 6);
        answersAndTells(0x0F, 2, "next", 0x00FFFF, 6);
        answersAndTells(1, 1, "next", 0x0F, 2);
        answersAndTells(1, 1, "next", 0x0FFFFF, 6);
        answersAndTells(0xFFFFFF, 6, "next", 1, 1);
        answersAndTells(0xFFFFFF, 6, "next", 0xF, 1);
        answersAndTells(0xFFFFFF, 6, "next", 0xFFFFFE, 6);
        says("21: NONE: there is none. BAD");
        none("next", 0xFFFFFF, 6);
        for (int[] b : NO_WORDS) bad("next", b);
        in(of("0=1;e=1;"));
        none("next", 0xE, 1);
        none("next", 0xE0, 2);
        none("next", 0xF, 1);
        in(x -> { });
        none("next", 0, 1);
    }

    private static void nth() {
        says("22: v of KEY k in ORDER (0 the first); its n by asked(). BAD");
        in(of("f=1;000000=2;"));
        answersAndTells(0, 6, "nth", 0);
        answersAndTells(0xF, 1, "nth", 1);
        for (int k : new int[] {-1, 2, 3, 47, 48, MOST, LEAST}) bad("nth", k);
        in(x -> { });
        for (int k : new int[] {-1, 0, 1}) bad("nth", k);
        in(Bounds::crowded);
        answersAndTells(0, 1, "nth", 0);
        answersAndTells(0xE, 1, "nth", 46);
        answersAndTells(0xF, 1, "nth", 47);
        bad("nth", 48);
        bad("nth", -1);
    }

    private static void rank() {
        says("23: How many KEYS are ahead of a WORD; how many begin with it by asked(). BAD");
        in(Bounds::crowded);
        answersAndTells(0, 1 + 5 + 27, "rank", 0, 1);
        answersAndTells(1, 1 + 16, "rank", 0x00, 2);
        answersAndTells(2, 1, "rank", 0x000, 3);
        answersAndTells(3, 0, "rank", 0x0000, 4);
        answersAndTells(18, 1 + 11, "rank", 0x01, 2);
        answersAndTells(33, 1, "rank", 1, 1);
        answersAndTells(47, 1, "rank", 0xF, 1);
        answersAndTells(48, 0, "rank", 0xFFFFFF, 6);
        in(x -> { });
        answersAndTells(0, 0, "rank", 0, 1);
        answersAndTells(0, 0, "rank", 0xFFFFFF, 6);
        in(Bounds::busy);
        for (int[] b : NO_WORDS) bad("rank", b);
    }

    private static void between() {
        says("24: How many KEYS are neither ahead of one WORD nor behind another one; all their VALUES together");
        in(of("0=1;00=2;01=30;1=400;12=500;2=999;"));
        answersAndTells(6, 1932, "between", 0, 1, 0xFFFFFF, 6);
        answersAndTells(6, 1932, "between", 0, 1, 2, 1);
        answersAndTells(4, 1929, "between", 0x01, 2, 2, 1);
        answersAndTells(4, 433, "between", 0, 1, 1, 1);
        answersAndTells(1, 1, "between", 0, 1, 0, 1);
        answersAndTells(1, 400, "between", 1, 1, 0x11, 2);
        answersAndTells(1, 500, "between", 0x11, 2, 0x1F, 2);
        answersAndTells(0, 0, "between", 0x13, 2, 0x1F, 2);
        answersAndTells(0, 0, "between", 0x001, 3, 0x00F, 3);
        answersAndTells(1, 999, "between", 0x13, 2, 2, 1);
        answersAndTells(0, 0, "between", 0x20, 2, 0xFFFFFF, 6);
        says("24: one WORD behind another one: none");
        answersAndTells(0, 0, "between", 2, 1, 0, 1);
        answersAndTells(0, 0, "between", 1, 1, 0x01, 2);
        answersAndTells(0, 0, "between", 0, 2, 0, 1);
        answersAndTells(0, 0, "between", 0xFFFFFF, 6, 0, 1);
        says("24: BAD");
        in(Bounds::busy);
        for (int[] b : NO_WORDS) {
            bad("between", b[0], b[1], 0xF, 1);
            bad("between", 0, 1, b[0], b[1]);
            bad("between", b[0], b[1], b[0], b[1]);
        }
    }

    private static void betweenMost() {
        says("24: none, all, and the most of their VALUES");
        in(x -> { });
        answersAndTells(0, 0, "between", 0, 1, 0xFFFFFF, 6);
        in(x -> {
            StringBuilder tale = new StringBuilder();
            for (char c : "0123456789abcde".toCharArray()) tale.append(c).append("=999;");
            of(tale.toString()).accept(x);
            for (int v = 0; v < 33; v++) x.enter(v, 2, 999);
        });
        answersAndTells(48, 48 * 999, "between", 0, 1, 0xFFFFFF, 6);
        answersAndTells(48, 48 * 999, "between", 0, 1, 0xE, 1);
        answersAndTells(47, 47 * 999, "between", 0, 2, 0xE, 1);
        answersAndTells(47, 47 * 999, "between", 0, 1, 0xD, 1);
    }

    private static void node() {
        says("25: 0 SIZE, 1 CHILDREN (bits), 2 how many FIGURES its PREFIX has, 3 whether it has an END, 4 how many KEYS");
        in(of("0=1;00=1;0f=1;f=1;ffffff=1;"));
        int[][] wants = {{0, 0, 1, 0x8001, 0, 0, 5}, {0, 1, 1, 0x8001, 0, 1, 3}, {0xF, 1, 1, 0x8000, 0, 1, 2}};
        for (int[] want : wants) {
            for (int what = 0; what <= 4; what++) answersAndTells(1, want[2 + what], "node", want[0], want[1], what);
        }
        in(Bounds::crowded);
        int[][] crowded = {{0, 0, 4, 0xFFFF, 0, 0, 48}, {0, 1, 3, 0x1F, 0, 1, 33}, {0x00, 2, 4, 0xFFFF, 0, 1, 17},
            {0x01, 2, 4, 0x7FF, 0, 1, 12}};
        for (int[] want : crowded) {
            for (int what = 0; what <= 4; what++) answersAndTells(1, want[2 + what], "node", want[0], want[1], what);
        }
    }

    private static void nodeWithout() {
        says("25: NONE: there is none. BAD");
        in(Bounds::busy);
        for (int what = 0; what <= 4; what++) {
            none("node", 0xF, 1, what);
            none("node", 0x12, 2, what);
            none("node", 0xE, 1, what);
            none("node", 0xF00120, 6, what);
        }
        for (int what : new int[] {-1, 5, MOST, LEAST}) {
            bad("node", 0, 0, what);
            bad("node", 0xE, 1, what);
        }
        for (int[] b : new int[][] {{1, 0}, {-1, 0}, {0, 7}, {0, -1}, {-1, 1}, {16, 1}, {1 << 24, 6}}) bad("node", b[0], b[1], 0);
        in(x -> { });
        for (int what = 0; what <= 4; what++) none("node", 0, 0, what);
        bad("node", 0, 0, 5);
    }

    private static Consumer<NibbleTrunk> wide(int... figures) {
        return x -> {
            for (int f : figures) x.enter(0x70 + f, 2, f);
        };
    }

    private static int[] upTo(int n) {
        int[] figures = new int[n];
        for (int f = 0; f < n; f++) figures[f] = f;
        return figures;
    }

    private static void markOfEachSize() {
        says("26: a SMALL one (ROWED, too) the least of its CHILDREN");
        in(wide(0, 15));
        answers(0, "mark", 7, 1, 1);
        in(wide(14, 15));
        answers(14, "mark", 7, 1, 1);
        in(of("7=0;7f=0;"));
        answers(15, "mark", 7, 1, 1);
        in(of("7=0;70=0;"));
        answers(0, "mark", 7, 1, 1);
        in(wide(13, 14, 15));
        answers(13, "mark", 7, 1, 1);
        in(wide(12, 13, 14, 15));
        answers(12, "mark", 7, 1, 1);
        says("26: a ROWED one how many FIGURES between the least and the greatest are none");
        answers(0, "mark", 7, 1, 2);
        in(wide(0, 1, 2));
        answers(0, "mark", 7, 1, 2);
        in(wide(0, 1, 3));
        answers(1, "mark", 7, 1, 2);
        in(wide(0, 1, 15));
        answers(13, "mark", 7, 1, 2);
        in(wide(0, 5, 10, 15));
        answers(12, "mark", 7, 1, 2);
        says("26: a TABLED one (WHOLE, too) how many PLACES are empty");
        for (int children = 5; children <= 16; children++) {
            in(wide(upTo(children)));
            answers(children <= 8 ? 8 - children : 16 - children, "mark", 7, 1, 3);
            says("26: a WHOLE one the greatest of its CHILDREN");
            if (children > 8) answers(children - 1, "mark", 7, 1, 4);
        }
        in(wide(0, 1, 2, 3, 4, 5, 6, 7, 15));
        answers(15, "mark", 7, 1, 4);
        in(wide(0, 1, 2, 3, 4, 5, 6, 7, 8));
        answers(8, "mark", 7, 1, 4);
        says("26: of the NODE of no FIGURES");
        in(Bounds::crowded);
        answers(15, "mark", 0, 0, 4);
        answers(0, "mark", 0, 0, 3);
        answers(3, "mark", 0, 1, 3);
        answers(10, "mark", 0x01, 2, 4);
    }

    private static void markRefused() {
        says("26: UNLIKE");
        for (int children = 2; children <= 16; children++) {
            in(wide(upTo(children)));
            if (children > 4) finds(UNLIKE, "mark", 7, 1, 1);
            if (children < 3 || children > 4) finds(UNLIKE, "mark", 7, 1, 2);
            if (children < 5) finds(UNLIKE, "mark", 7, 1, 3);
            if (children < 9) finds(UNLIKE, "mark", 7, 1, 4);
        }
        says("26: NONE: there is none. (NONE ahead of UNLIKE.)");
        in(Bounds::busy);
        for (int size = 1; size <= 4; size++) {
            none("mark", 0xE, 1, size);
            none("mark", 0x12, 2, size);
            none("mark", 0xF0012, 5, size);
        }
        in(x -> { });
        for (int size = 1; size <= 4; size++) none("mark", 0, 0, size);
        says("26: BAD: also SIZE 0");
        for (Consumer<NibbleTrunk> past : java.util.List.<Consumer<NibbleTrunk>>of(x -> { }, Bounds::busy)) {
            in(past);
            for (int size : new int[] {0, -1, 5, MOST, LEAST}) {
                bad("mark", 0, 0, size);
                bad("mark", 1, 1, size);
                bad("mark", 0xE, 1, size);
            }
            for (int[] b : new int[][] {{1, 0}, {-1, 0}, {0, 7}, {0, -1}, {-1, 1}, {16, 1}, {1 << 24, 6}}) bad("mark", b[0], b[1], 1);
        }
    }

    private static void twins(int unlike, int alike, String tale) {
        in(of(tale));
        answersAndTells(unlike, alike, "twins");
    }

    private static void twinsFewest() {
        says("27: How many unlike NODES there are; how many NODES are alike to another one by asked()");
        in(x -> { });
        answersAndTells(0, 0, "twins");
        twins(0, 0, "123456=1;");
        twins(1, 0, "1=1;2=1;");
        twins(1, 0, "1=1;12=1;");
        twins(2, 2, "11=1;12=1;21=1;22=1;");
        twins(2, 3, "11=1;12=1;21=1;22=1;31=1;32=1;");
        twins(1 + 2, 4, "11=1;12=1;21=1;22=1;34=1;35=1;44=1;45=1;");
        says("27: all below, the greatest of them: nodes of the same CHILDREN deeper down");
        twins(3, 4, "111=1;112=1;1=0;211=1;212=1;2=0;");
        twins(3, 0, "1=1;11=1;111=1;1111=1;");
    }

    private static void twinsAlike() {
        says("27: two being alike, if what KEYS have behind their PATHS, and VALUES, are the same");
        twins(3, 0, "11=1;12=1;21=1;22=2;");
        twins(3, 0, "11=1;12=1;21=1;23=1;");
        twins(3, 0, "11=1;12=1;21=1;22=1;2=1;");
        twins(2, 2, "11=1;12=1;1=5;21=1;22=1;2=5;");
        twins(3, 0, "11=1;12=1;1=5;21=1;22=1;2=6;");
        twins(3, 0, "11=1;12=1;21=1;220=1;");
        twins(3, 0, "11=1;12=1;21=1;22=1;23=1;");
        twins(4, 0, "11=1;12=1;21=1;22=1;221=1;");
        twins(2, 2, "11=1;12=1;20001=1;20002=1;");
        twins(2, 2, "10=0;1f=0;f0=0;ff=0;");
        twins(3, 0, "11=1;1100=1;21=1;2101=1;0=0;");
        twins(3, 0, "10=1;100=1;20=1;2000=1;");
        twins(2, 2, "1=0;100000=0;2=0;200000=0;");
        twins(3, 0, "1=0;100000=0;2=0;20000=0;");
    }

    private static void bestWithout() {
        says("28: STATE: no KEYS");
        in(x -> { });
        notNow("best");
        in(x -> {
            busy(x);
            x.index(3);
        });
        notNow("best");
        in(x -> {
            of("5=1;").accept(x);
            x.find(5, 1);
            x.take(5, 1);
        });
        notNow("best");
    }

    private static void best(int v, int places, String tale) {
        in(of(tale));
        answersAndTells(v, places, "best");
        long before = made().digest();
        NibbleTrunk x = made();
        x.best();
        due(x, before, "digest");
    }

    private static void bestFirst() {
        says("28: (of like ones the first in ORDER)");
        best(5, 0, "5=1;");
        best(0xFFFFFF, 0, "ffffff=1;");
        best(1, 0, "1=0;2=0;");
        best(0, 0, "000000=0;0=0;");
        best(1, 4, "1=0;2=0;3=0;4=0;");
        best(0, 2, "0=0;00=0;01=0;");
        best(0x10, 2, "2=0;10=0;11=0;");
        says("28: also with 40 DEEDS");
        in(withFortyDeeds());
        answersAndTells(1, 0, "best");
    }

    private static Consumer<NibbleTrunk> withFortyDeeds() {
        return x -> {
            of("1=7;").accept(x);
            for (int n = 0; n < 40; n++) x.enter(2, 1, n);
        };
    }

    private static void bestPlaces() {
        says("28: the KEY by whose being TAKEN all NODES together would have the fewest PLACES");
        best(1, 2, "1=0;2=0;3=0;");
        best(1, 4, "1=0;2=0;3=0;4=0;5=0;");
        best(0, 8, "0=0;1=0;2=0;3=0;4=0;5=0;6=0;7=0;8=0;");
        best(0, 16, "0=0;1=0;2=0;3=0;4=0;5=0;6=0;7=0;8=0;9=0;");
        best(0x11, 4 + 2, "0=0;11=0;12=0;13=0;2=0;3=0;");
        best(0x12, 2 + 2, "1=0;12=0;13=0;14=0;2=0;");
        says("28: a NODE goes with its END, if one CHILD is left, and not, if two are");
        best(1, 2, "1=0;12=0;2=0;");
        best(0x12, 4, "1=0;11=0;12=0;121=0;2=0;");
        best(0, 4, "0=0;1=0;11=0;12=0;13=0;");
        best(2, 2 + 2, "1=0;12=0;13=0;2=0;3=0;");
        best(2, 2 + 4, "1=0;12=0;13=0;14=0;15=0;2=0;3=0;");
        best(2, 2 + 2 + 2, "1=0;11=0;111=0;112=0;12=0;2=0;3=0;");
    }

    private static void fewerThanBefore() {
        says("There is a NODE for each PATH, and no other: what was there once is not");
        in(x -> {
            of("1abcd=0;1abce=0;1abce0=0;2=0;22=0;").accept(x);
            write(x, 1, "1=0;2=0;3=0;");
            x.index(1);
        });
        answersAndTells(1, 2, "best");
        answersAndTells(1, 0, "twins");
        int[] want = {3, 1, 0, 1, 0, 0, 4, 1, 0};
        for (int what = 0; what <= 8; what++) answers(want[what], "count", what);
        none("node", 2, 1, 0);
        none("node", 0x1ABC, 4, 0);
        answersAndTells(0, 1, "find", 2, 1);
        in(x -> {
            of("1abcd=0;1abce=0;1abce0=0;2=0;22=0;").accept(x);
            x.strip(1, 1);
            x.take(2, 1);
        });
        answersAndTells(0x22, 0, "best");
        for (int what = 1; what <= 8; what++) answers(0, "count", what);
        none("next", 0x22, 2);
        answersAndTells(0, 0, "rank", 1, 1);
        answersAndTells(0, 1, "rank", 2, 1);
    }

    private static void lately() {
        says("29: v of the k-th WORD of LATELY (0 the latest); its n by asked(). NONE: not so many. BAD: k below 0");
        for (int words = 0; words <= 8; words++) {
            int many = words;
            in(x -> {
                x.row(0, 1);
                x.lay(0, 0, 55);
                x.at(0, 0);
                for (int v = 1; v <= many; v++) x.find(v, 1 + v % 6);
            });
            int held = Math.min(words, 6);
            for (int k = 0; k < held; k++) answersAndTells(words - k, 1 + (words - k) % 6, "lately", k);
            for (int k : new int[] {held, held + 1, 6, 7, MOST}) none("lately", k);
            for (int k : new int[] {-1, -2, LEAST}) bad("lately", k);
            answers(held, "count", 13);
        }
    }

    private static void askedBefore() {
        says("31: 0 before");
        in(x -> { });
        answers(0, "asked");
        in(x -> {
            x.row(0, 2);
            x.text(0, 1);
            x.put(0, 0, 'x');
            x.fault(0);
            x.enter(1, 1, 1);
            x.enter(2, 1, 2);
            x.change(0);
            x.mark(0, 0, 1);
            x.count(0);
            x.keep(0);
            x.on(0);
            x.undo(0);
            x.lots(3, 3);
            x.findings(1);
            x.digest();
            x.copy(0, 0, 0, 1, 1);
            x.tear(0);
            x.take(1, 1);
            x.strip(1, 1);
        });
        answers(0, "asked");
    }

    private static void askedStays() {
        says("31: that was not refused (nor answered NONE, but by find())");
        in(Bounds::busy);
        NibbleTrunk x = made();
        due(x, 77, "asked");
        Object[][] silent = {{FINDING, "lay", 2, 0, 0}, {FINDING, "at", 0, 3}, {BAD, "at", 6, 0}, {FINDING, "mean", 1},
            {BAD, "find", 16, 1}, {NONE, "longest", 0xE, 1}, {BAD, "longest", 0, 0}, {NONE, "next", 0xFF, 2},
            {BAD, "next", 0, 0}, {BAD, "nth", 48}, {BAD, "rank", 0, 0}, {BAD, "between", 0, 0, 0, 1},
            {NONE, "node", 0xE, 1, 0}, {BAD, "node", 0, 0, 5}, {NONE, "lately", 2}, {BAD, "lately", -1},
            {2, "mark", 1, 1, 1}, {NONE, "mark", 0xE, 1, 1}, {FINDING, "mark", 0, 0, 4}, {4, "fault", 1},
            {1049, "put", 1, 0, 49}, {8, "count", 0}, {0, "undo", 4}, {4, "keep", 1}, {0, "change", 0}};
        for (Object[] call : silent) {
            int[] args = new int[call.length - 2];
            for (int i = 0; i < args.length; i++) args[i] = (int) call[i + 2];
            due(x, (int) call[0], (String) call[1], args);
            due(x, 77, "asked");
        }
        tells(x, NONE, 1, "find", 0xE, 1);
        tells(x, 1, 9, "lay", 0, 2, -9);
        tells(x, 1, -9, "at", 0, 2);
        tells(x, 1, -3, "mean", 0);
        tells(x, 1, 7, "longest", 1, 1);
        tells(x, 0x2A, 2, "next", 0x29, 2);
        tells(x, 1, 1, "nth", 0);
        tells(x, 0, 2, "rank", 1, 1);
        tells(x, 2, 12, "between", 1, 1, 0x12, 2);
        tells(x, 1, 3, "node", 2, 1, 0);
        tells(x, 3, 0, "twins");
        tells(x, 0x2A, 4 + 2 + 4, "best");
        tells(x, 0xE, 1, "lately", 0);
        in(y -> {
            y.row(0, 1);
            y.lay(0, 0, 5);
            y.at(0, 0);
        });
        notNow("best");
    }

    private static void count() {
        says("32: BAD");
        for (Consumer<NibbleTrunk> past : java.util.List.<Consumer<NibbleTrunk>>of(x -> { }, Bounds::busy)) {
            in(past);
            for (int what : new int[] {-1, 14, 15, MOST, LEAST}) bad("count", what);
        }
        says("32: 0 KEYS to 13 WORDS of LATELY, none and some");
        in(x -> { });
        for (int what = 0; what <= 13; what++) answers(0, "count", what);
        in(Bounds::busy);
        int[] want = {8, 3, 1, 1, 1, 0, 2 + 4 + 8, 2, 0, 4, 3, 3, 2, 2};
        for (int what = 0; what <= 13; what++) answers(want[what], "count", what);
    }

    private static void countMost() {
        says("32: the most of each");
        in(x -> {
            crowdedAndSpent(x);
            for (int r = 0; r <= 5; r++) x.row(r, r == 0 ? 0 : 40);
            for (int t = 0; t <= 3; t++) x.text(t, t == 0 ? 0 : 90);
            for (int k = 0; k <= 2; k++) x.keep(k);
            for (int v = 0; v < 9; v++) x.find(v, 3);
        });
        int[] want = {48, 4, 0, 0, 1, 3, 16 * 3 + 8, 3, 0, 40, 6, 4, 3, 6};
        for (int what = 0; what <= 13; what++) answers(want[what], "count", what);
        says("32: 7 the most NODES with PATHS with which one KEY begins, 8 the longest PREFIX");
        int[][] each = {{0, 0}, {0, 0}, {1, 0}, {1, 5}, {6, 0}, {2, 4}};
        String[] tales = {" ", "123456=1;", "1=1;2=1;", "000000=1;000001=1;",
            "0=1;1=1;11=1;111=1;1111=1;11111=1;111111=1;", "f=1;000000=1;000001=1;"};
        for (int k = 0; k < tales.length; k++) {
            in(of(tales[k]));
            answers(each[k][0], "count", 7);
            answers(each[k][1], "count", 8);
        }
    }

    private static void findingBefore() {
        says("33: The latest FINDING (0 before any)");
        in(x -> { });
        answers(0, "finding");
        in(x -> {
            x.row(6, 0);
            x.row(0, 41);
            x.best();
            x.take(1, 1);
            x.find(1, 1);
            x.node(0, 0, 0);
            x.lately(0);
            x.undo(1);
            x.lots(0, 0);
        });
        answers(0, "finding");
        for (int f = 1; f <= 5; f++) answers(0, "findings", f);
        in(x -> {
            x.row(0, -1);
            x.row(0, 0);
            x.mean(0);
            x.row(6, 0);
        });
        answers(4, "finding");
    }

    private static void findings() {
        says("34: How often a FINDING (1 .. 5) was answered. BAD");
        in(Bounds::busy);
        int[] want = {0, 1, 0, 0, 1};
        for (int f = 1; f <= 5; f++) answers(want[f - 1], "findings", f);
        for (int f : new int[] {0, -1, 6, 7, MOST, LEAST}) bad("findings", f);
        NibbleTrunk x = made();
        for (int k = 0; k < 60; k++) {
            x.tear(2);
            x.at(0, 3);
            x.mark(0, 0, 4);
            x.mean(1);
            x.text(0, -1);
        }
        int[] many = {60, 61, 60, 60, 61};
        for (int f = 1; f <= 5; f++) due(x, many[f - 1], "findings", f);
        due(x, 5, "finding");
        says("34: a new INDEX, undo() and on() take none back");
        due(x, 4, "undo", 0);
        due(x, 1, "on", 0);
        due(x, 0, "index", 3);
        for (int f = 1; f <= 5; f++) due(x, many[f - 1], "findings", f);
        due(x, 5, "finding");
    }

    private static long mixed(long... all) {
        long h = 17;
        for (long v : all) h = 31 * h + v;
        return h;
    }

    private static void digestOfNew() {
        says("35: (-1: missing)");
        in(x -> { });
        answers(mixed(0, 0, 0, 0, 0, 0, 0, 0, 0, 0, 0, 0, 0, 0, -1, -1, -1, -1, -1, -1, -1, -1, -1, -1, -1, -1, -1), "digest");
        says("35: of each ROW its size, of each TEXT likewise: sizes 0, and what is torn");
        in(x -> {
            x.row(0, 0);
            x.row(5, 2);
            x.lay(5, 0, LEAST);
            x.lay(5, 1, MOST);
            x.row(4, 1);
            x.tear(4);
            x.text(0, 0);
            x.text(3, 3);
            x.put(3, 0, 127);
            x.put(3, 1, 128);
        });
        answers(mixed(0, 0, 0, 0, 0, 0, 0, 0, 0, 0, 2, 2, 0, 0, -1, -1, -1, 0, -1, -1, -1, -1, 2, LEAST, MOST,
                0, -1, -1, 3, 127, -128, 32), "digest");
        says("35: of each kept INDEX how many DEEDS, none too");
        in(x -> {
            x.keep(1);
            x.lots(1, 1);
            x.keep(2);
        });
        answers(mixed(0, 0, 0, 0, 0, 0, 0, 0, 0, 1, 0, 0, 2, 0, -1, 0, 1, -1, -1, -1, -1, -1, -1, -1, -1, -1, -1), "digest");
        says("35: of each KEY in ORDER v, n, its VALUE");
        in(x -> {
            x.enter(0xFFFFFF, 6, 999);
            x.enter(0, 1, 0);
        });
        answers(mixed(2, 1, 1, 0, 0, 0, 2, 1, 0, 2, 0, 0, 0, 0, 0, 1, 0, 0xFFFFFF, 6, 999,
                -1, -1, -1, -1, -1, -1, -1, -1, -1, -1, -1, -1, -1), "digest");
        says("35: of each WORD of LATELY, the latest first, v, n");
        in(x -> {
            for (int v = 0; v < 7; v++) x.find(v, 1 + v % 2);
        });
        answers(mixed(0, 0, 0, 0, 0, 0, 0, 0, 0, 0, 0, 0, 0, 6, -1, -1, -1, 6, 1, 5, 2, 4, 1, 3, 2, 2, 1, 1, 2,
                -1, -1, -1, -1, -1, -1, -1, -1, -1, -1), "digest");
    }

    /** The digest once more, by what the other calls answer, of an object whose kept deeds are known. */
    private static long digestByAnswers(NibbleTrunk x, int... kept) {
        long h = 17;
        for (int what = 0; what <= 13; what++) h = 31 * h + x.count(what);
        for (int k = 0; k < x.count(0); k++) {
            int v = x.nth(k);
            int n = x.asked();
            x.between(v, n, v, n);
            h = 31 * (31 * (31 * h + v) + n) + x.asked();
        }
        for (int deeds : kept) h = 31 * h + deeds;
        for (int k = 0; k < x.count(13); k++) {
            int v = x.lately(k);
            h = 31 * (31 * h + v) + x.asked();
        }
        return h;
    }

    private static void digestOfAll() {
        says("35: h = 31 h + v for each v: count() 0 to 13, each KEY, each kept INDEX, each WORD, each ROW, each TEXT");
        in(x -> {
            crowdedAndSpent(x);
            x.keep(1);
            for (int v = 0; v < 9; v++) x.find(v, 3);
            for (int r = 0; r <= 5; r++) {
                x.row(r, 40);
                for (int i = 0; i < 40; i++) x.lay(r, i, r * 100 - i);
            }
            for (int t = 0; t <= 3; t++) x.text(t, 90);
        });
        NibbleTrunk x = made();
        long h = digestByAnswers(x, 27, 40, -1);
        for (int r = 0; r <= 5; r++) {
            h = 31 * h + 40;
            for (int i = 0; i < 40; i++) h = 31 * h + r * 100 - i;
        }
        for (int t = 0; t <= 3; t++) {
            h = 31 * h + 90;
            for (int i = 0; i < 90; i++) h = 31 * h + 32;
        }
        due(x, h, "digest");
        due(x, h, "digest");
    }

    private static void used512Times() {
        says("An object is used for at most 512 calls after it has been made");
        in(y -> { });
        NibbleTrunk x = made();
        for (int call = 1; call <= 512; call += 2) {
            due(x, call % 4 == 1 ? NONE : 3, call % 4 == 1 ? "enter" : "take", call % 4 == 1 ? new int[] {1, 1, 3} : new int[] {1, 1});
            if (call % 80 == 79) due(x, 40, "undo", 0);
            else due(x, call % 4 == 1 ? 1 : 0, "count", 0);
        }
    }
}
