import java.util.function.Consumer;

/** The boundary cases of promises 12 to 18 and 30: deeds, kept indexes, lots. */
public final class BoundsOfDeedsTest extends Bounds {
    public static void main(String[] args) {
        enter();
        enterFull();
        take();
        takeLast();
        strip();
        stripLast();
        change();
        changeForgotten();
        undo();
        undoEach();
        keep();
        on();
        onAndOn();
        lotsRefused();
        lotsAtMost();
        lotsByNumber();
        lotsOfNothing();
        lotsOfMany();
        end();
    }

    private static Consumer<NibbleTrunk> withDeeds(int n) {
        return x -> {
            of("1=7;").accept(x);
            for (int k = 0; k < n; k++) x.enter(2, 1, k);
        };
    }

    private static void enter() {
        says("12: A KEY is PUT with a VALUE: the VALUE till then; NONE: it is new");
        in(Bounds::busy);
        NibbleTrunk x = made();
        due(x, 7, "enter", 1, 1, 0);
        due(x, 0, "enter", 1, 1, 0);
        due(x, 0, "enter", 1, 1, 999);
        due(x, 999, "enter", 1, 1, 7);
        due(x, NONE, "enter", 0xF0012, 6, 0);
        due(x, NONE, "enter", 0xF001, 4, 0);
        due(x, NONE, "enter", 0x123, 3, 0);
        due(x, 0, "take", 0x123, 3);
        due(x, NONE, "enter", 0x123, 3, 1);
        due(x, 77, "asked");
        due(x, 4 + 9, "count", 9);
        says("12: BAD");
        int[][] bad = {{0, 0, 0}, {0, 7, 0}, {-1, 1, 0}, {16, 1, 0}, {1 << 24, 6, 0}, {1, 1, -1}, {1, 1, 1000}};
        for (int[] b : bad) bad("enter", b);
    }

    private static void enterFull() {
        says("12: FULL: 40 DEEDS");
        in(withDeeds(39));
        answers(38, "enter", 2, 1, 5);
        answers(NONE, "enter", 3, 1, 5);
        in(withDeeds(40));
        full("enter", 2, 1, 5);
        full("enter", 2, 1, 39);
        full("enter", 3, 1, 5);
        bad("enter", 3, 1, 1000);
        bad("enter", 3, 0, 0);
        says("12: FULL: or it would be the 49th KEY");
        in(x -> {
            crowded(x);
            x.take(26, 3);
        });
        answers(47, "count", 0);
        answers(NONE, "enter", 26, 3, 0);
        answers(25, "enter", 25, 3, 0);
        in(Bounds::crowded);
        answers(48, "count", 0);
        full("enter", 27, 3, 0);
        full("enter", 0, 6, 0);
        full("enter", 0xFF, 2, 0);
        for (int v = 0; v < 27; v++) answers(v, "enter", v, 3, 999);
        for (int v = 0; v < 16; v++) answers(0, "enter", v, 1, 999);
        bad("enter", 27, 3, 1000);
        bad("enter", 16, 1, 0);
    }

    private static void take() {
        says("13: A KEY is TAKEN: its VALUE. BAD; STATE: it is none");
        in(Bounds::busy);
        answers(7, "take", 1, 1);
        answers(5, "take", 0x12, 2);
        answers(3, "take", 0xF0012, 5);
        notNow("take", 0x123, 3);
        notNow("take", 2, 1);
        notNow("take", 0xF001, 4);
        notNow("take", 0xF00120, 6);
        notNow("take", 0, 1);
        int[][] bad = {{0, 0}, {0, 7}, {-1, 1}, {16, 1}, {1 << 24, 6}};
        for (int[] b : bad) bad("take", b);
        NibbleTrunk x = made();
        due(x, 7, "take", 1, 1);
        due(x, STATE, "take", 1, 1);
        due(x, NONE, "find", 1, 1);
        due(x, 5, "find", 0x12, 2);
        in(y -> { });
        notNow("take", 1, 1);
        in(of("5=0;"));
        x = made();
        due(x, 0, "take", 5, 1);
        due(x, 0, "count", 0);
        due(x, STATE, "take", 5, 1);
        due(x, 1, "count", 9);
    }

    private static void takeLast() {
        says("13: (FULL last.)");
        in(withDeeds(39));
        answers(7, "take", 1, 1);
        in(withDeeds(40));
        full("take", 1, 1);
        full("take", 2, 1);
        notNow("take", 3, 1);
        bad("take", 16, 1);
        bad("take", 0, 0);
        in(x -> {
            withDeeds(39).accept(x);
            x.take(1, 1);
        });
        notNow("take", 1, 1);
        full("take", 2, 1);
    }

    private static void strip() {
        says("14: All are STRIPPED that begin with a WORD: how many KEYS. BAD; STATE: none does");
        in(Bounds::busy);
        answers(2, "strip", 1, 1);
        answers(1, "strip", 0x12, 2);
        answers(5, "strip", 2, 1);
        answers(1, "strip", 0x2A, 2);
        answers(1, "strip", 0xF, 1);
        answers(1, "strip", 0xF00, 3);
        answers(1, "strip", 0xF0012, 5);
        notNow("strip", 0xF00120, 6);
        notNow("strip", 0xF1, 2);
        notNow("strip", 0x123, 3);
        notNow("strip", 0, 1);
        notNow("strip", 3, 1);
        int[][] bad = {{0, 0}, {0, 7}, {-1, 1}, {16, 1}, {1 << 24, 6}};
        for (int[] b : bad) bad("strip", b);
        in(x -> { });
        notNow("strip", 0, 1);
        in(Bounds::crowded);
        NibbleTrunk x = made();
        due(x, 1 + 5 + 27, "strip", 0, 1);
        due(x, 15, "count", 0);
        due(x, 1, "nth", 0);
        due(x, STATE, "strip", 0, 1);
        for (int v = 1; v < 16; v++) {
            if (x.count(9) < 40) due(x, 1, "strip", v, 1);
        }
        due(x, 15 - 12, "count", 0);
        in(of("f=1;ff=1;fffffe=1;ffffff=1;"));
        answers(4, "strip", 0xF, 1);
        answers(3, "strip", 0xFF, 2);
        answers(2, "strip", 0xFFFFF, 5);
        answers(1, "strip", 0xFFFFFF, 6);
    }

    private static void stripLast() {
        says("14: (FULL last.)");
        in(withDeeds(39));
        answers(1, "strip", 1, 1);
        in(withDeeds(40));
        full("strip", 1, 1);
        full("strip", 2, 1);
        notNow("strip", 3, 1);
        notNow("strip", 0x11, 2);
        bad("strip", 16, 1);
        bad("strip", 0, 0);
    }

    private static void changes(NibbleTrunk x, int come, int gone, int grown, int shrunk) {
        int[] want = {come, gone, grown, shrunk};
        for (int what = 0; what < 4; what++) due(x, want[what], "change", what);
    }

    private static void change() {
        says("15: COME (what 0), GONE (1), GROWN (2), SHRUNK (3). BAD");
        for (Consumer<NibbleTrunk> past : java.util.List.<Consumer<NibbleTrunk>>of(x -> { }, Bounds::busy)) {
            in(past);
            for (int what : new int[] {-1, 4, MOST, LEAST}) bad("change", what);
        }
        says("15: (0 without one)");
        in(x -> { });
        changes(made(), 0, 0, 0, 0);
        in(of("11=1;12=1;"));
        changes(made(), 0, 0, 0, 0);
        says("15: by the latest enter(), take(), strip() that was not refused");
        in(Bounds::busy);
        NibbleTrunk x = made();
        changes(x, 0, 0, 1, 0);
        due(x, BAD, "enter", 16, 1, 0);
        due(x, STATE, "take", 0x123, 3);
        due(x, STATE, "strip", 0x123, 3);
        changes(x, 0, 0, 1, 0);
        due(x, 5, "take", 0x2E, 2);
        changes(x, 0, 0, 0, 1);
        due(x, 5, "take", 0x12, 2);
        changes(x, 0, 1, 0, 0);
        due(x, 7, "enter", 1, 1, 7);
        changes(x, 0, 0, 0, 0);
        due(x, NONE, "enter", 0x11, 2, 7);
        changes(x, 1, 0, 0, 0);
        in(y -> {
            withDeeds(38).accept(y);
            y.enter(3, 1, 0);
            y.enter(0x11, 2, 0);
        });
        x = made();
        changes(x, 1, 0, 0, 0);
        due(x, FULL, "enter", 4, 1, 0);
        due(x, FULL, "take", 1, 1);
        due(x, FULL, "strip", 1, 1);
        due(x, FULL, "lots", 1, 1);
        changes(x, 1, 0, 0, 0);
    }

    /** What is forgotten is told for each of the four by a past whose latest deed has made one such. */
    private static void changeForgotten() {
        says("15: since the latest index(), lots(), undo(), on() that was not (refused)");
        int[][] latest = {{0x3F, 2}, {0x12, 2}, {0x2F, 2}, {0x2E, 2}};
        for (int what = 0; what < 4; what++) {
            int kind = what;
            int[] word = latest[what];
            in(x -> {
                busy(x);
                if (kind == 0) x.enter(3, 1, 0);
                if (kind == 2) for (int v = 0x27; v < 0x2A; v++) x.enter(v, 2, 0);
                if (kind == 0 || kind == 2) x.enter(word[0], word[1], 0);
                else x.take(word[0], word[1]);
            });
            NibbleTrunk x = made();
            int deeds = x.count(9);
            due(x, 1, "change", kind);
            forgets(x, "undo", deeds);
            forgets(made(), "undo", deeds - 1);
            forgets(made(), "undo", 0);
            forgets(made(), "on", 0);
            forgets(made(), "on", 2);
            forgets(made(), "index", 0);
            forgets(made(), "index", 3);
            forgets(made(), "lots", 1, 1);
            forgets(made(), "lots", 20, 2);
        }
        in(Bounds::busy);
        NibbleTrunk x = made();
        due(x, BAD, "undo", 5);
        due(x, BAD, "undo", -1);
        due(x, BAD, "on", 3);
        due(x, FINDING, "on", 1);
        due(x, BAD, "index", 4);
        due(x, FINDING, "index", 2);
        due(x, STATE, "index", 1);
        due(x, BAD, "lots", 0, 1);
        due(x, BAD, "lots", 1, 0);
        due(x, 4, "keep", 1);
        due(x, 7, "find", 1, 1);
        changes(x, 0, 0, 1, 0);
    }

    private static void forgets(NibbleTrunk x, String call, int... args) {
        ask(x, call, args);
        changes(x, 0, 0, 0, 0);
    }

    private static void undo() {
        says("16: DEEDS from number n on are undone: how many. BAD");
        for (int deeds : new int[] {0, 1, 2, 39, 40}) {
            in(withDeeds(deeds));
            answers(0, "undo", deeds);
            answers(deeds, "undo", 0);
            if (deeds > 0) answers(1, "undo", deeds - 1);
            bad("undo", deeds + 1);
            bad("undo", 41);
            bad("undo", -1);
            bad("undo", MOST);
            bad("undo", LEAST);
        }
    }

    private static void undoEach() {
        says("16: DEEDS from number n on are undone (a PUT, another VALUE, a TAKEN, a STRIPPED one, those by LOTS)");
        long[] digests = new long[41];
        NibbleTrunk x = new NibbleTrunk();
        of("1=7;12=5;123=9;2a=1;2b=2;").accept(x);
        digests[0] = x.digest();
        due(x, NONE, "enter", 3, 1, 1);
        digests[1] = x.digest();
        due(x, 7, "enter", 1, 1, 8);
        digests[2] = x.digest();
        due(x, 1, "take", 0x2A, 2);
        digests[3] = x.digest();
        due(x, 3, "strip", 1, 1);
        digests[4] = x.digest();
        for (int n = 4; n < 40; n++) {
            ask(x, "lots", 1, seedFor(1000003L * n));
            digests[n + 1] = x.digest();
        }
        due(x, 40, "count", 9);
        for (int n = 40; n > 0; n--) {
            due(x, 1, "undo", n - 1);
            due(x, digests[n - 1], "digest");
        }
        due(x, 0, "undo", 0);
        due(x, BAD, "undo", 1);
    }

    private static void keep() {
        says("17: The INDEX is kept in a place (0 .. 2): how many DEEDS. BAD");
        for (int deeds : new int[] {0, 1, 40}) {
            in(withDeeds(deeds));
            for (int k = 0; k <= 2; k++) answers(deeds, "keep", k);
            for (int k : new int[] {-1, 3, MOST, LEAST}) bad("keep", k);
        }
        in(withDeeds(1));
        NibbleTrunk x = made();
        for (int k = 0; k <= 2; k++) {
            due(x, 1, "keep", k);
            due(x, 1, "keep", k);
            due(x, k + 1, "count", 12);
        }
        says("17: kept anew in its place");
        due(x, 0, "enter", 2, 1, 9);
        due(x, 2, "keep", 1);
        due(x, 3, "count", 12);
        due(x, 1, "on", 0);
        due(x, 0, "find", 2, 1);
        due(x, 2, "on", 1);
        due(x, 9, "find", 2, 1);
        due(x, 1, "on", 2);
    }

    private static void on() {
        says("18: The INDEX is as it was kept: how many DEEDS. BAD; NOTHING");
        in(Bounds::busy);
        answers(1, "on", 0);
        answers(3, "on", 2);
        finds(NOTHING, "on", 1);
        for (int k : new int[] {-1, 3, MOST, LEAST}) bad("on", k);
        in(x -> { });
        for (int k = 0; k <= 2; k++) finds(NOTHING, "on", k);
        in(x -> {
            busy(x);
            x.index(0);
        });
        for (int k = 0; k <= 2; k++) finds(NOTHING, "on", k);
        in(x -> {
            busy(x);
            x.index(1);
            x.index(2);
        });
        answers(1, "on", 0);
    }

    private static void onAndOn() {
        says("18: as it was kept, with none and with 40 DEEDS");
        in(x -> {
            of("1=7;").accept(x);
            x.keep(0);
            for (int n = 0; n < 40; n++) x.enter(2, 1, n);
            x.keep(1);
        });
        NibbleTrunk x = made();
        due(x, 0, "on", 0);
        due(x, 1, "count", 0);
        due(x, BAD, "undo", 1);
        due(x, NONE, "enter", 3, 1, 3);
        due(x, 40, "on", 1);
        due(x, FULL, "enter", 3, 1, 3);
        due(x, 2, "count", 0);
        due(x, 39, "find", 2, 1);
        due(x, 20, "undo", 20);
        due(x, 19, "find", 2, 1);
        due(x, 40, "on", 1);
        due(x, 40, "undo", 0);
        due(x, NONE, "find", 2, 1);
        due(x, 0, "on", 0);
        due(x, 0, "on", 0);
        due(x, 2, "count", 12);
        says("18: as it was kept, other DEEDS having come in the place of its own");
        in(y -> {
            of("1=7;12=5;123=9;").accept(y);
            y.enter(1, 1, 8);
            y.take(0x12, 2);
            y.strip(0x12, 2);
            y.enter(2, 1, 4);
        });
        x = made();
        due(x, 4, "keep", 1);
        long kept = x.digest();
        due(x, 4, "undo", 0);
        due(x, 3, "strip", 1, 1);
        due(x, NONE, "enter", 3, 1, 3);
        due(x, NONE, "enter", 0x12, 2, 6);
        due(x, 3, "take", 3, 1);
        due(x, 4, "on", 1);
        due(x, kept, "digest");
        for (int n = 3; n >= 0; n--) due(x, 1, "undo", n);
        due(x, 7, "find", 1, 1);
        due(x, 4, "on", 1);
        due(x, 8, "find", 1, 1);
        says("18: the INDEX (KEYS, DEEDS): LATELY and asked() are not of it");
        in(Bounds::busy);
        x = made();
        due(x, 5, "find", 0x12, 2);
        int told = x.asked();
        due(x, 1, "on", 0);
        due(x, told, "asked");
        tells(x, 0x12, 2, "lately", 0);
        due(x, 9, "find", 0x123, 3);
    }

    private static void lotsRefused() {
        says("30: n (1 .. 20) DEEDS, the seed (1 .. 2147483646). BAD");
        for (Consumer<NibbleTrunk> past : java.util.List.<Consumer<NibbleTrunk>>of(x -> { }, Bounds::busy, Bounds::spent)) {
            in(past);
            for (int n : new int[] {0, -1, 21, MOST, LEAST}) bad("lots", n, 1);
            for (int seed : new int[] {0, -1, MOST, LEAST}) {
                bad("lots", 1, seed);
                bad("lots", 20, seed);
            }
        }
        says("30: FULL: with n more there would be more than 40 DEEDS");
        for (int deeds : new int[] {20, 21, 39, 40}) {
            in(withDeeds(deeds));
            int room = 40 - deeds;
            if (room > 0) {
                NibbleTrunk x = made();
                ask(x, "lots", room, 5);
                due(x, 40, "count", 9);
                x = made();
                ask(x, "lots", room, 2147483646);
                due(x, 40, "count", 9);
            }
            if (room < 20) {
                full("lots", room + 1, 5);
                full("lots", 20, 5);
            }
        }
    }

    private static void lotsAtMost() {
        says("30: DEEDS truly by LOTS: each is a DEED");
        in(x -> { });
        for (int n : new int[] {1, 2, 19, 20}) {
            NibbleTrunk x = made();
            long keys = ask(x, "lots", n, 3);
            due(x, n, "count", 9);
            due(x, keys, "count", 0);
            due(x, n, "undo", 0);
            due(x, 0, "count", 0);
        }
        NibbleTrunk all = made();
        ask(all, "lots", 20, 3);
        long number = 3;
        NibbleTrunk each = made();
        for (int n = 0; n < 20; n++) {
            ask(each, "lots", 1, (int) number);
            number = number * 48271 % 2147483647L;
        }
        due(all, each.digest(), "digest");
    }

    /** What one lot of a number does to an index without keys; -1 for the value: it is no key. */
    private static void lot(long number, int v, int n, int value) {
        in(x -> { });
        NibbleTrunk x = made();
        due(x, value < 0 ? 0 : 1, "lots", 1, seedFor(number));
        due(x, 1, "count", 9);
        due(x, value < 0 ? NONE : value, "find", v, n);
        x = made();
        due(x, NONE, "enter", v, n, 5);
        due(x, value < 0 ? 0 : 1, "lots", 1, seedFor(number));
        due(x, value < 0 ? NONE : value, "find", v, n);
        due(x, 1, "undo", 1);
        due(x, 5, "find", v, n);
    }

    private static void lotsByNumber() {
        says("30: a WORD of it modulo 3, and 1, FIGURES; by 16, by 64, by 256, cut, modulo 4 (3 stands for 15)");
        lot(1, 0x00, 2, 0);
        lot(2, 0x000, 3, 0);
        lot(3, 0x0, 1, 0);
        says("30: if the number by 4, cut, is even, the WORD is PUT, else it is TAKEN");
        lot(4, 0x00, 2, -1);
        lot(6, 0x0, 1, -1);
        lot(7, 0x00, 2, -1);
        lot(8, 0x000, 3, 1);
        lot(11, 0x000, 3, 1);
        lot(12, 0x0, 1, -1);
        says("30: FIGURE k of it (0 the first)");
        lot(16, 0x10, 2, 2);
        lot(32, 0x200, 3, 4);
        lot(48, 0xF, 1, 6);
        lot(64, 0x01, 2, 8);
        lot(128, 0x020, 3, 16);
        lot(192, 0x0, 1, 24);
        lot(193, 0x0F, 2, 24);
        lot(256, 0x00, 2, 32);
        lot(257, 0x001, 3, 32);
        lot(512, 0x002, 3, 64);
        lot(770, 0x00F, 3, 96);
        lot(1010, 0xFFF, 3, 126);
        lot(1024, 0x00, 2, 128);
        says("30: with VALUE the number by 8, cut, modulo 1000");
        lot(7992, 0xF, 1, 999);
        lot(7995, 0xF, 1, 999);
        lot(8000, 0x01F, 3, 0);
        lot(8008, 0x01, 2, 1);
        says("30: modulo 2147483647: the greatest numbers");
        lot(2147483640L, 0xF, 1, 455);
        lot(2147483646L, 0xF, 1, -1);
    }

    private static void lotsOfNothing() {
        says("30: (if it is no 49th KEY), what can't be is a DEED of nothing");
        in(Bounds::crowded);
        NibbleTrunk x = made();
        long before = x.count(0);
        due(x, 48, "lots", 1, seedFor(1010));
        due(x, before, "count", 0);
        due(x, 28, "count", 9);
        due(x, NONE, "find", 0xFFF, 3);
        says("30: PUT, being a KEY already");
        x = made();
        due(x, 48, "lots", 1, seedFor(8));
        due(x, 1, "find", 0x000, 3);
        due(x, 28, "count", 9);
        says("30: the 48th is PUT");
        x = made();
        due(x, 26, "take", 26, 3);
        due(x, 48, "lots", 1, seedFor(1010));
        due(x, 126, "find", 0xFFF, 3);
        due(x, 48, "lots", 1, seedFor(32));
        due(x, NONE, "find", 0x200, 3);
        says("30: else it is TAKEN (if it is a KEY)");
        x = made();
        due(x, 47, "lots", 1, seedFor(4));
        due(x, NONE, "find", 0x00, 2);
        due(x, 47, "lots", 1, seedFor(4));
        due(x, 29, "count", 9);
        due(x, 1, "undo", 28);
        due(x, 47, "count", 0);
        due(x, 1, "undo", 27);
        due(x, 48, "count", 0);
        due(x, 0, "find", 0x00, 2);
    }

    private static void lotsOfMany() {
        says("30: a number comes from the one ahead by 48271 times it modulo 2147483647, the first from the seed");
        in(x -> { });
        NibbleTrunk x = made();
        due(x, 0, "lots", 1, 1);
        due(x, 1, "lots", 1, 2147483646);
        tells(x, 0xF, 1, "nth", 0);
        due(x, 422, "find", 0xF, 1);
        for (int seed : new int[] {1, 2, 48271, 2147483645, 2147483646}) {
            Oracle oracle = new Oracle();
            x = made();
            due(x, oracle.lots(20, seed), "lots", 20, seed);
            due(x, oracle.digest(), "digest");
            due(x, oracle.lots(20, seed), "lots", 20, seed);
            due(x, oracle.digest(), "digest");
        }
    }
}
