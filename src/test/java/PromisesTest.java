/** Each promise by hand: ordinary inputs, the edges that the document names, wrong inputs. */
public final class PromisesTest {
    private static final int BAD = -1, FULL = -2, FINDING = -3, STATE = -4, NONE = -9;
    private static final int MOST = Integer.MAX_VALUE, LEAST = Integer.MIN_VALUE;
    private static final String LONG_TALE =
            "0=0;1=0;2=0;3=0;4=0;5=0;6=0;7=0;8=0;9=0;a=0;b=0;c=0;d=0;e=0;f=0;00=0;01=0;02=0;03=0;04=0;";
    private static int wrong = 0;
    private static int asked = 0;

    public static void main(String[] args) {
        newObject();
        rows();
        layAndAt();
        tear();
        copy();
        mean();
        texts();
        faults();
        index();
        enter();
        take();
        strip();
        change();
        undo();
        keepAndOn();
        find();
        longest();
        nextAndNth();
        rankAndBetween();
        node();
        mark();
        twins();
        best();
        lately();
        lots();
        askedStays();
        count();
        findings();
        digest();
        leftovers();
        System.out.println(asked + " answers, " + wrong + " are not as due");
        if (wrong != 0) System.exit(1);
    }

    private static void due(String what, long got, long want) {
        asked++;
        if (got != want) {
            wrong++;
            System.out.println(what + ": answered " + got + ", due is " + want);
        }
    }

    private static void finds(String what, NibbleTrunk x, int got, int finding) {
        due(what, got, FINDING);
        due(what + ": finding()", x.finding(), finding);
    }

    private static void tells(String what, NibbleTrunk x, int got, int want, int told) {
        due(what, got, want);
        due(what + ": asked()", x.asked(), told);
    }

    private static void write(NibbleTrunk x, int t, String tale) {
        x.text(t, tale.length());
        for (int i = 0; i < tale.length(); i++) x.put(t, i, tale.charAt(i));
    }

    private static NibbleTrunk of(String tale) {
        NibbleTrunk x = new NibbleTrunk();
        write(x, 0, tale);
        due("fault(0) of " + tale, x.fault(0), NONE);
        x.index(0);
        return x;
    }

    private static void changes(String what, NibbleTrunk x, int come, int gone, int grown, int shrunk) {
        due(what + ": COME", x.change(0), come);
        due(what + ": GONE", x.change(1), gone);
        due(what + ": GROWN", x.change(2), grown);
        due(what + ": SHRUNK", x.change(3), shrunk);
    }

    private static void newObject() {
        NibbleTrunk x = new NibbleTrunk();
        for (int what = 0; what <= 13; what++) due("1 count(" + what + ")", x.count(what), 0);
        due("1 asked()", x.asked(), 0);
        due("1 finding()", x.finding(), 0);
        for (int f = 1; f <= 5; f++) due("1 findings(" + f + ")", x.findings(f), 0);
        changes("1", x, 0, 0, 0, 0);
        for (int r = 0; r < 6; r++) finds("1 tear(" + r + ")", x, x.tear(r), 1);
        for (int t = 0; t < 4; t++) finds("1 fault(" + t + ")", x, x.fault(t), 1);
    }

    private static void rows() {
        NibbleTrunk x = new NibbleTrunk();
        due("2 row(0, 40)", x.row(0, 40), 40);
        due("2 row(5, 0)", x.row(5, 0), 0);
        due("2 row(-1, 0)", x.row(-1, 0), BAD);
        due("2 row(6, -1): BAD first", x.row(6, -1), BAD);
        due("2 row(0, 41)", x.row(0, 41), BAD);
        due("2 row(0, MOST)", x.row(0, MOST), BAD);
        due("2 no finding yet", x.finding(), 0);
        finds("2 row(0, -1)", x, x.row(0, -1), 5);
        finds("2 row(0, LEAST)", x, x.row(0, LEAST), 5);
        tells("2 the row stays", x, x.at(0, 39), 1, 0);
        x.lay(0, 0, 6);
        x.lay(0, 1, 7);
        due("2 row(0, 2) anew", x.row(0, 2), 2);
        tells("2 with ints 0", x, x.at(0, 0), 1, 0);
        tells("2 with ints 0", x, x.at(0, 1), 1, 0);
        finds("2 and two places", x, x.at(0, 2), 2);
    }

    private static void layAndAt() {
        NibbleTrunk x = new NibbleTrunk();
        x.row(3, 2);
        tells("3 lay(3, 1, LEAST)", x, x.lay(3, 1, LEAST), 1, 0);
        tells("3 lay(3, 1, MOST)", x, x.lay(3, 1, MOST), 1, LEAST);
        tells("4 at(3, 1)", x, x.at(3, 1), 1, MOST);
        tells("4 at(3, 0)", x, x.at(3, 0), 1, 0);
        due("3 lay(6, 0, 0)", x.lay(6, 0, 0), BAD);
        due("3 lay(-1, 0, 0)", x.lay(-1, 0, 0), BAD);
        due("4 at(6, 0)", x.at(6, 0), BAD);
        due("4 at(-1, 0)", x.at(-1, 0), BAD);
        finds("3 lay(2, 9, 0)", x, x.lay(2, 9, 0), 1);
        finds("3 lay(3, 2, 0)", x, x.lay(3, 2, 0), 2);
        finds("4 at(2, -1)", x, x.at(2, -1), 1);
        finds("4 at(3, -1)", x, x.at(3, -1), 2);
        finds("4 at(3, 2)", x, x.at(3, 2), 2);
    }

    private static void tear() {
        NibbleTrunk x = new NibbleTrunk();
        x.row(1, 3);
        due("5 tear(1)", x.tear(1), 1);
        due("5 it is missing", x.count(10), 0);
        finds("5 tear(1) again", x, x.tear(1), 1);
        due("5 tear(6)", x.tear(6), BAD);
        due("5 tear(-1)", x.tear(-1), BAD);
    }

    private static void copy() {
        NibbleTrunk x = new NibbleTrunk();
        x.row(0, 5);
        x.row(1, 2);
        for (int i = 0; i < 5; i++) x.lay(0, i, i + 1);
        due("6 onto itself, ahead", x.copy(0, 0, 0, 1, 4), 1);
        int[] want = {1, 1, 2, 3, 4};
        for (int i = 0; i < 5; i++) tells("6 place " + i, x, x.at(0, i), 1, want[i]);
        due("6 onto another", x.copy(0, 3, 1, 0, 2), 1);
        tells("6 place 0 of another", x, x.at(1, 0), 1, 3);
        tells("6 place 1 of another", x, x.at(1, 1), 1, 4);
        due("6 none, at the end", x.copy(0, 5, 1, 2, 0), 1);
        finds("6 none, beyond the end", x, x.copy(0, 6, 1, 0, 0), 2);
        finds("6 too many there", x, x.copy(0, 0, 1, 0, 3), 2);
        finds("6 too many here", x, x.copy(1, 1, 0, 0, 2), 2);
        finds("6 from below", x, x.copy(0, -1, 1, 0, 1), 2);
        finds("6 to below", x, x.copy(0, 0, 1, -1, 1), 2);
        finds("6 far too many", x, x.copy(0, 1, 1, 1, MOST), 2);
        finds("6 far beyond", x, x.copy(0, MOST, 1, MOST, MOST), 2);
        finds("6 from a missing one", x, x.copy(2, 9, 0, 0, 0), 1);
        finds("6 to a missing one", x, x.copy(0, 9, 2, 0, 0), 1);
        finds("6 SIZE ahead of NOTHING", x, x.copy(2, 0, 3, 0, -1), 5);
        due("6 BAD first", x.copy(6, 0, 0, 0, -1), BAD);
        due("6 BAD first", x.copy(0, 0, -1, 0, -1), BAD);
    }

    private static void mean() {
        NibbleTrunk x = new NibbleTrunk();
        x.row(0, 2);
        x.lay(0, 0, 3);
        tells("7 cut", x, x.mean(0), 1, 1);
        x.lay(0, 0, -3);
        tells("7 cut towards 0", x, x.mean(0), 1, -1);
        x.lay(0, 0, MOST);
        x.lay(0, 1, MOST);
        tells("7 of large ones", x, x.mean(0), 1, MOST);
        x.lay(0, 0, LEAST);
        x.lay(0, 1, LEAST);
        tells("7 of low ones", x, x.mean(0), 1, LEAST);
        x.row(1, 1);
        x.lay(1, 0, 9);
        tells("7 of one", x, x.mean(1), 1, 9);
        x.tear(1);
        finds("7 of none", x, x.mean(1), 1);
        x.row(1, 0);
        finds("7 of an empty one", x, x.mean(1), 4);
        due("7 mean(6)", x.mean(6), BAD);
        due("7 mean(-1)", x.mean(-1), BAD);
    }

    private static void texts() {
        NibbleTrunk x = new NibbleTrunk();
        due("8 text(3, 90)", x.text(3, 90), 90);
        due("8 text(0, 0)", x.text(0, 0), 0);
        due("8 text(0, 91)", x.text(0, 91), BAD);
        due("8 text(4, -1)", x.text(4, -1), BAD);
        due("8 text(-1, 1)", x.text(-1, 1), BAD);
        finds("8 text(0, -1)", x, x.text(0, -1), 5);
        due("9 put(3, 89, 255)", x.put(3, 89, 255), 1032);
        due("9 put(3, 89, 128)", x.put(3, 89, 128), 999);
        due("9 put(3, 89, 256 + 65)", x.put(3, 89, 256 + 65), 872);
        due("9 put(3, 89, -1)", x.put(3, 89, -1), 1065);
        finds("9 put(3, 90, 0)", x, x.put(3, 90, 0), 2);
        finds("9 put(3, -1, 0)", x, x.put(3, -1, 0), 2);
        finds("9 put(0, 0, 0)", x, x.put(0, 0, 0), 2);
        finds("9 put(1, 0, 0)", x, x.put(1, 0, 0), 1);
        due("9 put(4, 0, 0)", x.put(4, 0, 0), BAD);
        due("9 put(-1, 0, 0)", x.put(-1, 0, 0), BAD);
        due("9 put tells nothing by asked()", x.asked(), 0);
        x.text(3, 2);
        due("8 with blanks again", x.put(3, 1, 0), 1032);
    }

    private static void fault(String tale, int want) {
        NibbleTrunk x = new NibbleTrunk();
        write(x, 2, tale);
        due("10 fault of '" + tale + "'", x.fault(2), want);
        due("11 index of '" + tale + "' is refused", x.index(2) == STATE ? 1 : 0, want == NONE ? 0 : 1);
    }

    private static void faults() {
        fault("", NONE);
        fault("   ", NONE);
        fault("0=0;", NONE);
        fault("  abcdef=999;  09=000; 1=07;2=1;  ", NONE);
        fault("g=1;", 0);
        fault("A=1;", 0);
        fault("/=1;", 0);
        fault(":=1;", 0);
        fault("`=1;", 0);
        fault("=1;", 0);
        fault(";", 0);
        fault(" x", 1);
        fault("1", 1);
        fault("1=", 2);
        fault("1=2", 3);
        fault("1=2;3", 5);
        fault("1 =2;", 1);
        fault("1= 2;", 2);
        fault("1=2 ;", 3);
        fault("1=;", 2);
        fault("1=a;", 2);
        fault("1=1a;", 3);
        fault("1=12=", 4);
        fault("1==", 2);
        fault("1;", 1);
        fault("1=1000;", 5);
        fault("1=0000", 5);
        fault("1234567=1;", 6);
        fault("123456;", 6);
        fault("1234567", 6);
        fault("1=2;1=3;", 4);
        fault("1=2;  1=3;", 6);
        fault("1=2;1=x", 4);
        fault("1=2;1=", 4);
        fault("1=2;1", 4);
        fault("1=2;1   ", 4);
        fault("1=2;  1", 6);
        fault("1=2;1x", 4);
        fault("1=2;1;", 4);
        fault("1=2;1 =3;", 4);
        fault("1=2;1" + (char) 200, 4);
        fault("1=2;12", 6);
        fault("1=2;12;1=2;", 6);
        fault("12=2;1x", 6);
        fault("123456=1;123456", 9);
        fault("123456=1;123456 ", 9);
        fault("123456=1;123456g", 9);
        fault("123456=1;1234567", 15);
        fault("123456=1;1234567=1;", 15);
        fault("1=2;01=2;10=2;100=2;", NONE);
        fault("1=2;" + (char) 0, 4);
        fault("1=2;" + (char) 160, 4);
        fault("1=2;" + '\t', 4);
        fault("0=0;1=0;2=0;3=0;4=0;5=0;6=0;7=0;8=0;9=0;a=0;b=0;c=0;d=0;e=0;f=0;00=0;01=0;02=0;03=0;0g", 84);
        fault("0=0;1=0;2=0;3=0;4=0;5=0;6=0;7=0;8=0;9=0;a=0;b=0;c=0;d=0;e=0;f=0;00=0;01=0;02=0;03=0;04g", 86);
        NibbleTrunk x = new NibbleTrunk();
        due("10 fault(4)", x.fault(4), BAD);
        due("10 fault(-1)", x.fault(-1), BAD);
        finds("10 fault(0)", x, x.fault(0), 1);
    }

    private static void index() {
        NibbleTrunk x = of("12=5;1=7;");
        x.find(1, 1);
        x.enter(2, 1, 2);
        x.keep(0);
        x.keep(2);
        due("11 BAD", x.index(4), BAD);
        due("11 BAD", x.index(-1), BAD);
        finds("11 NOTHING", x, x.index(3), 1);
        write(x, 1, "1=2;;");
        due("11 STATE", x.index(1), STATE);
        due("11 refused: keys stay", x.count(0), 3);
        due("11 refused: deeds stay", x.count(9), 1);
        due("11 refused: kept ones stay", x.count(12), 2);
        due("11 refused: lately stays", x.count(13), 1);
        x.enter(0x34, 2, 0);
        x.enter(0x35, 2, 0);
        due("11 a change ahead", x.change(0), 1);
        write(x, 1, " 3=999; ");
        due("11 index(1)", x.index(1), 1);
        due("11 keys are those of the text", x.find(3, 1), 999);
        due("11 no others", x.find(1, 1), NONE);
        due("11 no deeds", x.count(9), 0);
        due("11 no kept ones", x.count(12), 0);
        finds("11 no kept ones", x, x.on(0), 1);
        due("11 lately begins anew", x.count(13), 2);
        changes("11 no change", x, 0, 0, 0, 0);
        due("11 undo(0)", x.undo(0), 0);
        due("11 undo goes back to it", x.nth(0), 3);
        x.text(1, 3);
        due("11 blanks alone", x.index(1), 0);
        due("11 blanks alone: no keys", x.count(0), 0);
        due("11 lately is empty", x.count(13), 0);
        x.text(1, 0);
        due("11 an empty text", x.index(1), 0);
    }

    /** An index of 21 keys from a text, and 27 put in: no more fit. */
    private static NibbleTrunk filled() {
        NibbleTrunk x = of(LONG_TALE);
        for (int v = 0; v < 27; v++) due("12 enter a key", x.enter(v, 3, v), NONE);
        due("12 all are there", x.count(0), 48);
        return x;
    }

    private static void enter() {
        NibbleTrunk x = new NibbleTrunk();
        due("12 new", x.enter(0, 1, 0), NONE);
        due("12 again", x.enter(0, 1, 999), 0);
        due("12 again, the same", x.enter(0, 1, 999), 999);
        due("12 another by its head", x.enter(0, 2, 1), NONE);
        due("12 the greatest", x.enter(0xFFFFFF, 6, 1), NONE);
        due("12 keys", x.count(0), 3);
        due("12 deeds", x.count(9), 5);
        int[][] bad = {{0, 0, 0}, {0, 7, 0}, {0, -1, 0}, {16, 1, 0}, {256, 2, 0}, {-1, 1, 0}, {1 << 24, 6, 0},
            {0, 1, 1000}, {0, 1, -1}, {LEAST, 6, 0}, {MOST, 6, 0}, {0, MOST, 0}, {0, 32, 0}};
        for (int[] b : bad) due("12 BAD " + b[0] + " " + b[1] + " " + b[2], x.enter(b[0], b[1], b[2]), BAD);
        due("12 refused: no deed", x.count(9), 5);
        NibbleTrunk y = filled();
        due("12 a 49th", y.enter(99, 3, 1), FULL);
        due("12 not a 49th", y.enter(0, 3, 1), 0);
        due("12 BAD ahead of FULL", y.enter(99, 3, 1000), BAD);
        for (int k = y.count(9); k < 40; k++) due("12 up to 40", y.enter(0, 3, 5), k == 28 ? 1 : 5);
        due("12 40 deeds", y.count(9), 40);
        due("12 a 41st deed", y.enter(0, 3, 1), FULL);
        due("12 nothing came of it", y.find(0, 3), 5);
        due("13 a 41st deed", y.take(0, 3), FULL);
        due("13 STATE ahead of FULL", y.take(99, 3), STATE);
        due("14 a 41st deed", y.strip(0, 1), FULL);
        due("14 STATE ahead of FULL", y.strip(99, 3), STATE);
        due("13 BAD ahead of all", y.take(99, 1), BAD);
        due("14 BAD ahead of all", y.strip(99, 1), BAD);
        due("30 no lot more", y.lots(1, 1), FULL);
        due("30 BAD ahead of FULL", y.lots(1, 0), BAD);
    }

    private static void take() {
        NibbleTrunk x = of("12=5;1=7;");
        due("13 a head is no key", x.take(0x123, 3), STATE);
        due("13 take", x.take(0x12, 2), 5);
        due("13 it is gone", x.find(0x12, 2), NONE);
        due("13 take again", x.take(0x12, 2), STATE);
        due("13 the other one stays", x.find(1, 1), 7);
        due("13 BAD", x.take(0, 0), BAD);
        due("13 BAD", x.take(16, 1), BAD);
        due("13 BAD", x.take(0, 7), BAD);
        due("13 refused: no deeds", x.count(9), 1);
    }

    private static void strip() {
        NibbleTrunk x = of("1=1;12=2;123=3;124=4;13=5;2=6;02=7;");
        due("14 a word that is no key", x.strip(0, 1), 1);
        due("14 a key, too", x.strip(0x12, 2), 3);
        due("14 others stay", x.count(0), 3);
        due("14 none left", x.strip(0x12, 2), STATE);
        due("14 two", x.strip(1, 1), 2);
        due("14 one", x.nth(0), 2);
        due("14 deeds", x.count(9), 3);
        due("14 BAD: of no figures", x.strip(0, 0), BAD);
        due("14 BAD", x.strip(-1, 1), BAD);
        due("14 undone", x.undo(1), 2);
        due("14 undone: all are back", x.count(0), 6);
    }

    private static void change() {
        NibbleTrunk x = new NibbleTrunk();
        x.enter(0x10, 2, 1);
        changes("15 a leaf is no node", x, 0, 0, 0, 0);
        x.enter(0x11, 2, 1);
        changes("15 a node comes", x, 1, 0, 0, 0);
        x.enter(0x12, 2, 1);
        changes("15 2 places to 4", x, 0, 0, 1, 0);
        x.enter(0x13, 2, 1);
        changes("15 4 stay", x, 0, 0, 0, 0);
        x.enter(0x14, 2, 1);
        changes("15 4 to 8", x, 0, 0, 1, 0);
        due("15 refused", x.enter(0x14, 1, 1), BAD);
        changes("15 refused: stays", x, 0, 0, 1, 0);
        x.keep(0);
        x.find(1, 1);
        changes("15 others don't touch it", x, 0, 0, 1, 0);
        x.take(0x14, 2);
        changes("15 8 to 4", x, 0, 0, 0, 1);
        due("15 refused", x.undo(99), BAD);
        due("15 refused", x.on(1), FINDING);
        due("15 refused", x.lots(1, 0), BAD);
        due("15 refused", x.index(1), FINDING);
        changes("15 refused ones don't touch it", x, 0, 0, 0, 1);
        due("15 none undone", x.undo(6), 0);
        changes("15 undo", x, 0, 0, 0, 0);
        x.strip(1, 1);
        changes("15 a node goes", x, 0, 1, 0, 0);
        x.on(0);
        changes("15 on", x, 0, 0, 0, 0);
        x.enter(0x20, 2, 1);
        changes("15 the topmost comes", x, 1, 0, 0, 0);
        x.lots(1, 1);
        changes("15 lots", x, 0, 0, 0, 0);
        for (int v = 5; v < 8; v++) x.enter(0x10 + v, 2, 1);
        x.enter(0x18, 2, 1);
        changes("15 8 to 16", x, 0, 0, 1, 0);
        NibbleTrunk y = of("11=1;12=1;21=1;22=1;3=1;4=1;");
        y.strip(1, 1);
        changes("15 one goes, none shrinks", y, 0, 1, 0, 0);
        y.strip(2, 1);
        changes("15 one goes, one shrinks", y, 0, 1, 0, 1);
        due("15 BAD", y.change(4), BAD);
        due("15 BAD", y.change(-1), BAD);
        due("15 BAD", y.change(LEAST), BAD);
    }

    private static void undo() {
        NibbleTrunk x = of("1=7;");
        x.enter(1, 1, 8);
        x.take(1, 1);
        x.enter(2, 1, 1);
        due("16 BAD", x.undo(4), BAD);
        due("16 BAD", x.undo(-1), BAD);
        due("16 none", x.undo(3), 0);
        due("16 two", x.undo(1), 2);
        due("16 the value of then", x.find(1, 1), 8);
        due("16 deeds", x.count(9), 1);
        due("16 the first", x.undo(0), 1);
        due("16 the value of the text", x.find(1, 1), 7);
        due("16 lately stays", x.count(13), 1);
        due("16 none at all", x.undo(0), 0);
        due("16 BAD", x.undo(1), BAD);
    }

    private static void keepAndOn() {
        NibbleTrunk x = of("1=7;");
        x.enter(2, 1, 1);
        due("17 keep", x.keep(0), 1);
        x.enter(3, 1, 1);
        due("17 keep", x.keep(2), 2);
        due("17 kept", x.count(12), 2);
        x.find(9, 1);
        due("18 on", x.on(0), 1);
        due("18 keys", x.count(0), 2);
        due("18 lately stays", x.count(13), 1);
        x.undo(0);
        due("18 on again", x.on(0), 1);
        due("18 it is still kept", x.find(2, 1), 1);
        due("18 on another", x.on(2), 2);
        due("18 deeds can be undone", x.undo(1), 1);
        due("18 as they were", x.count(0), 2);
        due("17 keep over it", x.keep(2), 1);
        due("17 still two", x.count(12), 2);
        x.undo(0);
        x.strip(1, 1);
        x.enter(4, 2, 9);
        due("18 other deeds in between", x.on(0), 1);
        tells("18 a key as kept", x, x.nth(1), 2, 1);
        due("18 its value as kept", x.find(2, 1), 1);
        due("18 the others are gone", x.find(4, 2), NONE);
        due("18 keys as kept", x.count(0), 2);
        finds("18 none kept", x, x.on(1), 1);
        due("17 BAD", x.keep(3), BAD);
        due("17 BAD", x.keep(-1), BAD);
        due("18 BAD", x.on(3), BAD);
        due("18 BAD", x.on(-1), BAD);
    }

    private static void find() {
        NibbleTrunk x = of("1=7;12=5;123=9;2a=1;2b=2;f0012=3;");
        tells("19 root, 1, 12", x, x.find(0x12, 2), 5, 3);
        tells("19 a leaf", x, x.find(0x123, 3), 9, 3);
        tells("19 no key, beyond all", x, x.find(0x1234, 4), NONE, 3);
        tells("19 no key", x, x.find(0xF, 1), NONE, 1);
        tells("19 no key, a path", x, x.find(2, 1), NONE, 2);
        due("19 BAD", x.find(0, 0), BAD);
        due("19 BAD", x.find(16, 1), BAD);
        due("19 BAD", x.find(-1, 6), BAD);
        due("19 refused: asked() stays", x.asked(), 2);
        due("19 refused: not lately", x.count(13), 5);
    }

    private static void longest() {
        NibbleTrunk x = of("1=7;123=9;abcdef=3;");
        tells("20 the longer", x, x.longest(0x1234, 4), 3, 9);
        tells("20 the shorter", x, x.longest(0x12, 2), 1, 7);
        tells("20 it, too", x, x.longest(0xABCDEF, 6), 6, 3);
        tells("20 none", x, x.longest(0xABCDE, 5), NONE, 3);
        due("20 BAD", x.longest(0, 0), BAD);
        due("20 BAD", x.longest(0, 7), BAD);
        due("20 BAD", x.longest(256, 2), BAD);
    }

    private static void nextAndNth() {
        NibbleTrunk x = of("0=1;00=2;01=3;1=4;ffffff=5;");
        tells("21 the head is ahead", x, x.next(0, 1), 0, 2);
        tells("21 behind a longer one", x, x.next(0, 2), 1, 2);
        tells("21 behind none such", x, x.next(0, 6), 1, 2);
        tells("21 behind 01", x, x.next(1, 2), 1, 1);
        tells("21 behind 1", x, x.next(1, 1), 0xFFFFFF, 6);
        tells("21 ffffff is behind fffff", x, x.next(0xFFFFF, 5), 0xFFFFFF, 6);
        tells("21 none", x, x.next(0xFFFFFF, 6), NONE, 6);
        due("21 BAD", x.next(0, 0), BAD);
        due("21 BAD", x.next(1 << 24, 6), BAD);
        tells("22 first", x, x.nth(0), 0, 1);
        tells("22 second", x, x.nth(1), 0, 2);
        tells("22 last", x, x.nth(4), 0xFFFFFF, 6);
        due("22 BAD", x.nth(5), BAD);
        due("22 BAD", x.nth(-1), BAD);
        due("22 BAD", x.nth(MOST), BAD);
        due("22 refused: asked() stays", x.asked(), 6);
    }

    private static void rankAndBetween() {
        NibbleTrunk x = of("0=1;00=2;01=30;1=400;12=500;2=999;");
        tells("23 0", x, x.rank(0, 1), 0, 3);
        tells("23 00", x, x.rank(0, 2), 1, 1);
        tells("23 001", x, x.rank(1, 3), 2, 0);
        tells("23 1", x, x.rank(1, 1), 3, 2);
        tells("23 f", x, x.rank(15, 1), 6, 0);
        due("23 BAD", x.rank(0, 0), BAD);
        due("23 BAD", x.rank(0, 7), BAD);
        tells("24 both ends", x, x.between(0, 2, 1, 1), 3, 432);
        tells("24 a head is behind no longer one", x, x.between(1, 1, 0x11, 2), 1, 400);
        tells("24 a longer one is behind its head", x, x.between(0, 1, 0, 1), 1, 1);
        tells("24 one alone", x, x.between(2, 1, 2, 1), 1, 999);
        tells("24 all", x, x.between(0, 1, 0xFFFFFF, 6), 6, 1932);
        tells("24 turned round", x, x.between(2, 1, 0, 1), 0, 0);
        x.rank(0, 1);
        due("24 BAD", x.between(0, 0, 1, 1), BAD);
        due("24 BAD", x.between(1, 1, 0, 0), BAD);
        due("24 BAD", x.between(16, 1, 1, 1), BAD);
        due("24 BAD", x.between(1, 1, 16, 1), BAD);
        due("24 refused: asked() stays", x.asked(), 3);
    }

    private static void node() {
        NibbleTrunk x = of("ab1=1;ab2=1;abcde=1;abcdef=1;abcdf=1;");
        tells("25 SIZE", x, x.node(0xAB, 2, 0), 1, 2);
        tells("25 CHILDREN", x, x.node(0xAB, 2, 1), 1, 1 << 1 | 1 << 2 | 1 << 12);
        tells("25 PREFIX of the topmost", x, x.node(0xAB, 2, 2), 1, 2);
        tells("25 no END", x, x.node(0xAB, 2, 3), 1, 0);
        tells("25 KEYS", x, x.node(0xAB, 2, 4), 1, 5);
        tells("25 PREFIX of one below", x, x.node(0xABCD, 4, 2), 1, 1);
        tells("25 END", x, x.node(0xABCDE, 5, 3), 1, 1);
        tells("25 one child", x, x.node(0xABCDE, 5, 1), 1, 1 << 15);
        tells("25 no prefix", x, x.node(0xABCDE, 5, 2), 1, 0);
        due("25 nothing parts", x.node(0, 0, 0), NONE);
        due("25 on the way", x.node(0xABC, 3, 0), NONE);
        due("25 a leaf", x.node(0xABCDEF, 6, 0), NONE);
        due("25 NONE: asked() stays", x.asked(), 0);
        due("25 BAD", x.node(1, 0, 0), BAD);
        due("25 BAD", x.node(0, 7, 0), BAD);
        due("25 BAD", x.node(0, -1, 0), BAD);
        due("25 BAD", x.node(0xAB, 2, 5), BAD);
        due("25 BAD", x.node(0xAB, 2, -1), BAD);
        x.enter(0, 1, 0);
        tells("25 of no figures", x, x.node(0, 0, 4), 1, 6);
        tells("25 a shorter prefix", x, x.node(0xAB, 2, 2), 1, 1);
    }

    private static void mark() {
        NibbleTrunk x = of("13=0;17=0;20=0;24=0;2f=0;");
        for (int f = 1; f < 7; f++) x.enter(0x30 + f, 2, 0);
        for (int f = 1; f < 12; f++) x.enter(0x40 + f, 2, 0);
        due("26 SMALL", x.mark(1, 1, 1), 3);
        finds("26 SMALL is not ROWED", x, x.mark(1, 1, 2), 3);
        finds("26 SMALL is not TABLED", x, x.mark(1, 1, 3), 3);
        finds("26 SMALL is not WHOLE", x, x.mark(1, 1, 4), 3);
        due("26 ROWED is SMALL", x.mark(2, 1, 1), 0);
        due("26 ROWED", x.mark(2, 1, 2), 13);
        finds("26 ROWED is not TABLED", x, x.mark(2, 1, 3), 3);
        finds("26 ROWED is not WHOLE", x, x.mark(2, 1, 4), 3);
        due("26 TABLED", x.mark(3, 1, 3), 2);
        finds("26 TABLED is not WHOLE", x, x.mark(3, 1, 4), 3);
        finds("26 TABLED is not SMALL", x, x.mark(3, 1, 1), 3);
        due("26 WHOLE is TABLED", x.mark(4, 1, 3), 5);
        due("26 WHOLE", x.mark(4, 1, 4), 11);
        finds("26 WHOLE is not ROWED", x, x.mark(4, 1, 2), 3);
        due("26 of no figures", x.mark(0, 0, 2), 0);
        due("26 NONE ahead of UNLIKE", x.mark(5, 1, 4), NONE);
        due("26 BAD: SIZE 0", x.mark(1, 1, 0), BAD);
        due("26 BAD: SIZE 5", x.mark(1, 1, 5), BAD);
        due("26 BAD: SIZE -1", x.mark(5, 1, -1), BAD);
        due("26 BAD", x.mark(1, 0, 1), BAD);
        due("26 BAD", x.mark(16, 1, 1), BAD);
        due("26 not told by asked()", x.asked(), 0);
    }

    private static void twins() {
        NibbleTrunk x = new NibbleTrunk();
        tells("27 none", x, x.twins(), 0, 0);
        x = of("11=1;12=2;21=1;22=2;31=1;32=3;");
        tells("27 two alike, one by its value not", x, x.twins(), 3, 2);
        x.enter(0x32, 2, 2);
        tells("27 three alike", x, x.twins(), 2, 3);
        x.enter(0x3, 1, 2);
        tells("27 an END more", x, x.twins(), 3, 2);
        x.enter(0x2, 1, 2);
        tells("27 two ENDS", x, x.twins(), 3, 2);
        x.enter(0x2, 1, 1);
        tells("27 two ENDS, unlike values", x, x.twins(), 4, 0);
        x = of("1a1=1;1a2=2;21=1;22=2;");
        tells("27 other prefixes are alike", x, x.twins(), 2, 2);
        x = of("11=1;120=2;21=1;22=2;");
        tells("27 longer tails are not", x, x.twins(), 3, 0);
        x = of("1=0;11=0;111=0;");
        tells("27 below one another", x, x.twins(), 2, 0);
        x = of("31=1;32=1;41=1;42=1;53=1;54=1;63=1;64=1;");
        tells("27 two pairs", x, x.twins(), 3, 4);
    }

    private static void best() {
        NibbleTrunk x = new NibbleTrunk();
        due("28 STATE", x.best(), STATE);
        x.enter(5, 1, 0);
        tells("28 the only one", x, x.best(), 5, 0);
        x = of("1=0;2=0;3=0;41=0;42=0;");
        tells("28 none helps the topmost; 41 goes", x, x.best(), 0x41, 4);
        x = of("1=0;2=0;3=0;4=0;5=0;");
        tells("28 like ones: the first", x, x.best(), 1, 4);
        x = of("0=0;00=0;");
        tells("28 the END, its node goes", x, x.best(), 0, 0);
        x = of("1=0;12=0;13=0;2=0;");
        tells("28 an END with two below stays; two of three", x, x.best(), 2, 2);
        x = of("1=0;12=0;2=0;3=0;");
        tells("28 the topmost shrinks, or 1 goes", x, x.best(), 1, 4);
    }

    private static void lately() {
        NibbleTrunk x = new NibbleTrunk();
        due("29 none", x.lately(0), NONE);
        due("29 BAD", x.lately(-1), BAD);
        for (int v = 1; v <= 7; v++) x.find(v, 1 + v % 2);
        tells("29 the latest", x, x.lately(0), 7, 2);
        tells("29 the sixth", x, x.lately(5), 2, 1);
        due("29 no seventh", x.lately(6), NONE);
        due("29 far beyond", x.lately(MOST), NONE);
        x.find(4, 1);
        due("29 at its latest turn", x.lately(0), 4);
        due("29 once", x.lately(3), 5);
        due("29 the oldest stays", x.lately(5), 2);
        x.find(4, 1);
        due("29 twice the same", x.lately(1), 7);
        x.find(4, 2);
        tells("29 another length is another word", x, x.lately(1), 4, 1);
        due("29 six", x.count(13), 6);
    }

    private static void lots() {
        NibbleTrunk x = new NibbleTrunk();
        // 48271 % 3 is 1: the word 02 of two figures; 48271 / 4 is odd: nothing to take.
        due("30 a deed of nothing", x.lots(1, 1), 0);
        due("30 it is a deed", x.count(9), 1);
        due("30 twenty", x.lots(20, 2147483646) >= 0 ? 1 : 0, 1);
        due("30 deeds", x.count(9), 21);
        due("30 nineteen fit", x.lots(20, 5), FULL);
        due("30 nineteen fit", x.lots(19, 5) >= 0 ? 1 : 0, 1);
        due("30 each is one", x.undo(30), 10);
        due("30 BAD", x.lots(0, 1), BAD);
        due("30 BAD", x.lots(21, 1), BAD);
        due("30 BAD", x.lots(-1, 1), BAD);
        due("30 BAD", x.lots(1, 0), BAD);
        due("30 BAD", x.lots(1, -5), BAD);
        due("30 BAD", x.lots(1, MOST), BAD);
        NibbleTrunk y = filled();
        Oracle oracle = new Oracle();
        oracle.text(0, LONG_TALE.length());
        for (int i = 0; i < LONG_TALE.length(); i++) oracle.put(0, i, LONG_TALE.charAt(i));
        oracle.index(0);
        for (int v = 0; v < 27; v++) oracle.enter(v, 3, v);
        for (int seed = 1; seed < 60; seed++) {
            int back = seed % 5;
            due("30 no 49th, seed " + seed, y.lots(13, seed), oracle.lots(13, seed));
            due("30 the same words, seed " + seed, y.digest(), oracle.digest());
            due("30 undone", y.undo(27 - back), oracle.undo(27 - back));
            for (int v = 27 - back; v < 27; v++) due("30 again", y.enter(v, 3, v), oracle.enter(v, 3, v));
        }
    }

    private static void askedStays() {
        NibbleTrunk x = of("1=7;12=5;");
        due("31 0 before", x.asked(), 0);
        x.row(0, 1);
        x.lay(0, 0, 77);
        tells("31 at", x, x.at(0, 0), 1, 77);
        x.enter(3, 1, 3);
        x.take(3, 1);
        x.mark(1, 1, 1);
        x.count(0);
        x.next(15, 1);
        x.longest(15, 1);
        x.lately(3);
        x.node(0, 0, 0);
        x.best();
        due("31 best told", x.asked(), 0);
        x.at(0, 0);
        x.next(15, 1);
        x.longest(15, 1);
        x.lately(3);
        x.node(0, 0, 0);
        x.node(9, 1, 9);
        x.at(0, 1);
        x.at(9, 9);
        x.mean(3);
        x.nth(9);
        x.undo(0);
        due("31 not by those that were refused or NONE", x.asked(), 77);
        tells("31 but by find", x, x.find(15, 1), NONE, 0);
    }

    private static void count() {
        NibbleTrunk x = of("13=0;17=0;20=0;24=0;2f=0;acdef1=0;acdef2=0;");
        for (int f = 1; f < 7; f++) x.enter(0x30 + f, 2, 0);
        for (int f = 1; f < 12; f++) x.enter(0x40 + f, 2, 0);
        x.enter(0x30, 2, 0);
        x.enter(0x302, 3, 0);
        x.keep(1);
        x.find(1, 1);
        x.find(2, 1);
        x.row(0, 3);
        x.row(2, 0);
        x.row(3, 1);
        x.text(3, 1);
        int[] want = {26, 7, 3, 1, 2, 1, 6 + 4 + 16 + 16, 3, 4, 19, 3, 2, 1, 2};
        for (int what = 0; what < want.length; what++) due("32 count(" + what + ")", x.count(what), want[what]);
        due("32 the longest PREFIX, the topmost's", of("abc1=1;abc21=2;abc22=2;").count(8), 3);
        due("32 BAD", x.count(14), BAD);
        due("32 BAD", x.count(-1), BAD);
        due("32 BAD", x.count(LEAST), BAD);
    }

    private static void findings() {
        NibbleTrunk x = new NibbleTrunk();
        x.at(0, 0);
        x.tear(0);
        due("33 NOTHING", x.finding(), 1);
        x.row(0, 0);
        x.at(0, 0);
        due("33 BEYOND", x.finding(), 2);
        x.enter(1, 1, 0);
        x.enter(2, 1, 0);
        x.mark(0, 0, 4);
        due("33 UNLIKE", x.finding(), 3);
        x.mean(0);
        due("33 NOUGHT", x.finding(), 4);
        x.row(0, -1);
        x.text(0, -1);
        x.copy(0, 0, 0, 0, -1);
        due("33 SIZE", x.finding(), 5);
        x.at(9, 0);
        x.row(1, 1);
        due("33 the latest stays", x.finding(), 5);
        int[] want = {BAD, 2, 1, 1, 1, 3, BAD};
        for (int f = 0; f < want.length; f++) due("34 findings(" + f + ")", x.findings(f), want[f]);
        due("34 BAD", x.findings(-1), BAD);
        due("34 BAD", x.findings(MOST), BAD);
    }

    private static void digest() {
        NibbleTrunk x = new NibbleTrunk();
        long h = 17;
        for (int i = 0; i < 14; i++) h = 31 * h;
        for (int i = 0; i < 3 + 6 + 4; i++) h = 31 * h - 1;
        due("35 a new one", x.digest(), h);
        x.enter(0x12, 2, 5);
        x.enter(0x01, 2, 6);
        x.keep(1);
        x.enter(0x12, 2, 7);
        x.find(3, 1);
        x.find(0x12, 2);
        x.row(4, 2);
        x.lay(4, 1, -5);
        x.text(0, 1);
        x.put(0, 0, 200);
        long[] all = {2, 1, 1, 0, 0, 0, 2, 1, 0, 3, 1, 1, 1, 2, 1, 2, 6, 0x12, 2, 7, -1, 2, -1, 0x12, 2, 3, 1,
            -1, -1, -1, -1, 2, 0, -5, -1, 1, -56, -1, -1, -1};
        h = 17;
        for (long v : all) h = 31 * h + v;
        due("35 by hand", x.digest(), h);
        due("35 again", x.digest(), h);
        x.enter(0, 0, 0);
        x.row(9, 0);
        x.tear(0);
        due("35 refused ones change nothing", x.digest(), h);
    }

    /** What was there once must not be seen any more. */
    private static void leftovers() {
        NibbleTrunk x = new NibbleTrunk();
        x.row(0, 2);
        x.lay(0, 1, 9);
        x.row(0, 1);
        tells("7 a row made shorter", x, x.mean(0), 1, 0);
        write(x, 0, "1=1;");
        due("10 a text", x.fault(0), NONE);
        write(x, 0, "1");
        due("10 a text made shorter", x.fault(0), 1);
        x = of("12=1;123=1;124=1;2abc1=1;2abc2=1;2abc21=1;");
        due("32 the most NODES", x.count(7), 3);
        due("32 the longest PREFIX", x.count(8), 3);
        x.strip(2, 1);
        due("32 the most NODES, some gone", x.count(7), 1);
        due("32 the longest PREFIX, some gone", x.count(8), 2);
        tells("23 the last key gone", x, x.rank(2, 1), 3, 0);
        due("14 nothing left to strip", x.strip(2, 1), STATE);
        x.strip(1, 1);
        due("32 no node is left", x.count(7), 0);
        due("32 no prefix is left", x.count(8), 0);
        due("32 no place is left", x.count(6), 0);
        tells("27 none is left", x, x.twins(), 0, 0);
        due("28 no key is left", x.best(), STATE);
    }
}
