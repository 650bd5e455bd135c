/** Boundary cases of the texts, CRACKS, DEEDS, FIRST and STEP: what stands ahead of the promises, and promises 1 to 11. */
public final class BoundaryTextsTest {
    private static final Sentences DOC = new Sentences("BoundaryTextsTest");
    private static final int[] BAD_TWO = Sentences.beside(0, 1), BAD_BYTES = Sentences.beside(0, 255);
    private static final int[] BAD_SIDE = Sentences.beside(0, 5), BAD_DAYS = Sentences.beside(0, 27);
    private static final int[] BAD_LAWS = Sentences.beside(0, 7), BAD_TURNS = Sentences.beside(0, 3);

    public static void main(String[] args) {
        leavesAsText();
        signsOfLeaves();
        rulesAsText();
        signsOfRules();
        faults();
        aFaultIsAsIfEmpty();
        mostCalls();
        newObject();
        type();
        wipe();
        undo();
        fault();
        leaf();
        rule();
        crack();
        deed();
        back();
        set();
        DOC.end(0, 11);
    }

    private static void fill(int text, int most, int b) {
        TeaLaws x = new TeaLaws();
        for (int n = 1; n <= most; n++) {
            DOC.due("byte " + n, x.type(text, b), n);
        }
        DOC.due("one byte more", x.type(text, b), TeaLaws.FULL);
        DOC.due("one byte more, again", x.type(text, b), TeaLaws.FULL);
        DOC.due("bytes", x.count(2 + text), most);
        DOC.due("bytes of the other text", x.count(3 - text), 0);
    }

    private static void leavesAsText() {
        DOC.by(0, "LEAVES are a text of up to 47 bytes (text 0)");
        fill(0, 47, 'a');
        fill(0, 47, 0);
        fill(0, 47, 255);
        DOC.by(0, "12 at most (0 on)");
        TeaLaws x = Courts.of(Courts.TWELVE_LEAVES, "");
        DOC.due("LEAVES", x.count(0), 12);
        DOC.due("the last one", x.leaf(11, 0), 5);
        DOC.due("one behind it", x.leaf(12, 0), TeaLaws.BAD);
        DOC.due("the first one", x.leaf(0, 0), 0);
        DOC.due("one ahead of it", x.leaf(-1, 0), TeaLaws.BAD);
        DOC.due("all of them count", x.reading(0, 0), 4095);
        DOC.due("a ; for one more", x.type(0, ';'), TeaLaws.FULL);
        DOC.due("LEAVES then", x.count(0), 12);
        x.undo(0);
        DOC.due("LEAVES, the last one not ended", x.count(0), 0);
        x.undo(0);
        x.undo(0);
        x.undo(0);
        DOC.due("LEAVES, one less", x.count(0), 11);
        DOC.by(0, "with ; between them: a letter a to f");
        faultOf(0, ";", 0);
        faultOf(0, ";a1s", 0);
        faultOf(0, "a1s;", 4);
        faultOf(0, "a1s;;b2d", 4);
        faultOf(0, "a1sb2d", 3);
        faultOf(0, "a1s,b2d", 3);
        faultOf(0, "a1s b2d", 3);
        faultOf(0, "a1s;b2d", TeaLaws.NONE);
        faultOf(0, "a1:b2d", 2);
    }

    private static void faultOf(int text, String signs, int due) {
        TeaLaws x = new TeaLaws();
        Courts.typeAll(x, text, signs);
        DOC.due("fault of '" + signs + "'", x.fault(text), due);
    }

    /** One leaf or rule in which one sign changes: those beside the right ones are the FAULT. */
    private static void faultsWith(int text, String whole, int place, String wrong) {
        for (int i = 0; i < wrong.length(); i++) {
            StringBuilder signs = new StringBuilder(whole);
            signs.setCharAt(place, wrong.charAt(i));
            faultOf(text, signs.toString(), place);
        }
        faultOf(text, whole, TeaLaws.NONE);
    }

    private static void signsOfLeaves() {
        DOC.by(0, "a letter a to f, its COLUMN (0 to 5)");
        faultsWith(0, "a1s", 0, "`gAF19;s");
        faultsWith(0, "c3d;f6r", 4, "`gAF19;s");
        DOC.due("COLUMN of a", Courts.of("a3s", "").leaf(0, 0), 0);
        DOC.due("COLUMN of f", Courts.of("f3s", "").leaf(0, 0), 5);
        DOC.by(0, "a figure 1 to 6, its ROW (0 to 5, from the top)");
        faultsWith(0, "a1s", 1, "07/:a;s");
        faultsWith(0, "c3d;f6r", 5, "07/:a;s");
        DOC.due("ROW of 1", Courts.of("c1s", "").leaf(0, 1), 0);
        DOC.due("ROW of 6", Courts.of("c6s", "").leaf(0, 1), 5);
        DOC.due("1 lies over 6", Courts.of("c1s;c6d", "sod+A").reading(0, 2), 1);
        DOC.due("6 does not lie over 1", Courts.of("c6s;c1d", "sod+A").reading(0, 2), 0);
        DOC.by(0, "its SHAPE: s (stalk), d (dot), r (ring).");
        faultsWith(0, "a1s", 2, "tqceSDR;1a");
        faultsWith(0, "c3d;f6r", 6, "tqceSDR;1a");
        DOC.due("SHAPE of s", Courts.of("a1s", "").leaf(0, 2), 0);
        DOC.due("SHAPE of d", Courts.of("a1d", "").leaf(0, 2), 1);
        DOC.due("SHAPE of r", Courts.of("a1r", "").leaf(0, 2), 2);
    }

    private static void rulesAsText() {
        DOC.by(0, "RULES are a text of up to 59 bytes (text 1)");
        fill(1, 59, 's');
        fill(1, 59, 0);
        fill(1, 59, 255);
        DOC.by(0, "10 at most (0 on), with ; between them: a SHAPE");
        TeaLaws x = Courts.of("", Courts.TEN_RULES);
        DOC.due("RULES", x.count(1), 10);
        DOC.due("the last one", x.rule(9, 4), 2);
        DOC.due("one behind it", x.rule(10, 4), TeaLaws.BAD);
        DOC.due("the first one", x.rule(0, 4), 0);
        DOC.due("one ahead of it", x.rule(-1, 4), TeaLaws.BAD);
        DOC.due("a ; for one more", x.type(1, ';'), TeaLaws.FULL);
        DOC.due("RULES then", x.count(1), 10);
        DOC.due("all of them apply", Courts.of("a1s;a1s", "sbs+A;sbs+B;sbs+C;sbs+D;sbs+E;sbs+F;sbs+G;sbs+H;sbs-A;sbs-H")
                .reading(0, 1), 1023);
        x.undo(1);
        DOC.due("RULES, the last one not ended", x.count(1), 0);
        faultOf(1, ";", 0);
        faultOf(1, ";sns+A", 0);
        faultOf(1, "sns+A;", 6);
        faultOf(1, "sns+A;;sns+A", 6);
        faultOf(1, "sns+Asns+A", 5);
        faultOf(1, "sns+A,sns+A", 5);
        faultOf(1, "sns+A;sns+A", TeaLaws.NONE);
    }

    private static void signsOfRules() {
        DOC.by(0, "a SHAPE, how it lies: n (near), o (over), f (far), b (whatever), a SHAPE, + or -, and a LAW A to H (0 to 7)");
        faultsWith(1, "sns+A", 0, "tqceSDR;n");
        faultsWith(1, "rbr-H;dfd+D", 6, "tqceSDR;n");
        faultsWith(1, "sns+A", 1, "mpegacNO;s");
        faultsWith(1, "rbr-H;dfd+D", 7, "mpegacNO;s");
        faultsWith(1, "sns+A", 2, "tqceSDR;n");
        faultsWith(1, "rbr-H;dfd+D", 8, "tqceSDR;n");
        faultsWith(1, "sns+A", 3, "*,.;A01");
        faultsWith(1, "rbr-H;dfd+D", 9, "*,.;A01");
        faultsWith(1, "sns+A", 4, "@Iah;0+");
        faultsWith(1, "rbr-H;dfd+D", 10, "@Iah;0+");
        DOC.due("the first LAW", Courts.of("", "sns+A").rule(0, 4), 0);
        DOC.due("the last LAW", Courts.of("", "sns+H").rule(0, 4), 7);
    }

    private static void faults() {
        DOC.by(0, "The FAULT of a text is the place of the first byte with which it cannot go on");
        faultOf(0, "x1s;y1s", 0);
        faultOf(0, "a1s;y1s;x", 4);
        faultOf(0, "a1s;a1s;a1s;a1s;a1s;a1s;a1s;a1s;a1s;a1s;a1s;a1x", 46);
        faultOf(1, "xns+A;yns+A", 0);
        faultOf(1, "sns+A;sns+A;sns+A;sns+A;sns+A;sns+A;sns+A;sns+A;sns+A;sns+I", 58);
        TeaLaws x = Courts.of("a1x", "");
        Courts.typeAll(x, 0, ";a1s");
        DOC.due("a FAULT stays where it was", x.fault(0), 2);
        DOC.by(0, "an empty one is well");
        faultOf(0, "", TeaLaws.NONE);
        faultOf(1, "", TeaLaws.NONE);
        DOC.by(0, "of one that is not ended, its end");
        String leaves = Courts.TWELVE_LEAVES;
        for (int n = 1; n <= 47; n++) {
            faultOf(0, leaves.substring(0, n), n % 4 == 3 ? TeaLaws.NONE : n);
        }
        String rules = Courts.TEN_RULES;
        for (int n = 1; n <= 59; n++) {
            faultOf(1, rules.substring(0, n), n % 6 == 5 ? TeaLaws.NONE : n);
        }
        // The room for bytes ends with the last thing, so that the first byte of one more can never be typed.
        DOC.by(0, "here also of the first byte of one too many");
        x = Courts.of(leaves + ";a1s", rules + ";sns+A");
        DOC.due("no byte of a LEAF too many", x.count(2), 47);
        DOC.due("no byte of a RULE too many", x.count(3), 59);
        DOC.due("no FAULT of LEAVES", x.fault(0), TeaLaws.NONE);
        DOC.due("no FAULT of RULES", x.fault(1), TeaLaws.NONE);
    }

    private static void aFaultIsAsIfEmpty() {
        DOC.by(0, "With a FAULT a text is as if it was empty.");
        String[] faulty = {"a", "a1", "a1s;", "a1s;a2s;a3", "xa1s;a2s", "a1s;a2s;a3s;a4s;a5s;a6s;b1s;b2s;b3s;b4s;b5s;b6x"};
        for (String leaves : faulty) {
            asEmpty(Courts.of(leaves, "sbs+A;sbs-B"), Courts.of("", "sbs+A;sbs-B"));
        }
        String[] faultyRules = {"s", "sbs+", "sbs+A;", "xsbs+A", "sbs+A;sbs-A;sbs+I"};
        for (String rules : faultyRules) {
            asEmpty(Courts.of("a1s;a2s;f6s", rules), Courts.of("a1s;a2s;f6s", ""));
        }
        TeaLaws x = Courts.of("a1s;a2s", "sbs+A");
        DOC.due("READING before a FAULT", x.reading(0, 2), 1);
        x.type(0, ';');
        DOC.due("READING with a FAULT", x.reading(0, 2), 0);
        DOC.due("its bytes are still there", x.count(2), 8);
        x.undo(0);
        DOC.due("READING without it", x.reading(0, 2), 1);
    }

    private static void asEmpty(TeaLaws faulty, TeaLaws empty) {
        for (int what : new int[] {0, 1, 7}) {
            DOC.due("count(" + what + ")", faulty.count(what), empty.count(what));
        }
        DOC.due("leaf(0, 0)", faulty.leaf(0, 0), empty.leaf(0, 0));
        DOC.due("rule(0, 0)", faulty.rule(0, 0), empty.rule(0, 0));
        DOC.due("lies(0, 0, 0)", faulty.lies(0, 0, 0), empty.lies(0, 0, 0));
        for (int i = 0; i < 12; i++) {
            DOC.due("reading(" + i % 4 + ", " + i / 4 + ")", faulty.reading(i % 4, i / 4), empty.reading(i % 4, i / 4));
        }
        DOC.due("strain(0, 1, 0, 0)", faulty.strain(0, 1, 0, 0), empty.strain(0, 1, 0, 0));
        DOC.due("strain(0, 0, 1, 1)", faulty.strain(0, 0, 1, 1), empty.strain(0, 0, 1, 1));
        DOC.due("strike(0, 0, 1)", faulty.strike(0, 0, 1), empty.strike(0, 0, 1));
        DOC.due("place(0, 0)", faulty.place(0, 0), empty.place(0, 0));
        DOC.due("sinks(5, 0, 0, 0)", faulty.sinks(5, 0, 0, 0), empty.sinks(5, 0, 0, 0));
        DOC.due("sinks(5, 0, 0, 1)", faulty.sinks(5, 0, 0, 1), empty.sinks(5, 0, 0, 1));
        for (int what = 0; what < 3; what++) {
            DOC.due("fits(" + what + ")", faulty.fits(what), empty.fits(what));
        }
    }

    private static void mostCalls() {
        DOC.by(0, "An object is used for at most 512 calls after it has been made");
        TeaLaws x = Courts.of("a1s;a2s", "sbs+A");
        for (int call = 13; call < 511; call += 2) {
            DOC.due("call " + call, x.type(0, ';'), 8);
            DOC.due("call " + (call + 1), x.undo(0), 7);
        }
        DOC.due("call 511", x.reading(3, 2), 1);
        DOC.due("call 512", x.digest(), Courts.of("a1s;a2s", "sbs+A").digest());
    }

    private static void newObject() {
        DOC.by(1, "No LEAVES, no RULES; all SHEETS are LOST.");
        TeaLaws x = new TeaLaws();
        for (int what = 0; what <= 8; what++) {
            DOC.due("count(" + what + ")", x.count(what), 0);
        }
        DOC.due("no first LEAF", x.leaf(0, 0), TeaLaws.BAD);
        DOC.due("no first RULE", x.rule(0, 0), TeaLaws.BAD);
        DOC.due("nothing to forget", x.forget(), 0);
        DOC.due("no CRACK", x.back(0), TeaLaws.NOT);
        DOC.due("no DEED", x.back(1), TeaLaws.NOT);
        for (int s = 0; s < 4; s++) {
            DOC.due("lose(" + s + ")", x.lose(s), -11);
        }
    }

    private static void type() {
        DOC.by(2, "A byte (0 to 255) comes behind a text: how many. BAD; FULL.");
        TeaLaws x = new TeaLaws();
        DOC.due("the least byte", x.type(0, 0), 1);
        DOC.due("the most byte", x.type(1, 255), 1);
        for (int text = 0; text < 2; text++) {
            for (int bad : BAD_BYTES) {
                DOC.due("type(" + text + ", " + bad + ")", x.type(text, bad), TeaLaws.BAD);
            }
        }
        for (int bad : BAD_TWO) {
            DOC.due("type(" + bad + ", 97)", x.type(bad, 97), TeaLaws.BAD);
        }
        DOC.due("bytes", x.count(2), 1);
        DOC.due("bytes", x.count(3), 1);
        TeaLaws full = Courts.of(Courts.TWELVE_LEAVES, Courts.TEN_RULES);
        for (int b = 0; b < 256; b++) {
            DOC.due("FULL with " + b, full.type(b % 2, b), TeaLaws.FULL);
        }
        DOC.due("the last LEAF stays", full.leaf(11, 2), 2);
        DOC.due("the last RULE stays", full.rule(9, 4), 2);
        DOC.due("BAD ahead of FULL", full.type(0, 256), TeaLaws.BAD);
        DOC.due("BAD ahead of FULL", full.type(1, -1), TeaLaws.BAD);
        full.undo(0);
        DOC.due("room again", full.type(0, 's'), 47);
        DOC.due("and none again", full.type(0, 's'), TeaLaws.FULL);
    }

    private static void wipe() {
        DOC.by(3, "A text is empty: how many bytes it had. BAD.");
        TeaLaws x = Courts.of(Courts.TWELVE_LEAVES, Courts.TEN_RULES);
        for (int bad : BAD_TWO) {
            DOC.due("wipe(" + bad + ")", x.wipe(bad), TeaLaws.BAD);
        }
        DOC.due("of a full one", x.wipe(0), 47);
        DOC.due("of an empty one", x.wipe(0), 0);
        DOC.due("the other one", x.count(3), 59);
        DOC.due("of a full one", x.wipe(1), 59);
        DOC.due("of an empty one", x.wipe(1), 0);
        DOC.due("room again", x.type(1, 's'), 1);
        DOC.due("of one with a FAULT", x.wipe(1), 1);
        TeaLaws y = Courts.of("a1s;a1s", "sns+A;sbs+B;rfr+C");
        DOC.due("READING before", y.reading(0, 2), 3);
        y.wipe(1);
        DOC.due("no RULE is left to tell", y.reading(0, 2), 0);
        Courts.typeAll(y, 1, "sos+C");
        DOC.due("nor comes back with another", y.reading(0, 1), 0);
        y.wipe(0);
        DOC.due("no LEAF is left to count", y.reading(0, 0), 0);
    }

    private static void undo() {
        DOC.by(4, "The last byte of a text is undone: how many are left. BAD; NOT: it is empty.");
        TeaLaws x = Courts.of("a", "sn");
        for (int bad : BAD_TWO) {
            DOC.due("undo(" + bad + ")", x.undo(bad), TeaLaws.BAD);
        }
        DOC.due("the only one", x.undo(0), 0);
        DOC.due("none", x.undo(0), TeaLaws.NOT);
        DOC.due("none, again", x.undo(0), TeaLaws.NOT);
        DOC.due("bytes", x.count(2), 0);
        DOC.due("the last one of the other", x.undo(1), 1);
        DOC.due("the only one of the other", x.undo(1), 0);
        DOC.due("none of the other", x.undo(1), TeaLaws.NOT);
        DOC.due("bytes of the other", x.count(3), 0);
        DOC.due("type then", x.type(0, 'a'), 1);
        TeaLaws full = Courts.of(Courts.TWELVE_LEAVES, Courts.TEN_RULES);
        DOC.due("of a full one", full.undo(0), 46);
        DOC.due("of a full one", full.undo(1), 58);
    }

    private static void fault() {
        DOC.by(5, "The FAULT of a text; NONE. BAD.");
        TeaLaws x = Courts.of("x", "s");
        for (int bad : BAD_TWO) {
            DOC.due("fault(" + bad + ")", x.fault(bad), TeaLaws.BAD);
        }
        DOC.due("at the first byte", x.fault(0), 0);
        DOC.due("at the end", x.fault(1), 1);
        x.wipe(0);
        DOC.due("none", x.fault(0), TeaLaws.NONE);
        Courts.retype(x, 0, Courts.TWELVE_LEAVES.substring(0, 46));
        DOC.due("at the last end there is", x.fault(0), 46);
        Courts.retype(x, 1, Courts.TEN_RULES.substring(0, 58));
        DOC.due("at the last end there is", x.fault(1), 58);
    }

    private static void leaf() {
        DOC.by(6, "COLUMN (what = 0), ROW (1), SHAPE (2: 0 s, 1 d, 2 r) of a LEAF as told. BAD.");
        TeaLaws x = Courts.of("a6s;f1r", "");
        int[][] due = {{0, 5, 0}, {5, 0, 2}};
        for (int what = 0; what < 3; what++) {
            DOC.due("leaf(0, " + what + ")", x.leaf(0, what), due[0][what]);
            DOC.due("leaf(1, " + what + ")", x.leaf(1, what), due[1][what]);
        }
        for (int bad : Sentences.beside(0, 1)) {
            DOC.due("leaf(" + bad + ", 0)", x.leaf(bad, 0), TeaLaws.BAD);
        }
        for (int bad : Sentences.beside(0, 2)) {
            DOC.due("leaf(1, " + bad + ")", x.leaf(1, bad), TeaLaws.BAD);
        }
        x.crack(0, 5);
        DOC.due("as told, though it does not count", x.leaf(0, 1), 5);
        DOC.due("none of an empty text", new TeaLaws().leaf(0, 2), TeaLaws.BAD);
    }

    private static void rule() {
        DOC.by(7, "The first SHAPE (what = 0), how it lies (1: 0 n, 1 o, 2 f, 3 b), the second SHAPE (2), "
                + "whether it is + (3: 1, 0), the LAW (4) of a RULE. BAD.");
        TeaLaws x = Courts.of("", "sbr+H;rnd-A;dos+C;rfs-E");
        int[][] due = {{0, 3, 2, 1, 7}, {2, 0, 1, 0, 0}, {1, 1, 0, 1, 2}, {2, 2, 0, 0, 4}};
        for (int i = 0; i < 20; i++) {
            DOC.due("rule(" + i / 5 + ", " + i % 5 + ")", x.rule(i / 5, i % 5), due[i / 5][i % 5]);
        }
        for (int bad : Sentences.beside(0, 3)) {
            DOC.due("rule(" + bad + ", 0)", x.rule(bad, 0), TeaLaws.BAD);
        }
        for (int bad : Sentences.beside(0, 4)) {
            DOC.due("rule(3, " + bad + ")", x.rule(3, bad), TeaLaws.BAD);
        }
        DOC.due("none of an empty text", new TeaLaws().rule(0, 4), TeaLaws.BAD);
    }

    private static void crack() {
        DOC.by(8, "A CRACK more: how many. BAD; FULL.");
        TeaLaws x = Courts.of(Courts.TWELVE_LEAVES, "");
        for (int bad : BAD_SIDE) {
            DOC.due("crack(" + bad + ", 5)", x.crack(bad, 5), TeaLaws.BAD);
            DOC.due("crack(5, " + bad + ")", x.crack(5, bad), TeaLaws.BAD);
        }
        DOC.due("none of them is one", x.count(4), 0);
        for (int n = 1; n <= 4; n++) {
            DOC.due("in each corner", x.crack(n % 2 * 5, n / 3 * 5), n);
        }
        DOC.due("the corners do not count", x.reading(0, 0), 0b011110011110);
        for (int n = 5; n <= 8; n++) {
            DOC.due("up to the last", x.crack(n - 4, 0), n);
        }
        DOC.due("all eight tell", x.reading(0, 0), 0b011110000000);
        for (int row = 0; row < 6; row++) {
            DOC.due("one too many", x.crack(3, row), TeaLaws.FULL);
        }
        DOC.due("CRACKS", x.count(4), 8);
        DOC.due("one too many tells nothing", x.reading(0, 0), 0b011110000000);
        DOC.due("BAD ahead of FULL", x.crack(6, 0), TeaLaws.BAD);
        DOC.due("BAD ahead of FULL", x.crack(0, -1), TeaLaws.BAD);
        x.back(0);
        DOC.due("room again", x.crack(1, 5), 8);
        DOC.due("the new one tells", x.reading(0, 0), 0b011100010000);
        DOC.by(0, "CRACKS are cells of the cup (COLUMN 0 to 5, ROW 0 to 5), 8 at most (0 on).");
        TeaLaws y = Courts.of("a1s", "");
        for (int n = 1; n <= 8; n++) {
            DOC.due("the same cell again", y.crack(0, 0), n);
        }
        for (int left = 7; left >= 1; left--) {
            DOC.due("one less", y.back(0), left);
            DOC.due("it is one still", y.reading(0, 0), 0);
        }
        DOC.due("the last one", y.back(0), 0);
        DOC.due("it is none any more", y.reading(0, 0), 1);
    }

    private static void deed() {
        DOC.by(9, "A DEED more: how many. BAD; FULL.");
        TeaLaws x = Courts.of("a1s;a2s", "sbs+A;sbs+H");
        for (int bad : BAD_DAYS) {
            DOC.due("deed(" + bad + ", 0)", x.deed(bad, 0), TeaLaws.BAD);
        }
        for (int bad : BAD_LAWS) {
            DOC.due("deed(0, " + bad + ")", x.deed(0, bad), TeaLaws.BAD);
        }
        DOC.due("none of them is one", x.count(5), 0);
        for (int n = 1; n <= 12; n++) {
            DOC.due("up to the last", x.deed(n % 2 * 27, n % 2 * 7), n);
        }
        DOC.by(0, "DEEDS, 12 at most (0 on): on a DAY against a LAW.");
        DOC.due("one too many", x.deed(0, 0), TeaLaws.FULL);
        DOC.due("one too many", x.deed(27, 7), TeaLaws.FULL);
        DOC.due("DEEDS", x.count(5), 12);
        DOC.due("all twelve are broken", x.broken(0), 4095);
        DOC.due("BAD ahead of FULL", x.deed(28, 0), TeaLaws.BAD);
        DOC.due("BAD ahead of FULL", x.deed(0, 8), TeaLaws.BAD);
        x.back(1);
        DOC.due("room again", x.deed(0, 1), 12);
        DOC.due("the new one tells", x.broken(0), 2047);
    }

    private static void back() {
        DOC.by(10, "The last CRACK (what = 0), DEED (1) is undone: how many are left. BAD; NOT: there is none.");
        TeaLaws x = Courts.of("a1s;a2s", "sbs+A");
        for (int bad : BAD_TWO) {
            DOC.due("back(" + bad + ")", x.back(bad), TeaLaws.BAD);
        }
        DOC.due("no CRACK", x.back(0), TeaLaws.NOT);
        DOC.due("no DEED", x.back(1), TeaLaws.NOT);
        x.crack(0, 1);
        DOC.due("no DEED, though a CRACK", x.back(1), TeaLaws.NOT);
        x.crack(0, 0);
        DOC.due("of two CRACKS", x.back(0), 1);
        DOC.due("the last one is gone", x.reading(0, 0), 1);
        DOC.due("the only CRACK", x.back(0), 0);
        DOC.due("no CRACK any more", x.back(0), TeaLaws.NOT);
        DOC.due("CRACKS", x.count(4), 0);
        x.deed(3, 1);
        DOC.due("no CRACK, though a DEED", x.back(0), TeaLaws.NOT);
        x.deed(3, 0);
        DOC.due("broken", x.broken(0), 2);
        DOC.due("of two DEEDS", x.back(1), 1);
        DOC.due("the last one is gone", x.broken(0), 0);
        DOC.due("the only DEED", x.back(1), 0);
        DOC.due("no DEED any more", x.back(1), TeaLaws.NOT);
        DOC.due("DEEDS", x.count(5), 0);
    }

    private static void set() {
        DOC.by(11, "FIRST (what = 0), STEP (1): what it was. BAD.");
        TeaLaws x = new TeaLaws();
        for (int bad : BAD_TWO) {
            DOC.due("set(" + bad + ", 0)", x.set(bad, 0), TeaLaws.BAD);
        }
        for (int what = 0; what < 2; what++) {
            for (int bad : BAD_TURNS) {
                DOC.due("set(" + what + ", " + bad + ")", x.set(what, bad), TeaLaws.BAD);
            }
        }
        DOC.by(0, "FIRST (0 to 3; 0 at first)");
        DOC.due("at first, to the most", x.set(0, 3), 0);
        DOC.due("back to the least", x.set(0, 0), 3);
        DOC.due("as it was", x.set(0, 0), 0);
        DOC.by(0, "STEP (0 to 3; 1 at first)");
        DOC.due("at first, to the most", x.set(1, 3), 1);
        DOC.due("to the least", x.set(1, 0), 3);
        DOC.due("as it was", x.set(1, 0), 0);
    }
}
