/** Boundary cases of what was READ, chance and SHEETS: what stands ahead of the promises, and promises 23 to 36. */
public final class BoundarySheetsTest {
    private static final Sentences DOC = new Sentences("BoundarySheetsTest");
    private static final int LEAST = Sentences.LEAST, MOST = Sentences.MOST;
    private static final int[] BAD_TWO = Sentences.beside(0, 1), BAD_THREE = Sentences.beside(0, 2);
    private static final int[] BAD_FOUR = Sentences.beside(0, 3), BAD_LAWS = Sentences.beside(0, 7);
    private static final int[] BAD_BITS = Sentences.beside(0, 255);
    private static final int NULL = -11, INDEX = -12, CAST = -13, STORE = -14, SIZE = -15;
    private static final int SIZE_BEFORE = 5;

    public static void main(String[] args) {
        read();
        forget();
        take();
        fits();
        fractions();
        sinks();
        lots();
        mornings();
        sheetsAtFirst();
        sheet();
        lose();
        lay();
        get();
        copy();
        write();
        findings();
        count();
        digest();
        DOC.end(23, 36);
    }

    private static void read() {
        DOC.by(23, "READ more: how many. BAD; FULL.");
        TeaLaws x = new TeaLaws();
        for (int i = 0; i < 4; i++) {
            DOC.due("read(" + BAD_FOUR[i] + ", 0)", x.read(BAD_FOUR[i], 0), TeaLaws.BAD);
            DOC.due("read(0, " + BAD_BITS[i] + ")", x.read(0, BAD_BITS[i]), TeaLaws.BAD);
        }
        DOC.due("nothing READ yet", x.count(6), 0);
        DOC.by(0, "READ, 8 at most: by TURNS there was a READING (bits).");
        for (int n = 1; n <= 8; n++) {
            DOC.due("up to the last", x.read(n % 2 * 3, n % 2 * 255), n);
        }
        DOC.due("one too many", x.read(0, 0), TeaLaws.FULL);
        DOC.due("one too many", x.read(3, 255), TeaLaws.FULL);
        DOC.due("READ", x.count(6), 8);
        DOC.due("BAD ahead of FULL", x.read(4, 0), TeaLaws.BAD);
        DOC.due("BAD ahead of FULL", x.read(0, 256), TeaLaws.BAD);
        TeaLaws y = Courts.of("a1s;a1s", "sbs+A");
        for (int n = 1; n <= 7; n++) {
            y.read(0, 0);
        }
        DOC.due("seven come out without the RULE", y.fits(0), 1);
        y.read(3, 1);
        DOC.due("the eighth does not", y.fits(0), 0);
    }

    private static void forget() {
        DOC.by(24, "All READ are forgotten: how many.");
        TeaLaws x = new TeaLaws();
        DOC.due("none", x.forget(), 0);
        for (int n = 1; n <= 8; n++) {
            x.read(0, 0);
        }
        DOC.due("all there may be", x.forget(), 8);
        DOC.due("none any more", x.forget(), 0);
        DOC.due("room again", x.read(0, 0), 1);
        DOC.due("that one", x.forget(), 1);
    }

    private static void take() {
        DOC.by(25, "READ from a SHEET: its items, two for each, as many as are whole, as long as each may be: how many. BAD; NULL.");
        TeaLaws x = new TeaLaws();
        for (int bad : BAD_FOUR) {
            DOC.due("take(" + bad + ")", x.take(bad), TeaLaws.BAD);
        }
        DOC.due("BAD is no FINDING", x.count(8), 0);
        for (int s = 0; s < 4; s++) {
            DOC.due("take of a LOST one", x.take(s), NULL);
        }
        DOC.due("NULL", x.count(8), 1);
        int[] due = {0, 0, 1, 1, 2, 2};
        for (int n = 0; n < due.length; n++) {
            x.forget();
            x.sheet(0, 2, n);
            DOC.due("as many as are whole of " + n, x.take(0), due[n]);
            DOC.due("READ of " + n, x.count(6), due[n]);
        }
        int[][] wrong = {{-1, 0}, {4, 0}, {LEAST, 0}, {MOST, 0}, {0, -1}, {0, 256}, {0, LEAST}, {0, MOST}};
        for (int[] pair : wrong) {
            x.forget();
            Courts.layAll(x, 0, 2, 3, 255, pair[0], pair[1], 0, 0);
            DOC.due("as long as each may be: not " + pair[0] + ", " + pair[1], x.take(0), 1);
            DOC.due("what comes behind is not READ", x.count(6), 1);
        }
        x.forget();
        Courts.layAll(x, 0, 2, 4, 0, 0, 0);
        DOC.due("the first one may not be", x.take(0), 0);
        DOC.due("nothing is READ", x.count(6), 0);
        x.sheet(1, 0, 60);
        DOC.due("no more than may be READ", x.take(1), 8);
        DOC.due("none while all are READ", x.take(1), 0);
        DOC.due("READ", x.count(6), 8);
        x.forget();
        x.read(0, 0);
        x.sheet(1, 0, 16);
        DOC.due("no more than there is room for", x.take(1), 7);
        DOC.due("READ", x.count(6), 8);
        DOC.due("the SHEET stays", x.lose(1), 16);
        x.forget();
        Courts.layAll(x, 1, 0, 3, 127, 3, 128);
        DOC.due("128 in a byte is below 0", x.take(1), 1);
        x.forget();
        Courts.layAll(x, 1, 1, 3, 255, 3, 65535);
        DOC.due("65535 in a short is below 0", x.take(1), 1);
    }

    private static void fits() {
        DOC.by(26, "MISSING (what = 0), PLACED (1), TURNED (2), as bits. BAD.");
        TeaLaws x = Courts.of(Courts.TWELVE_LEAVES, Courts.TEN_RULES);
        for (int bad : BAD_THREE) {
            DOC.due("fits(" + bad + ")", x.fits(bad), TeaLaws.BAD);
        }
        int[] all = {1023, 4095, 1023};
        for (int what = 0; what < 3; what++) {
            DOC.due("nothing READ: all of " + what, x.fits(what), all[what]);
            DOC.due("no LEAVES, no RULES: none of " + what, new TeaLaws().fits(what), 0);
        }
        x.read(0, 255);
        for (int what = 0; what < 3; what++) {
            DOC.due("never so: none of " + what, x.fits(what), 0);
        }
        DOC.by(0, "RULES each of which, had it alone not been there, makes all that was READ come out so, as bits.");
        TeaLaws last = Courts.of("a1s;a1s", "sbs+A;sbs+B;sbs+C;sbs+D;sbs+E;sbs+F;sbs+G;sbs+H;sbs-A;sbs+A");
        last.read(0, 254);
        DOC.due("the last RULE there may be", last.fits(0), 0b1000000000);
        DOC.due("the last RULE there may be, turned", last.fits(2), 0b1000000000);
        last.forget();
        last.read(3, 127);
        DOC.due("the one RULE of a LAW", last.fits(0), 0b0010000000);
        last.forget();
        last.read(0, 255);
        DOC.due("RULES that tell nothing", last.fits(0), 0b0100000001);
        DOC.due("RULES that tell nothing, turned", last.fits(2), 0b0100000001);
        DOC.by(0, "PLACED: LEAVES likewise, as bits.");
        TeaLaws leaf = Courts.of("a1s;a1s;a1s;a1s;a1s;a1s;a1s;a1s;a1s;a1s;a1s;f6d", "sbs+A;sbd+B");
        leaf.read(0, 1);
        DOC.due("the last LEAF there may be", leaf.fits(1), 0b100000000000);
        leaf.forget();
        leaf.read(0, 3);
        DOC.due("all the others", leaf.fits(1), 0b011111111111);
        leaf.forget();
        leaf.read(0, 2);
        DOC.due("never by one alone", leaf.fits(1), 0);
        leaf.crack(5, 5);
        leaf.forget();
        leaf.read(0, 1);
        DOC.due("one that does not count tells nothing", leaf.fits(1), 0b111111111111);
        leaf.read(1, 1);
        DOC.due("but it counts, turned", leaf.fits(1), 0b100000000000);
        TeaLaws three = Courts.of("a1s;b1d;c1r", "sbd+A;dbr+B;sbr+C");
        int[] left = {0b010, 0b100, 0b001};
        for (int out = 0; out < 3; out++) {
            three.forget();
            three.read(0, left[out]);
            DOC.due("LEAF " + out + " OUT leaves the other two", three.fits(1), 1 << out);
        }
        DOC.by(0, "TURNED: RULES each of which, had it alone + for -, or - for +, likewise, as bits.");
        TeaLaws turned = Courts.of("a1s;a1s", "sbs-A;sos-A;sbs-B");
        turned.read(0, 1);
        DOC.due("- becomes +", turned.fits(2), 1);
        DOC.due("missing would not do", turned.fits(0), 0);
        turned.forget();
        turned.read(0, 0);
        DOC.due("one that does not apply", turned.fits(2), 2);
        Courts.retype(turned, 1, "sbs+A");
        DOC.due("+ becomes -", turned.fits(2), 1);
    }

    private static void chance(TeaLaws x, int c, int turns, int law, long above, long below) {
        String call = "sinks(" + c + ", " + turns + ", " + law + ", ";
        DOC.due(call + "0)", x.sinks(c, turns, law, 0), above);
        DOC.due(call + "1)", x.sinks(c, turns, law, 1), below);
    }

    private static void fractions() {
        DOC.by(0, "FRACTIONS are told in lowest terms, above and below (0 by 1).");
        chance(new TeaLaws(), 0, 0, 0, 0, 1);
        chance(new TeaLaws(), 16, 3, 7, 0, 1);
        TeaLaws x = Courts.of("a1s;a1s", "sbs+A;sbd+B");
        chance(x, 0, 0, 0, 1, 1);
        chance(x, 16, 0, 0, 0, 1);
        chance(x, 8, 0, 1, 0, 1);
        chance(x, 8, 0, 0, 1, 4);
        chance(x, 15, 0, 0, 1, 256);
        chance(x, 14, 0, 0, 1, 64);
        chance(x, 12, 0, 0, 1, 16);
        chance(x, 1, 0, 0, 225, 256);
    }

    private static void sinks() {
        DOC.by(27, "SINKS: above, below. BAD. (As the least long.)");
        TeaLaws x = Courts.of("a1s;a1s;a1s;a1s;a1s;a1s;a1s;a1s;a1s;a1s;a1s;a1s", "sbs+A;sbs+H");
        long bad = Long.MIN_VALUE + 2;
        for (int what = 0; what < 2; what++) {
            for (int i = 0; i < 4; i++) {
                DOC.due("sinks(bad, 0, 0, ..)", x.sinks(Sentences.beside(0, 16)[i], 0, 0, what), bad);
                DOC.due("sinks(0, bad, 0, ..)", x.sinks(0, BAD_FOUR[i], 0, what), bad);
                DOC.due("sinks(0, 0, bad, ..)", x.sinks(0, 0, BAD_LAWS[i], what), bad);
            }
        }
        for (int what : BAD_TWO) {
            DOC.due("sinks(0, 0, 0, " + what + ")", x.sinks(0, 0, 0, what), bad);
        }
        DOC.by(0, "each LEAF is OUT by c sixteenths (0 to 16), by itself");
        chance(x, 0, 0, 0, 1, 1);
        chance(x, 16, 3, 7, 0, 1);
        // But for none and for one of twelve that stays: 16^12 less c^12 less 12 c^11 (16 - c).
        chance(x, 1, 3, 7, (1L << 48) - 1 - 12 * 15, 1L << 48);
        chance(x, 15, 0, 0, (1L << 48) - 27L * 8649755859375L, 1L << 48);
        chance(x, 8, 0, 0, 4096 - 1 - 12, 4096);
        x.crack(0, 0);
        chance(x, 8, 0, 0, 0, 1);
        chance(x, 8, 1, 0, 4096 - 1 - 12, 4096);
    }

    private static void lots() {
        DOC.by(0, "SEED becomes 1103515245 SEED and 12345, as ints that wrap; its upper 16 bits as a number from 0 on, modulo m.");
        TeaLaws x = Courts.compass();
        // 0 becomes 12345: upper bits 0. 1 becomes 1103527590: 16838. -1 becomes 3191464396 of 2^32: 48697.
        // The most int becomes 1043980748: 15929. The least int becomes 2147495993: 32768. 7 becomes 3429674768: 52332.
        int[] seeds = {0, 1, -1, MOST, LEAST, 7};
        int[] turns = {0, 2, 1, 1, 0, 0};
        for (int i = 0; i < seeds.length; i++) {
            for (int law = 0; law < 4; law++) {
                DOC.due("mornings(" + seeds[i] + ", 1, " + law + ")", x.mornings(seeds[i], 1, law), law == turns[i] ? 1 : 0);
            }
        }
        for (int seed : seeds) {
            long lot = seed;
            int[] by = new int[4];
            for (int n = 1; n <= 99; n++) {
                lot = lot * 1103515245L + 12345L & 0xFFFFFFFFL;
                by[(int) (lot / 65536 % 4)]++;
            }
            for (int law = 0; law < 4; law++) {
                DOC.due("mornings(" + seed + ", 99, " + law + ")", x.mornings(seed, 99, law), by[law]);
            }
        }
    }

    private static void mornings() {
        DOC.by(28, "MORNINGS. BAD.");
        TeaLaws x = Courts.of("a1s;a1s", "sbs+A");
        for (int bad : Sentences.beside(1, 99)) {
            DOC.due("mornings(7, " + bad + ", 0)", x.mornings(7, bad, 0), TeaLaws.BAD);
        }
        for (int bad : BAD_LAWS) {
            DOC.due("mornings(7, 1, " + bad + ")", x.mornings(7, 1, bad), TeaLaws.BAD);
        }
        DOC.by(0, "so many (1 to 99): for each a LOT of 4: TURNS: on how many a LAW is in force.");
        DOC.due("the fewest", x.mornings(7, 1, 0), 1);
        DOC.due("the most", x.mornings(7, 99, 0), 99);
        DOC.due("never in force", x.mornings(7, 99, 7), 0);
        DOC.due("the same again", x.mornings(7, 99, 0), 99);
    }

    private static void sheetsAtFirst() {
        DOC.by(0, "SHEETS 0 .. 3 are LOST (at first) or a row of a FORM: 0 bytes, 1 shorts, 2 ints, of 0 to 60 items (0 at first).");
        TeaLaws x = new TeaLaws();
        for (int s = 0; s < 4; s++) {
            DOC.due("lose(" + s + ") at first", x.lose(s), NULL);
            for (int form = 0; form < 3; form++) {
                DOC.due("no items", x.sheet(s, form, 0), 0);
                DOC.due("no first item", x.lay(s, form, 0, 1), INDEX);
                DOC.due("the most items", x.sheet(s, form, 60), 60);
                DOC.due("the first item at first", x.get(s, form, 0), 0);
                DOC.due("the last item at first", x.get(s, form, 59), 0);
                DOC.due("none behind it", x.lay(s, form, 60, 1), INDEX);
                DOC.due("an item more", x.sheet(s, form, 61), TeaLaws.BAD);
            }
        }
    }

    private static void sheet() {
        DOC.by(29, "A SHEET is a new row of a FORM with n items: n. BAD: SHEET, FORM, above 60; SIZE.");
        TeaLaws x = new TeaLaws();
        Courts.layAll(x, 1, 1, 5, 6, 7);
        for (int i = 0; i < 4; i++) {
            DOC.due("sheet(" + BAD_FOUR[i] + ", 0, 1)", x.sheet(BAD_FOUR[i], 0, 1), TeaLaws.BAD);
            DOC.due("sheet(1, " + BAD_THREE[i] + ", 1)", x.sheet(1, BAD_THREE[i], 1), TeaLaws.BAD);
            DOC.due("BAD ahead of SIZE", x.sheet(BAD_FOUR[i], 0, -1), TeaLaws.BAD);
            DOC.due("BAD ahead of SIZE", x.sheet(1, BAD_THREE[i], -1), TeaLaws.BAD);
        }
        DOC.due("one item too many", x.sheet(1, 2, 61), TeaLaws.BAD);
        DOC.due("far too many", x.sheet(1, 2, MOST), TeaLaws.BAD);
        DOC.due("BAD is no FINDING", x.count(8), 0);
        DOC.due("one item too few", x.sheet(1, 2, -1), SIZE);
        DOC.due("SIZE", x.count(8), 5);
        DOC.due("far too few", x.sheet(1, 2, LEAST), SIZE);
        for (int i = 0; i < 3; i++) {
            DOC.due("refused, it is as it was", x.get(1, 1, i), 5 + i);
        }
        DOC.due("a new row of the same FORM", x.sheet(1, 1, 3), 3);
        for (int i = 0; i < 3; i++) {
            DOC.due("its items are new", x.get(1, 1, i), 0);
        }
        x.lay(1, 1, 2, 9);
        x.sheet(1, 1, 2);
        x.sheet(1, 1, 3);
        DOC.due("nothing is left behind", x.get(1, 1, 2), 0);
        x.sheet(1, 0, 0);
        DOC.due("none is not LOST", x.lose(1), 0);
        DOC.due("sheet of a LOST one: the most", x.sheet(1, 2, 60), 60);
    }

    private static void lose() {
        DOC.by(30, "It is LOST: how many items it had. BAD; NULL.");
        TeaLaws x = new TeaLaws();
        for (int bad : BAD_FOUR) {
            DOC.due("lose(" + bad + ")", x.lose(bad), TeaLaws.BAD);
        }
        DOC.due("BAD is no FINDING", x.count(8), 0);
        int[] sizes = {0, 1, 59, 60};
        for (int s = 0; s < 4; s++) {
            x.sheet(s, 2, sizes[s]);
        }
        for (int s = 0; s < 4; s++) {
            DOC.due("lose(" + s + ")", x.lose(s), sizes[s]);
            DOC.due("lose(" + s + ") again", x.lose(s), NULL);
            DOC.due("NULL", x.count(8), 1);
            DOC.due("none of its items is there", x.lay(s, 2, 0, 1), NULL);
        }
    }

    private static void lay() {
        DOC.by(31, "Item i, treated as of a FORM, becomes v (the lowest bits that it has): 1. BAD; NULL; CAST; INDEX.");
        TeaLaws x = new TeaLaws();
        int[] values = {127, 128, 255, 256, -128, -129, 32767, 32768, 65535, 65536, -32768, -32769, MOST, LEAST, -1};
        int[] bytes = {127, -128, -1, 0, -128, 127, -1, 0, -1, 0, 0, -1, -1, 0, -1};
        int[] shorts = {127, 128, 255, 256, -128, -129, 32767, -32768, -1, 0, -32768, 32767, -1, 0, -1};
        int[][] due = {bytes, shorts, values};
        for (int form = 0; form < 3; form++) {
            x.sheet(form, form, 60);
            for (int i = 0; i < values.length; i++) {
                DOC.due("lay", x.lay(form, form, 59, values[i]), 1);
                DOC.due(values[i] + " in FORM " + form, x.get(form, form, 59), due[form][i]);
            }
            for (int bad : BAD_FOUR) {
                DOC.due("lay(" + bad + ", ..)", x.lay(bad, form, 0, 1), TeaLaws.BAD);
            }
            for (int bad : BAD_THREE) {
                DOC.due("lay(.., " + bad + ", ..)", x.lay(form, bad, 0, 1), TeaLaws.BAD);
                DOC.due("BAD ahead of NULL", x.lay(3, bad, 0, 1), TeaLaws.BAD);
            }
        }
        DOC.due("BAD is no FINDING", x.count(8), 0);
        for (int form = 0; form < 3; form++) {
            DOC.due("NULL ahead of CAST and INDEX", x.lay(3, form, 60, 1), NULL);
            DOC.due("CAST ahead of INDEX", x.lay(form, (form + 1) % 3, 60, 1), CAST);
            DOC.due("CAST ahead of INDEX", x.lay(form, (form + 2) % 3, -1, 1), CAST);
            DOC.due("CAST", x.lay(form, (form + 1) % 3, 59, 1), CAST);
            for (int bad : Sentences.beside(0, 59)) {
                DOC.due("INDEX with " + bad, x.lay(form, form, bad, 1), INDEX);
            }
            DOC.due("refused, it is as it was", x.get(form, form, 59), -1);
            DOC.due("refused, it is as it was", x.get(form, form, 0), 0);
        }
    }

    /** SIZE comes first, so that count() 8 can tell whether the refused get has a FINDING, and which one. */
    private static void refusedGet(TeaLaws x, int s, int form, int i, int finding) {
        x.sheet(0, 0, -1);
        DOC.due("get(" + s + ", " + form + ", " + i + ")", x.get(s, form, i), LEAST);
        DOC.due("FINDING of get(" + s + ", " + form + ", " + i + ")", x.count(8), finding);
    }

    private static void get() {
        DOC.by(32, "Item i of it. BAD: the least int; so are NULL, CAST, INDEX (count() 8 tells).");
        TeaLaws x = new TeaLaws();
        Courts.layAll(x, 0, 1, 5, 6);
        x.sheet(1, 2, 0);
        DOC.due("the first item", x.get(0, 1, 0), 5);
        DOC.due("the last item", x.get(0, 1, 1), 6);
        for (int i = 0; i < 4; i++) {
            refusedGet(x, BAD_FOUR[i], 1, 0, SIZE_BEFORE);
            refusedGet(x, 0, BAD_THREE[i], 0, SIZE_BEFORE);
            refusedGet(x, 3, BAD_THREE[i], 0, SIZE_BEFORE);
            refusedGet(x, 0, 1, Sentences.beside(0, 1)[i], 2);
        }
        refusedGet(x, 3, 1, 60, 1);
        refusedGet(x, 0, 0, 0, 3);
        refusedGet(x, 0, 2, 2, 3);
        refusedGet(x, 1, 2, 0, 2);
        Courts.layAll(x, 2, 2, LEAST);
        x.lose(3);
        DOC.due("the least int as an item", x.get(2, 2, 0), LEAST);
        DOC.due("is no FINDING", x.count(8), 1);
    }

    private static void copied(TeaLaws x, int due, int... call) {
        x.sheet(0, 0, -1);
        String told = "copy(" + call[0] + ", " + call[1] + ", " + call[2] + ", " + call[3] + ", " + call[4] + ")";
        DOC.due(told, x.copy(call[0], call[1], call[2], call[3], call[4]), due);
        DOC.due("FINDING of " + told, x.count(8), due <= -10 ? -10 - due : SIZE_BEFORE);
    }

    private static void items(TeaLaws x, int s, int form, int... due) {
        for (int i = 0; i < due.length; i++) {
            DOC.due("item " + i + " of SHEET " + s, x.get(s, form, i), due[i]);
        }
    }

    private static void copy() {
        DOC.by(33, "n items of SHEET s, from i on, come to SHEET t (perhaps s, as they were), from j on: 1.");
        TeaLaws x = new TeaLaws();
        Courts.layAll(x, 0, 1, 1, 2, 3, 4, 5);
        Courts.layAll(x, 1, 1, 10, 20, 30);
        x.sheet(2, 2, 5);
        copied(x, 1, 0, 0, 0, 1, 4);
        items(x, 0, 1, 1, 1, 2, 3, 4);
        copied(x, 1, 0, 1, 0, 0, 4);
        items(x, 0, 1, 1, 2, 3, 4, 4);
        copied(x, 1, 0, 0, 0, 0, 5);
        items(x, 0, 1, 1, 2, 3, 4, 4);
        copied(x, 1, 0, 4, 1, 2, 1);
        items(x, 1, 1, 10, 20, 4);
        copied(x, 1, 1, 0, 0, 2, 3);
        items(x, 0, 1, 1, 2, 10, 20, 4);
        copied(x, 1, 0, 0, 1, 0, 0);
        copied(x, 1, 0, 5, 1, 3, 0);
        items(x, 1, 1, 10, 20, 4);
        DOC.by(33, "BAD: the SHEETS; NULL: s, t; STORE; INDEX: below 0, not so many.");
        for (int bad : BAD_FOUR) {
            copied(x, TeaLaws.BAD, bad, 0, 3, 0, 1);
            copied(x, TeaLaws.BAD, 3, 0, bad, 0, 1);
            copied(x, TeaLaws.BAD, bad, -1, bad, -1, -1);
        }
        copied(x, NULL, 3, 0, 0, 0, 1);
        copied(x, NULL, 0, 0, 3, 0, 1);
        copied(x, NULL, 3, -1, 3, 60, -1);
        copied(x, NULL, 2, -1, 3, 60, -1);
        copied(x, STORE, 0, 0, 2, 0, 1);
        copied(x, STORE, 2, 0, 0, 0, 0);
        copied(x, STORE, 0, -1, 2, 6, -1);
        int[][] places = {{-1, 0, 1}, {0, -1, 1}, {0, 0, -1}, {5, 0, 1}, {0, 3, 1}, {6, 0, 0}, {0, 4, 0}, {3, 0, 3}, {0, 1, 3},
            {0, 0, 4}, {LEAST, 0, 0}, {0, LEAST, 0}, {0, 0, LEAST}, {MOST, 0, 1}, {0, MOST, 1}, {0, 0, MOST}, {1, 1, MOST},
            {MOST, MOST, MOST}, {LEAST, LEAST, LEAST}, {-1, -1, 2}, {MOST, 0, MOST}, {LEAST, 0, MOST}, {-1, 0, 0}, {0, -1, 0}};
        for (int[] p : places) {
            copied(x, INDEX, 0, p[0], 1, p[1], p[2]);
        }
        copied(x, INDEX, 0, 0, 0, 1, 5);
        copied(x, INDEX, 0, 1, 0, 0, 5);
        items(x, 0, 1, 1, 2, 10, 20, 4);
        items(x, 1, 1, 10, 20, 4);
        x.sheet(3, 1, 0);
        copied(x, 1, 3, 0, 3, 0, 0);
        copied(x, INDEX, 3, 0, 0, 0, 1);
        copied(x, INDEX, 0, 0, 3, 0, 1);
    }

    private static void write() {
        DOC.by(34, "READINGS of DAYS 0 on, as bits, come to a SHEET from item 0 on, as many as there are items, "
                + "28 at most: how many. BAD; NULL.");
        TeaLaws x = Courts.compass();
        for (int bad : BAD_FOUR) {
            DOC.due("write(" + bad + ")", x.write(bad), TeaLaws.BAD);
        }
        DOC.due("BAD is no FINDING", x.count(8), 0);
        DOC.due("write to a LOST one", x.write(3), NULL);
        DOC.due("NULL", x.count(8), 1);
        int[] sizes = {0, 1, 27, 28, 29, 60};
        for (int n : sizes) {
            x.sheet(0, 1, n);
            for (int i = 0; i < n; i++) {
                x.lay(0, 1, i, 99);
            }
            int written = Math.min(n, 28);
            DOC.due("to " + n + " items", x.write(0), written);
            for (int i = Math.max(0, written - 2); i < Math.min(n, written + 1); i++) {
                DOC.due("item " + i + " of " + n, x.get(0, 1, i), i < 28 ? 1 << i % 4 : 99);
            }
            DOC.due("its items", x.lose(0), n);
        }
        TeaLaws all = Courts.of("a1s;a1s", "sbs+A;sbs+B;sbs+C;sbs+D;sbs+E;sbs+F;sbs+G;sbs+H");
        int[] due = {-1, 255, 255};
        for (int form = 0; form < 3; form++) {
            all.sheet(form, form, 28);
            all.write(form);
            DOC.due("all LAWS in FORM " + form, all.get(form, form, 27), due[form]);
        }
    }

    private static void findings() {
        DOC.by(0, "FINDINGS (answers -10 less the number; they change nothing but count() 8)");
        TeaLaws x = new TeaLaws();
        x.sheet(0, 0, 1);
        x.sheet(1, 1, 1);
        DOC.due("before any", x.count(8), 0);
        DOC.by(0, "1 NULL: the SHEET is LOST");
        DOC.due("lose", x.lose(2), -11);
        DOC.due("its number", x.count(8), 1);
        DOC.by(0, "2 INDEX: there is no such item");
        DOC.due("lay", x.lay(0, 0, 1, 0), -12);
        DOC.due("its number", x.count(8), 2);
        DOC.by(0, "3 CAST: it has another FORM");
        DOC.due("lay", x.lay(0, 1, 0, 0), -13);
        DOC.due("its number", x.count(8), 3);
        DOC.by(0, "4 STORE: unlike FORMS");
        DOC.due("copy", x.copy(0, 0, 1, 0, 1), -14);
        DOC.due("its number", x.count(8), 4);
        DOC.by(0, "5 SIZE: below 0");
        DOC.due("sheet", x.sheet(0, 0, -1), -15);
        DOC.due("its number", x.count(8), 5);
    }

    private static void count() {
        DOC.by(35, "0 LEAVES, 1 RULES, 2, 3 bytes of texts, 4 CRACKS, 5 DEEDS, 6 READ, 7 RULES with +, "
                + "8 the number of the latest FINDING (0 before any). BAD.");
        TeaLaws x = Courts.of(Courts.TWELVE_LEAVES, Courts.TEN_RULES);
        for (int i = 0; i < 12; i++) {
            x.crack(0, 0);
            x.deed(0, 0);
            x.read(0, 0);
        }
        int[] due = {12, 10, 47, 59, 8, 12, 8, 5, 0};
        for (int what = 0; what < 9; what++) {
            DOC.due("all full: count(" + what + ")", x.count(what), due[what]);
            DOC.due("all empty: count(" + what + ")", new TeaLaws().count(what), 0);
        }
        for (int bad : Sentences.beside(0, 8)) {
            DOC.due("count(" + bad + ")", x.count(bad), TeaLaws.BAD);
        }
        x.lose(0);
        x.lose(9);
        DOC.due("the latest FINDING, though BAD since", x.count(8), 1);
        DOC.due("no RULE with +", Courts.of("", "sbs-A;sbs-A").count(7), 0);
        DOC.due("all with +", Courts.of("", "sbs+A;sbs+A").count(7), 2);
        TeaLaws y = Courts.of("a1s;", "sbs+A;");
        int[] faulty = {0, 0, 4, 6, 0, 0, 0, 0, 0};
        for (int what = 0; what < 9; what++) {
            DOC.due("FAULTS: count(" + what + ")", y.count(what), faulty[what]);
        }
    }

    /** What a new object answers to each call that is in its digest, in order. */
    private static long digestOfNew() {
        long h = 17;
        for (int what = 0; what <= 7; what++) {
            h = 31 * h;
        }
        h = 31 * (31 * h - 1) - 1;
        for (int turns = 0; turns < 4; turns++) {
            int[] answers = {0, 0, 0, TeaLaws.NONE, TeaLaws.NONE, TeaLaws.NONE, TeaLaws.NONE, TeaLaws.NONE, TeaLaws.NONE};
            for (int answer : answers) {
                h = 31 * h + answer;
            }
        }
        for (int law = 0; law < 8; law++) {
            int[] answers = {(1 << 28) - 1, 0, TeaLaws.NONE, 0, 1, 0};
            for (int answer : answers) {
                h = 31 * h + answer;
            }
        }
        int[] answers = {0, TeaLaws.NONE, 0, 0, 0, 0};
        for (int answer : answers) {
            h = 31 * h + answer;
        }
        return h;
    }

    private static void digest() {
        DOC.by(36, "fits() 0 to 2; as longs that wrap.");
        DOC.due("of a new object", new TeaLaws().digest(), digestOfNew());
        TeaLaws full = Courts.of(Courts.TWELVE_LEAVES, Courts.TEN_RULES);
        long before = full.digest();
        DOC.due("the same again", full.digest(), before);
        full.sheet(0, 0, -1);
        full.sheet(0, 2, 60);
        DOC.due("count() 8 and SHEETS are not in it", full.digest(), before);
        full.type(0, 'a');
        full.crack(6, 6);
        DOC.due("refused calls are not in it", full.digest(), before);
        full.undo(0);
        full.type(0, 'r');
        full.crack(0, 0);
        full.back(0);
        full.deed(0, 0);
        full.back(1);
        full.read(0, 0);
        full.forget();
        DOC.due("what is undone is not in it", full.digest(), before);
    }
}
