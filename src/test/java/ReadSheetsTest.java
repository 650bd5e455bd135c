/** Promises 23 to 36: what was READ, chance, MORNINGS, SHEETS, count and digest. */
public final class ReadSheetsTest {
    private static final Check CHECK = new Check("ReadSheetsTest");
    private static final int LEAST = Integer.MIN_VALUE, MOST = Integer.MAX_VALUE;
    private static final int[] BAD_FOUR = {-1, 4, LEAST, MOST}, BAD_LAWS = {-1, 8, LEAST, MOST};
    private static final int[] BAD_BITS = {-1, 256, LEAST, MOST}, BAD_TWO = {-1, 2, LEAST, MOST};
    private static final int[] BAD_THREE = {-1, 3, LEAST, MOST};

    public static void main(String[] args) {
        readAndForget();
        take();
        fits();
        sinks();
        mornings();
        sheetAndLose();
        layAndGet();
        copy();
        write();
        count();
        digest();
        findingsChangeOnlyTheirCount();
        CHECK.end();
    }

    private static void readAndForget() {
        TeaLaws x = new TeaLaws();
        CHECK.due("forget() of none", x.forget(), 0);
        for (int i = 0; i < 4; i++) {
            CHECK.due("read(bad, 0)", x.read(BAD_FOUR[i], 0), TeaLaws.BAD);
            CHECK.due("read(0, bad)", x.read(0, BAD_BITS[i]), TeaLaws.BAD);
        }
        for (int n = 1; n <= 8; n++) {
            CHECK.due("read", x.read(n % 4, 255), n);
        }
        CHECK.due("read, one too many", x.read(0, 0), TeaLaws.FULL);
        CHECK.due("BAD ahead of FULL", x.read(4, 0), TeaLaws.BAD);
        CHECK.due("count(6)", x.count(6), 8);
        CHECK.due("forget()", x.forget(), 8);
        CHECK.due("count(6)", x.count(6), 0);
        CHECK.due("read again", x.read(3, 0), 1);
    }

    private static void take() {
        TeaLaws x = Courts.of("a1s;a2s", "sos+A");
        for (int bad : BAD_FOUR) {
            CHECK.due("take(bad)", x.take(bad), TeaLaws.BAD);
        }
        CHECK.due("take of a LOST one", x.take(2), -11);
        CHECK.due("count(8)", x.count(8), 1);
        Courts.layAll(x, 0, 2, 0, 1, 1, 0, 2, 1, 3);
        CHECK.due("take: the last one is not whole", x.take(0), 3);
        CHECK.due("count(6)", x.count(6), 3);
        CHECK.due("TURNS and LAWS are in their order", x.fits(2), 0);
        x.forget();
        Courts.layAll(x, 0, 2, 0, 0, 1, 0);
        CHECK.due("take", x.take(0), 2);
        CHECK.due("without the RULE it comes out so", x.fits(0), 1);
        x.forget();
        Courts.layAll(x, 1, 1, 3, 255, 4, 0, 0, 0);
        CHECK.due("take stops at TURNS that may not be", x.take(1), 1);
        Courts.layAll(x, 1, 1, 3, 256, 0, 0);
        CHECK.due("take stops at LAWS that may not be", x.take(1), 0);
        Courts.layAll(x, 1, 0, 3, 127, 3, 255, 0, 0);
        CHECK.due("255 in a byte is -1", x.take(1), 1);
        CHECK.due("they come behind what was READ", x.count(6), 2);
        x.sheet(3, 0, 60);
        CHECK.due("take stops where no more may be READ", x.take(3), 6);
        CHECK.due("count(6)", x.count(6), 8);
        CHECK.due("take while it is full", x.take(3), 0);
        x.forget();
        x.sheet(3, 0, 1);
        CHECK.due("take of one item", x.take(3), 0);
        x.sheet(3, 0, 0);
        CHECK.due("take of no item", x.take(3), 0);
    }

    private static void fits() {
        TeaLaws x = Courts.of("a1s;a2s;f6d", "sbs+A;sbd+B;sns-A");
        CHECK.due("nothing READ: MISSING", x.fits(0), 7);
        CHECK.due("nothing READ: PLACED", x.fits(1), 7);
        CHECK.due("nothing READ: TURNED", x.fits(2), 7);
        CHECK.due("READING", x.reading(0, 2), 2);
        x.read(0, 3);
        CHECK.due("MISSING", x.fits(0), 4);
        CHECK.due("PLACED", x.fits(1), 0);
        CHECK.due("TURNED", x.fits(2), 4);
        x.forget();
        x.read(1, 0);
        CHECK.due("MISSING", x.fits(0), 2);
        CHECK.due("PLACED", x.fits(1), 4);
        CHECK.due("TURNED", x.fits(2), 2);
        x.forget();
        x.read(2, 2);
        CHECK.due("what is READ already: MISSING", x.fits(0), 1);
        CHECK.due("what is READ already: PLACED", x.fits(1), 3);
        CHECK.due("what is READ already: TURNED", x.fits(2), 1);
        x.read(0, 3);
        CHECK.due("all that was READ", x.fits(0), 0);
        x.forget();
        x.crack(5, 5);
        x.read(0, 0);
        x.read(1, 2);
        CHECK.due("by a CRACK: MISSING", x.fits(0), 1);
        CHECK.due("by a CRACK: PLACED", x.fits(1), 3);
        x = Courts.of("a1s;a2s;c3d;f6d;a3s", "sns+A;dbd+B;dbd+B");
        x.read(0, 1);
        CHECK.due("two more RULES of one LAW: MISSING", x.fits(0), 0);
        CHECK.due("two more RULES of one LAW: TURNED", x.fits(2), 4);
        CHECK.due("either of two dots: PLACED", x.fits(1), 12);
        x.forget();
        x.read(0, 2);
        CHECK.due("no one of three stalks but that between: PLACED", x.fits(1), 2);
        CHECK.due("the RULE of stalks: MISSING", x.fits(0), 1);
        for (int bad : BAD_THREE) {
            CHECK.due("fits(bad)", x.fits(bad), TeaLaws.BAD);
        }
        CHECK.due("no RULES", new TeaLaws().fits(0), 0);
    }

    private static void chance(TeaLaws x, int c, int turns, int law, long above, long below) {
        String call = "sinks(" + c + ", " + turns + ", " + law + ", ";
        CHECK.due(call + "0)", x.sinks(c, turns, law, 0), above);
        CHECK.due(call + "1)", x.sinks(c, turns, law, 1), below);
    }

    private static void sinks() {
        TeaLaws x = Courts.of("a1s;a2s", "sos+A;sbd+B");
        chance(x, 0, 0, 0, 1, 1);
        chance(x, 1, 0, 0, 225, 256);
        chance(x, 4, 0, 0, 9, 16);
        chance(x, 8, 0, 0, 1, 4);
        chance(x, 15, 2, 0, 1, 256);
        chance(x, 16, 0, 0, 0, 1);
        chance(x, 4, 1, 0, 0, 1);
        chance(x, 4, 0, 1, 0, 1);
        Courts.retype(x, 0, "a1s;a2s;f6s");
        Courts.retype(x, 1, "sbs+A;sfs-A");
        // Only a1 and a2 without f6.
        chance(x, 8, 0, 0, 1, 8);
        chance(x, 4, 3, 0, 9, 64);
        x.crack(5, 5);
        chance(x, 4, 0, 0, 9, 16);
        Courts.retype(x, 1, "sbs+A");
        chance(x, 4, 1, 0, 27, 32);
        Courts.retype(x, 0, "c3s;c3s;c3s;c3s;c3s;c3s;c3s;c3s;c3s;c3s;c3s;c3s");
        chance(x, 1, 0, 0, 281474976710475L, 281474976710656L);
        chance(x, 0, 0, 0, 1, 1);
        chance(x, 8, 0, 0, 4083, 4096);
        chance(new TeaLaws(), 5, 1, 0, 0, 1);
        long bad = -9223372036854775806L;
        int[] badSixteenths = {-1, 17, LEAST, MOST};
        for (int i = 0; i < 4; i++) {
            CHECK.due("sinks(bad, ..)", x.sinks(badSixteenths[i], 0, 0, 0), bad);
            CHECK.due("sinks(0, bad, ..)", x.sinks(0, BAD_FOUR[i], 0, 0), bad);
            CHECK.due("sinks(0, 0, bad, ..)", x.sinks(0, 0, BAD_LAWS[i], 0), bad);
            CHECK.due("sinks(0, 0, 0, bad)", x.sinks(0, 0, 0, BAD_TWO[i]), bad);
        }
    }

    private static void mornings() {
        TeaLaws x = Courts.of("a1s;a2d", "sod+A;dos+B;sbd+C");
        int[] seeds = {0, 7, -1, LEAST, MOST, 123456789};
        for (int seed : seeds) {
            for (int n = 1; n <= 99; n += 7) {
                long lots = seed & 0xFFFFFFFFL;
                int[] by = new int[4];
                for (int i = 0; i < n; i++) {
                    lots = lots * 1103515245L + 12345L & 0xFFFFFFFFL;
                    by[(int) (lots / 65536 % 4)]++;
                }
                CHECK.due("mornings(" + seed + ", " + n + ", 0)", x.mornings(seed, n, 0), by[0]);
                CHECK.due("mornings(" + seed + ", " + n + ", 1)", x.mornings(seed, n, 1), by[2]);
                CHECK.due("mornings(" + seed + ", " + n + ", 2)", x.mornings(seed, n, 2), n);
                CHECK.due("mornings(" + seed + ", " + n + ", 3)", x.mornings(seed, n, 3), 0);
            }
        }
        x.set(0, 3);
        CHECK.due("FIRST does not turn MORNINGS", x.mornings(7, 20, 2), 20);
        // The first LOT of the SEED 7 is 52332 modulo 4.
        CHECK.due("mornings(7, 1, 0)", x.mornings(7, 1, 0), 1);
        int[] badMany = {0, -1, 100, LEAST, MOST};
        for (int bad : badMany) {
            CHECK.due("mornings(0, bad, 0)", x.mornings(0, bad, 0), TeaLaws.BAD);
        }
        for (int bad : BAD_LAWS) {
            CHECK.due("mornings(0, 1, bad)", x.mornings(0, 1, bad), TeaLaws.BAD);
        }
    }

    private static void sheetAndLose() {
        TeaLaws x = new TeaLaws();
        CHECK.due("sheet(0, 0, 0)", x.sheet(0, 0, 0), 0);
        CHECK.due("sheet(1, 1, 60)", x.sheet(1, 1, 60), 60);
        CHECK.due("sheet(3, 2, 5)", x.sheet(3, 2, 5), 5);
        for (int i = 0; i < 4; i++) {
            CHECK.due("sheet(bad, ..)", x.sheet(BAD_FOUR[i], 0, 1), TeaLaws.BAD);
            CHECK.due("sheet(0, bad, ..)", x.sheet(0, BAD_THREE[i], 1), TeaLaws.BAD);
            CHECK.due("lose(bad)", x.lose(BAD_FOUR[i]), TeaLaws.BAD);
        }
        CHECK.due("sheet(0, 0, 61)", x.sheet(0, 0, 61), TeaLaws.BAD);
        CHECK.due("sheet(0, 0, most)", x.sheet(0, 0, MOST), TeaLaws.BAD);
        CHECK.due("no finding yet", x.count(8), 0);
        CHECK.due("BAD ahead of SIZE", x.sheet(4, 0, -1), TeaLaws.BAD);
        CHECK.due("BAD ahead of SIZE", x.sheet(0, 3, -1), TeaLaws.BAD);
        CHECK.due("sheet(3, 0, -1)", x.sheet(3, 0, -1), -15);
        CHECK.due("sheet(3, 0, least)", x.sheet(3, 0, LEAST), -15);
        CHECK.due("count(8)", x.count(8), 5);
        CHECK.due("after SIZE it is as it was", x.lose(3), 5);
        CHECK.due("lose again", x.lose(3), -11);
        CHECK.due("count(8)", x.count(8), 1);
        CHECK.due("lose(0): it is not LOST with no items", x.lose(0), 0);
        CHECK.due("lose(1)", x.lose(1), 60);
        x.sheet(1, 1, 3);
        x.lay(1, 1, 2, 77);
        x.sheet(1, 2, 4);
        for (int i = 0; i < 4; i++) {
            CHECK.due("a new row has 0 everywhere", x.get(1, 2, i), 0);
        }
        CHECK.due("its old items are gone", x.get(1, 2, 4), LEAST);
    }

    private static void layAndGet() {
        TeaLaws x = new TeaLaws();
        int[] values = {0, 1, -1, 127, 128, 255, 256, -129, 32767, 32768, 65535, 65536, LEAST, MOST};
        for (int form = 0; form < 3; form++) {
            x.sheet(form, form, 60);
            for (int v : values) {
                int due = form == 0 ? (byte) v : form == 1 ? (short) v : v;
                CHECK.due("lay(" + form + ", .., " + v + ")", x.lay(form, form, 59, v), 1);
                CHECK.due("get(" + form + ") of " + v, x.get(form, form, 59), due);
            }
            CHECK.due("the one before stays", x.get(form, form, 58), 0);
        }
        CHECK.due("no finding yet", x.count(8), 0);
        for (int i = 0; i < 4; i++) {
            CHECK.due("lay(bad, ..)", x.lay(BAD_FOUR[i], 0, 0, 0), TeaLaws.BAD);
            CHECK.due("lay(0, bad, ..)", x.lay(0, BAD_THREE[i], 0, 0), TeaLaws.BAD);
            CHECK.due("get(bad, ..)", x.get(BAD_FOUR[i], 0, 0), LEAST);
            CHECK.due("get(0, bad, ..)", x.get(0, BAD_THREE[i], 0), LEAST);
        }
        CHECK.due("BAD is no finding", x.count(8), 0);
        CHECK.due("BAD ahead of NULL", x.lay(3, 3, 0, 0), TeaLaws.BAD);
        CHECK.due("lay: NULL ahead of others", x.lay(3, 0, -1, 0), -11);
        CHECK.due("count(8)", x.count(8), 1);
        CHECK.due("lay: CAST ahead of INDEX", x.lay(0, 1, 60, 0), -13);
        CHECK.due("count(8)", x.count(8), 3);
        CHECK.due("lay: INDEX", x.lay(0, 0, 60, 0), -12);
        CHECK.due("count(8)", x.count(8), 2);
        CHECK.due("lay: INDEX", x.lay(0, 0, -1, 0), -12);
        CHECK.due("lay: INDEX", x.lay(0, 0, LEAST, 0), -12);
        CHECK.due("get: NULL", x.get(3, 0, 0), LEAST);
        CHECK.due("count(8)", x.count(8), 1);
        CHECK.due("get: CAST ahead of INDEX", x.get(1, 2, 60), LEAST);
        CHECK.due("count(8)", x.count(8), 3);
        CHECK.due("get: INDEX", x.get(1, 1, 60), LEAST);
        CHECK.due("count(8)", x.count(8), 2);
        x.lay(2, 2, 0, LEAST);
        x.get(3, 0, 0);
        CHECK.due("the least int as an item", x.get(2, 2, 0), LEAST);
        CHECK.due("an item is no finding", x.count(8), 1);
    }

    private static void items(TeaLaws x, int s, int form, int... due) {
        for (int i = 0; i < due.length; i++) {
            CHECK.due("item " + i + " of " + s, x.get(s, form, i), due[i]);
        }
    }

    private static void copy() {
        TeaLaws x = new TeaLaws();
        Courts.layAll(x, 0, 1, 1, 2, 3, 4, 5);
        Courts.layAll(x, 1, 1, 10, 20, 30);
        Courts.layAll(x, 2, 2, 7, 7, 7);
        CHECK.due("copy(0, 1, 1, 0, 2)", x.copy(0, 1, 1, 0, 2), 1);
        items(x, 1, 1, 2, 3, 30);
        items(x, 0, 1, 1, 2, 3, 4, 5);
        CHECK.due("copy to itself, later on", x.copy(0, 0, 0, 1, 4), 1);
        items(x, 0, 1, 1, 1, 2, 3, 4);
        CHECK.due("copy to itself, earlier on", x.copy(0, 2, 0, 0, 3), 1);
        items(x, 0, 1, 2, 3, 4, 3, 4);
        CHECK.due("copy none at the end", x.copy(0, 5, 1, 3, 0), 1);
        CHECK.due("copy all", x.copy(1, 0, 0, 2, 3), 1);
        items(x, 0, 1, 2, 3, 2, 3, 30);
        int[][] wrong = {{-1, 0, 1}, {0, -1, 1}, {0, 0, -1}, {0, 0, 4}, {3, 0, 3}, {0, 1, 3}, {5, 0, 1}, {6, 0, 0}, {0, 4, 0},
            {0, 3, 1}, {MOST, 0, 1}, {0, MOST, 1}, {1, 1, MOST}, {LEAST, 0, 0}, {0, LEAST, 0}, {0, 0, LEAST}, {MOST, MOST, MOST}};
        for (int[] w : wrong) {
            x.sheet(3, 0, -1);
            CHECK.due("copy: INDEX", x.copy(0, w[0], 1, w[1], w[2]), -12);
            CHECK.due("count(8)", x.count(8), 2);
        }
        items(x, 0, 1, 2, 3, 2, 3, 30);
        items(x, 1, 1, 2, 3, 30);
        CHECK.due("copy: STORE ahead of INDEX", x.copy(0, 0, 2, -1, 1), -14);
        CHECK.due("count(8)", x.count(8), 4);
        CHECK.due("copy: STORE with none too", x.copy(0, 0, 2, 0, 0), -14);
        CHECK.due("copy: NULL, s", x.copy(3, -1, 2, 0, 0), -11);
        CHECK.due("count(8)", x.count(8), 1);
        CHECK.due("copy: NULL, t", x.copy(2, 0, 3, 0, -1), -11);
        CHECK.due("copy: NULL, both", x.copy(3, 0, 3, 0, 0), -11);
        for (int bad : BAD_FOUR) {
            CHECK.due("copy(bad, ..)", x.copy(bad, 0, 3, 0, 0), TeaLaws.BAD);
            CHECK.due("copy(3, 0, bad, ..)", x.copy(3, 0, bad, 0, 0), TeaLaws.BAD);
        }
    }

    private static void write() {
        TeaLaws x = Courts.of("a1s;a2d", "sod+H;dos+B");
        for (int bad : BAD_FOUR) {
            CHECK.due("write(bad)", x.write(bad), TeaLaws.BAD);
        }
        CHECK.due("write: NULL", x.write(0), -11);
        CHECK.due("count(8)", x.count(8), 1);
        x.sheet(0, 2, 30);
        x.lay(0, 2, 28, 9);
        x.lay(0, 2, 1, 9);
        CHECK.due("write(0)", x.write(0), 28);
        items(x, 0, 2, 128, 0, 2, 0, 128, 0, 2, 0);
        CHECK.due("the last DAY", x.get(0, 2, 26), 2);
        CHECK.due("behind the last DAY", x.get(0, 2, 28), 9);
        Courts.layAll(x, 1, 0, 5, 5, 5);
        x.set(0, 2);
        x.set(1, 2);
        CHECK.due("write(1)", x.write(1), 3);
        items(x, 1, 0, 2, -128, 2);
        x.sheet(2, 1, 0);
        CHECK.due("write to no items", x.write(2), 0);
        Courts.layAll(x, 2, 1, 5);
        CHECK.due("write to one item", x.write(2), 1);
        items(x, 2, 1, 2);
    }

    private static void count() {
        TeaLaws x = Courts.of("a1s;a2d;a3r", "sod+H;dos-B;rbr+A;rbr+A");
        x.crack(0, 0);
        x.crack(0, 0);
        x.deed(1, 1);
        x.read(0, 0);
        x.read(0, 0);
        x.read(0, 0);
        x.sheet(0, 0, -5);
        int[] due = {3, 4, 11, 23, 2, 1, 3, 3, 5};
        for (int what = 0; what < 9; what++) {
            CHECK.due("count(" + what + ")", x.count(what), due[what]);
        }
        int[] badWhats = {-1, 9, LEAST, MOST};
        for (int bad : badWhats) {
            CHECK.due("count(bad)", x.count(bad), TeaLaws.BAD);
        }
    }

    private static long h;

    private static void mix(long x) {
        h = 31 * h + x;
    }

    private static long digestByCalls(TeaLaws x) {
        h = 17;
        for (int what = 0; what <= 7; what++) {
            mix(x.count(what));
        }
        mix(x.fault(0));
        mix(x.fault(1));
        for (int i = 0; i < x.count(0) * 3; i++) {
            mix(x.leaf(i / 3, i % 3));
        }
        for (int i = 0; i < x.count(1) * 5; i++) {
            mix(x.rule(i / 5, i % 5));
        }
        for (int t = 0; t < 4; t++) {
            mix(x.reading(t, 0));
            mix(x.reading(t, 1));
            mix(x.reading(t, 2));
            mix(x.clash(t));
            mix(x.strain(t, 1, 2, 0));
            mix(x.strain(t, 1, 2, 1));
            mix(x.strike(t, 3, 0));
            mix(x.strike(t, 3, 1));
            mix(x.place(t, 0));
        }
        for (int law = 0; law < 8; law++) {
            mix(x.free(law));
            mix(x.sides(law, 0));
            mix(x.sides(law, 1));
            mix(x.sinks(5, 1, law, 0));
            mix(x.sinks(5, 1, law, 1));
            mix(x.mornings(7, 20, law));
        }
        mix(x.broken(0));
        mix(x.broken(1));
        mix(x.pour(5));
        mix(x.fits(0));
        mix(x.fits(1));
        mix(x.fits(2));
        return h;
    }

    private static void digest() {
        CHECK.due("digest of a new object", new TeaLaws().digest(), digestByCalls(new TeaLaws()));
        TeaLaws x = Courts.of("a1s;b2d;a3r;f6s;e5d;c3r", "snd+A;sor+B;sfd+C;rbr-A;dfr-C;sns+D");
        x.crack(2, 3);
        x.deed(3, 1);
        x.deed(0, 1);
        x.read(0, 2);
        CHECK.due("digest", x.digest(), digestByCalls(x));
        TeaLaws y = Courts.of("a1s;a2s;f6d", "sbs+A;sos+B;sfd+C;dbs-C");
        CHECK.due("digest with LAWS that hold, and that turn", y.digest(), digestByCalls(y));
        long before = x.digest();
        CHECK.due("digest again", x.digest(), before);
        x.sheet(1, 1, 1);
        x.lose(2);
        CHECK.due("SHEETS and findings are not in it", x.digest(), before);
        x.type(0, ';');
        CHECK.due("digest with a fault", x.digest(), digestByCalls(x));
        CHECK.holds("a fault changes it", x.digest() != before);
    }

    private static void findingsChangeOnlyTheirCount() {
        TeaLaws x = Courts.of("a1s;a2d", "sod+H");
        Courts.layAll(x, 0, 1, 3, 4);
        Courts.layAll(x, 1, 2, 5);
        x.read(1, 1);
        long before = x.digest();
        x.take(3);
        x.write(3);
        x.lose(3);
        x.lay(0, 2, 0, 9);
        x.lay(0, 1, 2, 9);
        x.copy(0, 0, 1, 0, 1);
        x.copy(0, 1, 0, 0, 2);
        x.sheet(0, 0, -1);
        CHECK.due("digest", x.digest(), before);
        items(x, 0, 1, 3, 4);
        items(x, 1, 2, 5);
        CHECK.due("count(8)", x.count(8), 5);
        x.type(0, 256);
        x.undo(5);
        x.sheet(9, 0, 0);
        CHECK.due("BAD leaves the latest finding", x.count(8), 5);
        x.lose(0);
        CHECK.due("what goes well leaves it too", x.count(8), 5);
    }
}
