/** Promises 12 to 22: where LEAVES lie, which RULES APPLY, READINGS, DEEDS against them, and plans. */
public final class ReadingsPlansTest {
    private static final Check CHECK = new Check("ReadingsPlansTest");
    private static final int LEAST = Integer.MIN_VALUE, MOST = Integer.MAX_VALUE;
    private static final int[] BAD_TURNS = {-1, 4, LEAST, MOST}, BAD_LAWS = {-1, 8, LEAST, MOST};
    private static final int[] BAD_BITS = {-1, 256, LEAST, MOST}, BAD_TWO = {-1, 2, LEAST, MOST};
    private static final int ALL_DAYS = (1 << 28) - 1;

    public static void main(String[] args) {
        lies();
        whenARuleApplies();
        cracksByTurns();
        theLastRuleTells();
        day();
        broken();
        free();
        clash();
        pour();
        strain();
        strike();
        place();
        sides();
        CHECK.end();
    }

    private static void lies() {
        TeaLaws x = Courts.of("b3s;a1d;f1r", "");
        int[][][] due = {{{1, 2}, {0, 0}, {5, 0}}, {{3, 1}, {5, 0}, {5, 5}}, {{4, 3}, {5, 5}, {0, 5}}, {{2, 4}, {0, 5}, {0, 0}}};
        for (int turns = 0; turns < 4; turns++) {
            for (int leaf = 0; leaf < 3; leaf++) {
                for (int what = 0; what < 2; what++) {
                    CHECK.due("lies(" + turns + ", " + leaf + ", " + what + ")", x.lies(turns, leaf, what), due[turns][leaf][what]);
                }
            }
        }
        for (int bad : BAD_TURNS) {
            CHECK.due("lies(bad, 0, 0)", x.lies(bad, 0, 0), TeaLaws.BAD);
        }
        int[] badLeaves = {-1, 3, LEAST, MOST};
        for (int bad : badLeaves) {
            CHECK.due("lies(0, bad, 0)", x.lies(0, bad, 0), TeaLaws.BAD);
        }
        for (int bad : BAD_TWO) {
            CHECK.due("lies(0, 0, bad)", x.lies(0, 0, bad), TeaLaws.BAD);
        }
    }

    private static void applies(String leaves, String rule, boolean due) {
        TeaLaws x = Courts.of(leaves, rule);
        CHECK.due(rule + " with " + leaves, x.reading(0, 1), due ? 1 : 0);
        CHECK.due("READING of " + rule + " with " + leaves, x.reading(0, 2), due ? 1 : 0);
    }

    private static void whenARuleApplies() {
        applies("c3s;d4d", "snd+A", true);
        applies("c3s;c3d", "snd+A", true);
        applies("c3s;d3d", "dns+A", true);
        applies("c3s;e3d", "snd+A", false);
        applies("c3s;c5d", "snd+A", false);
        applies("c3s;d5d", "snd+A", false);
        applies("c3s;d4d", "sns+A", false);
        applies("c3s;d4d", "snr+A", false);
        applies("c3s", "sns+A", false);
        applies("c3s", "sbs+A", false);
        applies("c3s;c3s", "sns+A", true);
        applies("c3s;c4d", "sod+A", true);
        applies("c3s;c6d", "sod+A", true);
        applies("c3s;c4d", "dos+A", false);
        applies("c4d;c3s", "sod+A", true);
        applies("c3s;c3d", "sod+A", false);
        applies("c3s;c3d", "dos+A", false);
        applies("c3s;d4d", "sod+A", false);
        applies("c3s;c2s", "sos+A", true);
        applies("a1s;d1d", "sfd+A", true);
        applies("a1s;c1d", "sfd+A", false);
        applies("a1s;a4d", "sfd+A", true);
        applies("a1s;a3d", "sfd+A", false);
        applies("a1s;c3d", "sfd+A", false);
        applies("f6s;a6d", "dfs+A", true);
        applies("a1s;c3d", "sbd+A", true);
        applies("a1s;c3d", "dbs+A", true);
        applies("a1s;c3d", "sbs+A", false);
        applies("", "sbs+A", false);
        applies("f6r;a1s;e5r", "rnr+A", true);
        TeaLaws x = Courts.of("c3s;d4d", "snd+A");
        for (int bad : BAD_TURNS) {
            CHECK.due("reading(bad, 0)", x.reading(bad, 0), TeaLaws.BAD);
        }
        int[] badWhats = {-1, 3, LEAST, MOST};
        for (int bad : badWhats) {
            CHECK.due("reading(0, bad)", x.reading(0, bad), TeaLaws.BAD);
        }
    }

    private static void cracksByTurns() {
        TeaLaws x = Courts.of("a1s;b2s;f6s", "sns+A;sfs+B");
        CHECK.due("all count", x.reading(0, 0), 7);
        CHECK.due("both apply", x.reading(0, 1), 3);
        x.crack(0, 0);
        CHECK.due("a1 does not count", x.reading(0, 0), 6);
        CHECK.due("only far", x.reading(0, 1), 2);
        CHECK.due("by one: none lies on it", x.reading(1, 0), 7);
        CHECK.due("by two: f6 lies on it", x.reading(2, 0), 3);
        CHECK.due("by two: only near", x.reading(2, 1), 1);
        CHECK.due("by two: READING", x.reading(2, 2), 1);
        CHECK.due("by three: none lies on it", x.reading(3, 0), 7);
        // b2 lies at COLUMN 4, ROW 1, turned by one.
        x.crack(4, 1);
        CHECK.due("by one: b2 lies on the other", x.reading(1, 0), 5);
    }

    private static void theLastRuleTells() {
        TeaLaws x = Courts.of("a1s;a2s", "sbs+A;sbs-A");
        CHECK.due("the later above the earlier", x.reading(0, 2), 0);
        CHECK.due("both apply", x.reading(0, 1), 3);
        Courts.retype(x, 1, "sbs-A;sbs+A");
        CHECK.due("the later above the earlier", x.reading(0, 2), 1);
        Courts.retype(x, 1, "sbs+A;sfs-A");
        CHECK.due("one that does not apply tells nothing", x.reading(0, 2), 1);
        Courts.retype(x, 1, "sbs+A;sbs-B;sbs+H");
        CHECK.due("each LAW for itself", x.reading(0, 2), 129);
        Courts.retype(x, 1, "sos+A");
        CHECK.due("over", x.reading(0, 2), 1);
        CHECK.due("over, turned by one", x.reading(1, 2), 0);
        CHECK.due("over, turned by two", x.reading(2, 2), 1);
        Courts.retype(x, 0, "a1s;a2d");
        Courts.retype(x, 1, "sod+A");
        CHECK.due("over", x.reading(0, 2), 1);
        CHECK.due("under, turned by two", x.reading(2, 2), 0);
    }

    /** A is in force by TURNS 0 alone, C by 2 alone. */
    private static TeaLaws upAndDown() {
        TeaLaws x = Courts.of("a1s;a2d;f6r", "sod+A;dos+C");
        return x;
    }

    private static void day() {
        TeaLaws x = upAndDown();
        int[] due = {1, 0, 4, 0};
        for (int day = 0; day < 28; day++) {
            CHECK.due("day(" + day + ")", x.day(day), due[day % 4]);
        }
        for (int first = 0; first < 4; first++) {
            // One court could not be asked so often.
            x = upAndDown();
            for (int step = 0; step < 4; step++) {
                x.set(0, first);
                x.set(1, step);
                for (int day = 0; day < 28; day++) {
                    CHECK.due("day by FIRST and STEP", x.day(day), due[(first + step * day) % 4]);
                }
            }
        }
        int[] badDays = {-1, 28, LEAST, MOST};
        for (int bad : badDays) {
            CHECK.due("day(bad)", x.day(bad), TeaLaws.BAD);
        }
    }

    private static void broken() {
        TeaLaws x = upAndDown();
        CHECK.due("broken(0) of none", x.broken(0), 0);
        CHECK.due("broken(1) of none", x.broken(1), TeaLaws.NONE);
        x.deed(5, 0);
        x.deed(2, 0);
        CHECK.due("none is broken", x.broken(0), 0);
        CHECK.due("none is first", x.broken(1), TeaLaws.NONE);
        x.deed(8, 0);
        x.deed(6, 2);
        x.deed(6, 2);
        x.deed(24, 0);
        CHECK.due("broken(0)", x.broken(0), 60);
        CHECK.due("the first by DAYS, then as told", x.broken(1), 3);
        x.deed(4, 0);
        CHECK.due("a later one on an earlier DAY", x.broken(1), 6);
        TeaLaws single = upAndDown();
        single.deed(4, 0);
        single.deed(8, 0);
        CHECK.due("the first one told", single.broken(1), 0);
        x.set(0, 2);
        CHECK.due("turned by FIRST", x.broken(0), 2);
        CHECK.due("turned by FIRST", x.broken(1), 1);
        for (int bad : BAD_TWO) {
            CHECK.due("broken(bad)", x.broken(bad), TeaLaws.BAD);
        }
    }

    private static void free() {
        TeaLaws x = upAndDown();
        CHECK.due("free(0)", x.free(0), 0xEEEEEEE);
        CHECK.due("free(2)", x.free(2), 0xBBBBBBB);
        CHECK.due("free(7)", x.free(7), ALL_DAYS);
        x.set(1, 0);
        CHECK.due("free(0), the cup stays", x.free(0), 0);
        CHECK.due("free(2), the cup stays", x.free(2), ALL_DAYS);
        for (int bad : BAD_LAWS) {
            CHECK.due("free(bad)", x.free(bad), TeaLaws.BAD);
        }
    }

    private static void clash() {
        TeaLaws x = Courts.of("a1s;a2s", "sbs+A;sbs+A;sbs-B;sfs-A;sbs-A;sbs+B");
        CHECK.due("the first that clashes", x.clash(0), 4);
        Courts.retype(x, 1, "sbs+A;sbs-A");
        CHECK.due("the second one", x.clash(0), 1);
        Courts.retype(x, 1, "sbs+A;sbs-B");
        CHECK.due("other LAWS do not clash", x.clash(0), TeaLaws.NONE);
        Courts.retype(x, 1, "sfs+A;sbs-A");
        CHECK.due("the earlier one does not apply", x.clash(0), TeaLaws.NONE);
        Courts.retype(x, 1, "sbs+A;sfs-A");
        CHECK.due("the later one does not apply", x.clash(0), TeaLaws.NONE);
        Courts.retype(x, 1, "sbs-A;sbs-A;sos+A");
        CHECK.due("- and then +", x.clash(0), 2);
        CHECK.due("turned by one none lies over", x.clash(1), TeaLaws.NONE);
        CHECK.due("turned by two again", x.clash(2), 2);
        for (int bad : BAD_TURNS) {
            CHECK.due("clash(bad)", x.clash(bad), TeaLaws.BAD);
        }
    }

    private static void pour() {
        TeaLaws x = upAndDown();
        CHECK.due("pour(1)", x.pour(1), 0);
        CHECK.due("pour(4)", x.pour(4), 2);
        CHECK.due("pour(5): of like ones the least", x.pour(5), 0);
        CHECK.due("pour(0): none in force is best", x.pour(0), 1);
        CHECK.due("pour(255)", x.pour(255), 0);
        CHECK.due("pour(8): others count against it", x.pour(8), 1);
        // By 0: A, B, C in force; by 2: D in force.
        Courts.retype(x, 1, "sod+A;sod+B;sod+C;dos+D");
        CHECK.due("one told less two others is below one other", x.pour(1), 1);
        CHECK.due("two told less one other", x.pour(3), 0);
        CHECK.due("two told less one other is one told", x.pour(11), 0);
        CHECK.due("pour(8)", x.pour(8), 2);
        for (int bad : BAD_BITS) {
            CHECK.due("pour(bad)", x.pour(bad), TeaLaws.BAD);
        }
    }

    private static void strained(TeaLaws x, int laws, int not, int bits) {
        String call = "strain(0, " + laws + ", " + not + ", ";
        CHECK.due(call + "1)", x.strain(0, laws, not, 1), bits);
        CHECK.due(call + "0)", x.strain(0, laws, not, 0), bits < 0 ? bits : Integer.bitCount(bits));
    }

    private static void strain() {
        TeaLaws x = Courts.of("a1s;a2s;a3s;c1d;c2d", "sbs+A;dnd-A;dbd+B");
        strained(x, 0, 0, 0);
        strained(x, 2, 0, 0);
        strained(x, 2, 1, 0);
        strained(x, 1, 0, 8);
        strained(x, 1, 2, 8);
        strained(x, 3, 0, TeaLaws.NONE);
        strained(x, 4, 0, TeaLaws.NONE);
        strained(x, 0, 2, 8);
        strained(x, 0, 3, 11);
        strained(x, 0, 252, 0);
        strained(new TeaLaws(), 0, 255, 0);
        strained(new TeaLaws(), 1, 0, TeaLaws.NONE);
        Courts.retype(x, 0, "c1d;a1s;c2d;a2s");
        strained(x, 0, 3, 3);
        Courts.retype(x, 0, "a1s;a2s;f6s;a6s");
        Courts.retype(x, 1, "sns+A;sfs+B");
        // One of the two that lie near leaves none near; far ones stay.
        strained(x, 2, 1, 1);
        strained(x, 1, 2, 12);
        CHECK.due("turned by one the same", x.strain(1, 1, 2, 1), 12);
        x.crack(5, 5);
        // f6 does not count already, so it is not strained out.
        strained(x, 1, 2, 8);
        CHECK.due("turned by two a1 lies on the crack", x.strain(2, 1, 2, 1), TeaLaws.NONE);
        TeaLaws most = Courts.of("a1s;a1s;a1s;a1s;a1s;a1s;a1s;a1s;a1s;a1s;a1s;a1s", "sbs+A");
        strained(most, 0, 1, 2047);
        for (int i = 0; i < 4; i++) {
            CHECK.due("strain(bad, ..)", x.strain(BAD_TURNS[i], 1, 2, 0), TeaLaws.BAD);
            CHECK.due("strain(0, bad, ..)", x.strain(0, BAD_BITS[i], 0, 0), TeaLaws.BAD);
            CHECK.due("strain(0, 0, bad, ..)", x.strain(0, 0, BAD_BITS[i], 0), TeaLaws.BAD);
            CHECK.due("strain(0, 0, 0, bad)", x.strain(0, 0, 0, BAD_TWO[i]), TeaLaws.BAD);
        }
        CHECK.due("a LAW told as both", x.strain(0, 3, 6, 0), TeaLaws.BAD);
        CHECK.due("255 and none", x.strain(0, 255, 0, 0), TeaLaws.NONE);
        CHECK.due("a LAW told as both", x.strain(0, 255, 1, 1), TeaLaws.BAD);
    }

    private static void struck(TeaLaws x, int laws, int bits) {
        String call = "strike(0, " + laws + ", ";
        CHECK.due(call + "1)", x.strike(0, laws, 1), bits);
        CHECK.due(call + "0)", x.strike(0, laws, 0), bits < 0 ? bits : Integer.bitCount(bits));
    }

    private static void strike() {
        TeaLaws x = Courts.of("a1s;a2s", "sbs+A;sbs-A;sbs+A;sbs+B;sfs+C;sbs-B;sns-A");
        struck(x, 0, 0);
        struck(x, 1, 64);
        struck(x, 2, 32);
        struck(x, 3, 96);
        struck(x, 4, TeaLaws.NONE);
        struck(x, 5, TeaLaws.NONE);
        Courts.retype(x, 1, "sbs+A;sbs+A;sbs+B");
        struck(x, 0, 7);
        struck(new TeaLaws(), 0, 0);
        struck(new TeaLaws(), 1, TeaLaws.NONE);
        struck(x, 1, 4);
        struck(x, 2, 3);
        struck(x, 3, 0);
        Courts.retype(x, 1, "sbs-A;sos+A;sbs+B");
        CHECK.due("turned by one the same LAWS need another", x.strike(1, 2, 1), 0);
        CHECK.due("turned by none", x.strike(0, 2, 1), 2);
        Courts.retype(x, 1, "sbs+A;sbs+A;sbs+B;sbs+C;sbs+D;sbs+E;sbs+F;sbs+G;sbs+H;sbs+H");
        struck(x, 0, 1023);
        struck(x, 255, 0);
        for (int i = 0; i < 4; i++) {
            CHECK.due("strike(bad, ..)", x.strike(BAD_TURNS[i], 1, 0), TeaLaws.BAD);
            CHECK.due("strike(0, bad, ..)", x.strike(0, BAD_BITS[i], 0), TeaLaws.BAD);
            CHECK.due("strike(0, 0, bad)", x.strike(0, 0, BAD_TWO[i]), TeaLaws.BAD);
        }
    }

    private static void place() {
        TeaLaws x = Courts.of("c3s", "sns+A;dos+B;sfr+C;rbr+D");
        // Near c3 the least cell is b2: ROW 1, COLUMN 1.
        CHECK.due("place(0, 0)", x.place(0, 0), 7);
        CHECK.due("place(0, 1)", x.place(0, 1), 36 + 2);
        CHECK.due("place(0, 2)", x.place(0, 2), 72 + 5);
        CHECK.due("place(0, 3): one ring alone", x.place(0, 3), TeaLaws.NONE);
        CHECK.due("place(0, 7)", x.place(0, 7), TeaLaws.NONE);
        // Turned by one it lies at COLUMN 3, ROW 2.
        CHECK.due("place(1, 0)", x.place(1, 0), 8);
        x.crack(1, 1);
        CHECK.due("not on a CRACK", x.place(0, 0), 8);
        x.crack(2, 2);
        CHECK.due("the LEAF itself on a CRACK", x.place(0, 0), TeaLaws.NONE);
        x.back(0);
        x.back(0);
        Courts.retype(x, 0, "c3s;b2d");
        CHECK.due("not where a LEAF lies", x.place(0, 0), 8);
        x.crack(1, 1);
        CHECK.due("nor where one lies that does not count", x.place(0, 0), 8);
        Courts.retype(x, 1, "sbs-A;sbd+A;dbd-A");
        CHECK.due("in force already? no, the dot does not count", x.reading(0, 2), 0);
        CHECK.due("a dot makes it", x.place(0, 0), 36);
        x.back(0);
        CHECK.due("in force", x.reading(0, 2), 1);
        CHECK.due("a dot more ends it", x.place(0, 0), 36);
        Courts.retype(x, 0, "f6d;f6s;f6r");
        Courts.retype(x, 1, "rnr+A");
        CHECK.due("the last cells", x.place(0, 0), 72 + 24 + 4);
        Courts.retype(x, 1, "dor+B");
        CHECK.due("over: any ROW above", x.place(0, 1), 36 + 5);
        for (int i = 0; i < 4; i++) {
            CHECK.due("place(bad, 0)", x.place(BAD_TURNS[i], 0), TeaLaws.BAD);
            CHECK.due("place(0, bad)", x.place(0, BAD_LAWS[i]), TeaLaws.BAD);
        }
        CHECK.due("place of an empty cup", new TeaLaws().place(0, 0), TeaLaws.NONE);
    }

    /** A is not in force by those TURNS by which a1 lies on a CRACK. */
    private static TeaLaws inForceBy(boolean... turns) {
        TeaLaws x = Courts.of("a1s;c3s", "sbs+A");
        int[][] corner = {{0, 0}, {5, 0}, {5, 5}, {0, 5}};
        for (int i = 0; i < 4; i++) {
            if (!turns[i]) {
                x.crack(corner[i][0], corner[i][1]);
            }
        }
        return x;
    }

    private static void sides() {
        for (int bits = 0; bits < 16; bits++) {
            boolean[] turns = new boolean[4];
            int least = TeaLaws.NONE;
            for (int i = 3; i >= 0; i--) {
                turns[i] = (bits >> i & 1) == 1;
                if (turns[i] && (bits >> (i + 1) % 4 & 1) == 1) {
                    least = i;
                }
            }
            TeaLaws x = inForceBy(turns);
            CHECK.due("sides(0, 1) by " + bits, x.sides(0, 1), least);
            CHECK.due("sides(0, 0) by " + bits, x.sides(0, 0), least < 0 ? 0 : 1);
            CHECK.due("sides(1, 0) by " + bits, x.sides(1, 0), 0);
        }
        CHECK.due("by three and then by none more", inForceBy(true, false, false, true).sides(0, 1), 3);
        TeaLaws x = new TeaLaws();
        for (int i = 0; i < 4; i++) {
            CHECK.due("sides(bad, 0)", x.sides(BAD_LAWS[i], 0), TeaLaws.BAD);
            CHECK.due("sides(0, bad)", x.sides(0, BAD_TWO[i]), TeaLaws.BAD);
        }
    }
}
