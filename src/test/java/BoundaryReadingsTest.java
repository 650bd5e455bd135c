/** Boundary cases of readings and plans: what stands ahead of the promises, and promises 12 to 22. */
public final class BoundaryReadingsTest {
    private static final Sentences DOC = new Sentences("BoundaryReadingsTest");
    private static final int[] BAD_TWO = Sentences.beside(0, 1), BAD_THREE = Sentences.beside(0, 2);
    private static final int[] BAD_TURNS = Sentences.beside(0, 3), BAD_LAWS = Sentences.beside(0, 7);
    private static final int[] BAD_DAYS = Sentences.beside(0, 27), BAD_BITS = Sentences.beside(0, 255);
    private static final int ALL_DAYS = (1 << 28) - 1;

    public static void main(String[] args) {
        turnedCells();
        turnsInAllCalls();
        countingByCracks();
        twoLeaves();
        howTheyLie();
        lastRule();
        daysModuloFour();
        lies();
        reading();
        day();
        broken();
        free();
        clash();
        pour();
        strain();
        strike();
        place();
        sides();
        DOC.end(12, 22);
    }

    private static String cell(int column, int row) {
        return new String(new char[] {(char) ('a' + column), (char) ('1' + row)});
    }

    private static void turnedCells() {
        DOC.by(0, "by one from COLUMN c, ROW r to COLUMN 5 less r, ROW c");
        for (int c = 0; c < 6; c++) {
            for (int r = 0; r < 6; r++) {
                TeaLaws x = Courts.of(cell(c, r) + "s", "");
                int[][] due = {{c, r}, {5 - r, c}, {5 - c, 5 - r}, {r, 5 - c}};
                for (int turns = 0; turns < 4; turns++) {
                    DOC.due("COLUMN of " + cell(c, r) + " by " + turns, x.lies(turns, 0, 0), due[turns][0]);
                    DOC.due("ROW of " + cell(c, r) + " by " + turns, x.lies(turns, 0, 1), due[turns][1]);
                }
            }
        }
    }

    private static void turnsInAllCalls() {
        DOC.by(0, "TURNS are 0 to 3: the cup stays, leaves go round by so many quarters");
        TeaLaws x = Courts.compass();
        for (int bad : BAD_TURNS) {
            DOC.due("lies by " + bad, x.lies(bad, 0, 0), TeaLaws.BAD);
            DOC.due("reading by " + bad, x.reading(bad, 2), TeaLaws.BAD);
            DOC.due("clash by " + bad, x.clash(bad), TeaLaws.BAD);
            DOC.due("strain by " + bad, x.strain(bad, 0, 0, 0), TeaLaws.BAD);
            DOC.due("strike by " + bad, x.strike(bad, 0, 0), TeaLaws.BAD);
            DOC.due("place by " + bad, x.place(bad, 0), TeaLaws.BAD);
            DOC.due("read by " + bad, x.read(bad, 0), TeaLaws.BAD);
            DOC.due("sinks by " + bad, x.sinks(0, bad, 0, 0), -9223372036854775806L);
        }
        for (int turns = 0; turns < 4; turns++) {
            DOC.due("reading by " + turns, x.reading(turns, 2), 1 << turns);
            DOC.due("clash by " + turns, x.clash(turns), TeaLaws.NONE);
            DOC.due("strain by " + turns, x.strain(turns, 1 << turns, 255 - (1 << turns), 0), 0);
            DOC.due("strike by " + turns, x.strike(turns, 0, 1), 1 << turns);
            DOC.due("sinks by " + turns, x.sinks(0, turns, turns, 0), 1);
            DOC.due("read by " + turns, x.read(turns, 1 << turns), turns + 1);
        }
        DOC.due("place by 3", x.place(3, 3), TeaLaws.NONE);
    }

    private static void countingByCracks() {
        DOC.by(0, "A LEAF counts, if it lies on no CRACK (then), and is not OUT.");
        TeaLaws x = Courts.of("a1s;f1d;f6r;a6s", "sbd+A");
        x.crack(5, 0);
        int[] due = {0b1101, 0b1110, 0b0111, 0b1011};
        for (int turns = 0; turns < 4; turns++) {
            DOC.due("one CRACK, by " + turns, x.reading(turns, 0), due[turns]);
        }
        x.crack(0, 0);
        x.crack(0, 5);
        x.crack(5, 5);
        for (int turns = 0; turns < 4; turns++) {
            DOC.due("all on CRACKS, by " + turns, x.reading(turns, 0), 0);
            DOC.due("none applies, by " + turns, x.reading(turns, 1), 0);
            DOC.due("still it lies somewhere, by " + turns, x.lies(turns, 0, 0), turns == 1 || turns == 2 ? 5 : 0);
        }
    }

    private static void twoLeaves() {
        DOC.by(0, "if there are two LEAVES that count, not the same one");
        String rules = "sns+A;sbs+B;sos+C;sfs+D";
        DOC.due("no LEAF", Courts.of("", rules).reading(0, 1), 0);
        DOC.due("one LEAF", Courts.of("c3s", rules).reading(0, 1), 0);
        DOC.due("two in the same cell", Courts.of("c3s;c3s", rules).reading(0, 1), 3);
        DOC.due("one and another SHAPE", Courts.of("c3s;c3d", rules).reading(0, 1), 0);
        TeaLaws x = Courts.of("a1s;b1s", rules);
        DOC.due("two that count", x.reading(0, 1), 3);
        x.crack(1, 0);
        DOC.due("only one counts", x.reading(0, 1), 0);
        DOC.due("both count, turned", x.reading(1, 1), 7);
    }

    /** All 1296 ways in which two LEAVES can lie. */
    private static void howTheyLie() {
        for (int one = 0; one < 36; one++) {
            for (int other = 0; other < 36; other++) {
                TeaLaws x = Courts.of(cell(one % 6, one / 6) + "s;" + cell(other % 6, other / 6) + "d",
                        "snd+A;sod+B;sfd+C;sbd+D;dns+E;dos+F;dfs+G;dbs+H");
                String where = cell(one % 6, one / 6) + " and " + cell(other % 6, other / 6);
                int columns = Math.abs(one % 6 - other % 6);
                int rows = Math.abs(one / 6 - other / 6);
                int laws = x.reading(0, 2);
                DOC.by(0, "n: neither COLUMNS nor ROWS are more than 1 apart");
                DOC.due(where, laws & 0x11, columns <= 1 && rows <= 1 ? 0x11 : 0);
                DOC.by(0, "o: COLUMNS are alike, the one's ROW is less");
                DOC.due(where, laws & 0x22, columns != 0 ? 0 : one < other ? 0x02 : one > other ? 0x20 : 0);
                DOC.by(0, "f: COLUMNS or ROWS are 3 or more apart");
                DOC.due(where, laws & 0x44, columns >= 3 || rows >= 3 ? 0x44 : 0);
                DOC.by(0, "b: anyhow");
                DOC.due(where, laws & 0x88, 0x88);
            }
        }
    }

    private static void lastRule() {
        DOC.by(0, "of each LAW the last RULE of it that APPLIES tells whether it is in force (+), or not (-); without any it is not");
        String[] rules = {"", "sbs+A", "sbs-A", "sbs+A;sbs-A", "sbs-A;sbs+A", "sbs+A;sfs-A", "sbs-A;sfs+A", "sfs+A",
            "sbs+H;sbs-G;sbs+A", "sbs+A;sbs+A;sbs+A;sbs+A;sbs+A;sbs+A;sbs+A;sbs+A;sbs+A;sbs-A",
            "sbs-A;sbs-A;sbs-A;sbs-A;sbs-A;sbs-A;sbs-A;sbs-A;sbs-A;sbs+A"};
        int[] due = {0, 1, 0, 0, 1, 1, 0, 0, 129, 0, 1};
        for (int i = 0; i < rules.length; i++) {
            DOC.due("READING of " + rules[i], Courts.of("a1s;a2s", rules[i]).reading(0, 2), due[i]);
        }
    }

    private static void daysModuloFour() {
        DOC.by(0, "DAYS are 0 to 27; on each the cup is turned by FIRST (0 to 3; 0 at first) "
                + "and DAY times STEP (0 to 3; 1 at first), modulo 4.");
        TeaLaws x = Courts.compass();
        DOC.due("the first DAY, at first", x.day(0), 1);
        DOC.due("DAY 3, at first", x.day(3), 8);
        DOC.due("DAY 4 is as DAY 0", x.day(4), 1);
        DOC.due("the last DAY, at first", x.day(27), 8);
        for (int first = 0; first < 4; first++) {
            x.set(0, first);
            for (int step = 0; step < 4; step++) {
                x.set(1, step);
                for (int day : new int[] {0, 1, 2, 3, 4, 26, 27}) {
                    String when = "day(" + day + ") by FIRST " + first + ", STEP " + step;
                    DOC.due(when, x.day(day), 1 << (first + day * step) % 4);
                }
            }
        }
    }

    private static void lies() {
        DOC.by(12, "Where a LEAF lies: COLUMN (what = 0), ROW (1). BAD.");
        TeaLaws x = Courts.of(Courts.TWELVE_LEAVES, "");
        DOC.due("the last LEAF by the most TURNS", x.lies(3, 11, 0), 5);
        DOC.due("the last LEAF by the most TURNS", x.lies(3, 11, 1), 0);
        for (int bad : Sentences.beside(0, 11)) {
            DOC.due("lies(0, " + bad + ", 0)", x.lies(0, bad, 0), TeaLaws.BAD);
        }
        for (int bad : BAD_TURNS) {
            DOC.due("lies(" + bad + ", 0, 0)", x.lies(bad, 0, 0), TeaLaws.BAD);
        }
        for (int bad : BAD_TWO) {
            DOC.due("lies(0, 0, " + bad + ")", x.lies(0, 0, bad), TeaLaws.BAD);
        }
        x.undo(0);
        DOC.due("no LEAF with a FAULT", x.lies(0, 0, 0), TeaLaws.BAD);
        DOC.due("no LEAF of a new one", new TeaLaws().lies(0, 0, 0), TeaLaws.BAD);
    }

    private static void reading() {
        DOC.by(13, "LEAVES that count (what = 0), RULES that APPLY (1), READING (2), as bits. BAD.");
        TeaLaws most = Courts.of("a1s;a1s;a1s;a1s;a1s;a1s;a1s;a1s;a1s;a1s;a1s;a1s",
                "sbs-A;sbs-B;sbs+C;sbs+D;sbs+E;sbs+F;sbs+G;sbs+H;sbs+A;sbs+B");
        TeaLaws none = new TeaLaws();
        int[] due = {4095, 1023, 255};
        for (int what = 0; what < 3; what++) {
            DOC.due("all", most.reading(0, what), due[what]);
            DOC.due("all by 3", most.reading(3, what), due[what]);
            DOC.due("none", none.reading(0, what), 0);
            for (int bad : BAD_TURNS) {
                DOC.due("reading(" + bad + ", " + what + ")", most.reading(bad, what), TeaLaws.BAD);
            }
        }
        for (int bad : BAD_THREE) {
            DOC.due("reading(0, " + bad + ")", most.reading(0, bad), TeaLaws.BAD);
        }
    }

    private static void day() {
        DOC.by(14, "READING on a DAY, as bits. BAD.");
        TeaLaws x = Courts.compass();
        for (int bad : BAD_DAYS) {
            DOC.due("day(" + bad + ")", x.day(bad), TeaLaws.BAD);
        }
        DOC.due("the first DAY", x.day(0), 1);
        DOC.due("the last DAY", x.day(27), 8);
        DOC.due("none in force", new TeaLaws().day(27), 0);
        TeaLaws all = Courts.of("a1s;a1s", "sbs+A;sbs+B;sbs+C;sbs+D;sbs+E;sbs+F;sbs+G;sbs+H");
        DOC.due("all in force", all.day(27), 255);
    }

    private static void broken() {
        DOC.by(15, "BROKEN, as bits (what = 0); FIRST BROKEN (1; NONE). BAD.");
        TeaLaws x = Courts.compass();
        for (int bad : BAD_TWO) {
            DOC.due("broken(" + bad + ")", x.broken(bad), TeaLaws.BAD);
        }
        DOC.due("no DEEDS", x.broken(0), 0);
        DOC.due("no DEEDS", x.broken(1), TeaLaws.NONE);
        x.deed(0, 1);
        DOC.due("none is against a LAW in force", x.broken(0), 0);
        DOC.due("none is against a LAW in force", x.broken(1), TeaLaws.NONE);
        x.deed(27, 3);
        DOC.due("one on the last DAY", x.broken(0), 2);
        DOC.due("one on the last DAY", x.broken(1), 1);
        x.deed(0, 0);
        DOC.due("one on the first DAY", x.broken(0), 6);
        DOC.due("one on the first DAY", x.broken(1), 2);
        TeaLaws full = Courts.compass();
        for (int i = 0; i < 11; i++) {
            full.deed(27 - i, 4);
        }
        full.deed(27, 3);
        DOC.due("the last DEED there may be", full.broken(0), 2048);
        DOC.due("the last DEED there may be", full.broken(1), 11);
        DOC.by(0, "FIRST BROKEN: by DAYS, of like ones as told: the DEED; NONE.");
        TeaLaws like = Courts.compass();
        int[][] deeds = {{8, 0}, {4, 1}, {4, 0}, {4, 0}, {5, 1}};
        for (int[] deed : deeds) {
            like.deed(deed[0], deed[1]);
        }
        DOC.due("broken(0)", like.broken(0), 0b11101);
        DOC.due("of like ones as told", like.broken(1), 2);
        like.deed(3, 3);
        DOC.due("a later one of an earlier DAY", like.broken(1), 5);
        TeaLaws first = Courts.compass();
        first.deed(0, 0);
        first.deed(0, 0);
        DOC.due("the first DEED there is", first.broken(1), 0);
    }

    private static void free() {
        DOC.by(16, "FREE, as bits. BAD.");
        TeaLaws x = Courts.compass();
        for (int bad : BAD_LAWS) {
            DOC.due("free(" + bad + ")", x.free(bad), TeaLaws.BAD);
        }
        DOC.due("but for each fourth DAY from 0 on", x.free(0), ALL_DAYS & ~0x1111111);
        DOC.due("but for each fourth DAY up to 27", x.free(3), ALL_DAYS & ~0x8888888);
        DOC.due("all DAYS", x.free(7), ALL_DAYS);
        DOC.due("all DAYS of a new one", new TeaLaws().free(0), ALL_DAYS);
        DOC.due("no DAY", Courts.of("a1s;a1s", "sbs+H").free(7), 0);
    }

    private static void clash() {
        DOC.by(17, "CLASH; NONE. BAD.");
        TeaLaws x = Courts.of("a1s;a1s", "sbs+A;sbs+B;sbs+C;sbs+D;sbs+E;sbs+F;sbs+G;sbs+H;sbs+A;sbs-H");
        for (int bad : BAD_TURNS) {
            DOC.due("clash(" + bad + ")", x.clash(bad), TeaLaws.BAD);
        }
        DOC.due("the last RULE there may be", x.clash(3), 9);
        DOC.due("one RULE", Courts.of("a1s;a1s", "sbs-A").clash(0), TeaLaws.NONE);
        DOC.due("the second RULE is the first that may", Courts.of("a1s;a1s", "sbs-A;sbs+A").clash(0), 1);
        DOC.due("none of a new one", new TeaLaws().clash(0), TeaLaws.NONE);
        DOC.by(0, "the first RULE that APPLIES while an earlier one of that LAW APPLIES that tells otherwise; NONE.");
        DOC.due("it tells the same", Courts.of("a1s;a1s", "sbs-A;sbs-A").clash(0), TeaLaws.NONE);
        DOC.due("another LAW", Courts.of("a1s;a1s", "sbs-A;sbs+B").clash(0), TeaLaws.NONE);
        DOC.due("the earlier one does not apply", Courts.of("a1s;a1s", "sos-A;sbs+A").clash(0), TeaLaws.NONE);
        DOC.due("it does not apply itself", Courts.of("a1s;a1s", "sbs-A;sos+A").clash(0), TeaLaws.NONE);
        DOC.due("the first of two", Courts.of("a1s;a1s", "sbs-A;sbs+B;sbs-B;sbs+A").clash(0), 2);
        DOC.due("the earlier one is not the one before", Courts.of("a1s;a1s", "sbs+A;sbs+B;sbs+A;sbs-A").clash(0), 3);
    }

    private static void pour() {
        DOC.by(18, "POUR. BAD (bits 0 to 255).");
        TeaLaws x = Courts.compass();
        for (int bad : BAD_BITS) {
            DOC.due("pour(" + bad + ")", x.pour(bad), TeaLaws.BAD);
        }
        DOC.due("no LAWS told, all like", x.pour(0), 0);
        DOC.due("all LAWS told, all like", x.pour(255), 0);
        DOC.due("the most TURNS", x.pour(8), 3);
        DOC.due("of a new one", new TeaLaws().pour(255), 0);
        DOC.by(0, "the TURNS by which of told LAWS (bits) most are in force, less all others that are; of like ones the least.");
        DOC.due("of like ones the least", x.pour(12), 2);
        DOC.due("of like ones the least", x.pour(10), 1);
        TeaLaws all = Courts.of("a1s;a1s;b1d", "sbs+A;sbs+B;sbs+C;sbs+D;sbs+E;sbs+F;sbs+G;sbs+H;sod-A;dos-B");
        // By 1 the stalks lie over the dot, by 3 under it.
        DOC.due("all eight against none told: one less by 1", all.pour(0), 1);
        DOC.due("one of two more against: by 1", all.pour(2), 1);
        DOC.due("the other: by 3", all.pour(1), 3);
        DOC.due("all eight told", all.pour(255), 0);
        DOC.due("two told: by 0", all.pour(3), 0);
    }

    private static void strained(TeaLaws x, int laws, int not, int bits) {
        String call = "strain(0, " + laws + ", " + not + ", ";
        DOC.due(call + "0)", x.strain(0, laws, not, 0), bits == TeaLaws.NONE ? bits : Integer.bitCount(bits));
        DOC.due(call + "1)", x.strain(0, laws, not, 1), bits);
    }

    private static void strain() {
        DOC.by(19, "STRAIN: how many (what = 0), as bits (1); NONE. BAD: also a LAW that is told as both.");
        TeaLaws x = Courts.compass();
        for (int i = 0; i < 4; i++) {
            DOC.due("strain(bad, 0, 0, 0)", x.strain(BAD_TURNS[i], 0, 0, 0), TeaLaws.BAD);
            DOC.due("strain(0, bad, 0, 0)", x.strain(0, BAD_BITS[i], 0, 0), TeaLaws.BAD);
            DOC.due("strain(0, 0, bad, 0)", x.strain(0, 0, BAD_BITS[i], 0), TeaLaws.BAD);
            DOC.due("strain(0, 0, 0, bad)", x.strain(0, 0, 0, BAD_TWO[i]), TeaLaws.BAD);
        }
        for (int law = 0; law < 8; law++) {
            DOC.due("LAW " + law + " told as both", x.strain(0, 1 << law, 1 << law, 0), TeaLaws.BAD);
            DOC.due("LAW " + law + " told as both, among others", x.strain(3, 255, 1 << law, 1), TeaLaws.BAD);
        }
        strained(x, 1, 254, 0);
        strained(x, 0, 255, 1);
        strained(x, 255, 0, TeaLaws.NONE);
        strained(x, 0, 0, 0);
        strained(new TeaLaws(), 0, 255, 0);
        strained(new TeaLaws(), 128, 0, TeaLaws.NONE);
        DOC.by(0, "the fewest LEAVES that, OUT, leave told LAWS in force and none of some others, of like ones the least bits");
        TeaLaws most = Courts.of("a1s;a1s;a1s;a1s;a1s;a1s;a1s;a1s;a1s;a1s;a1s;a1s", "sbs+A;sos+B");
        strained(most, 0, 1, 0b011111111111);
        strained(most, 1, 2, 0);
        TeaLaws like = Courts.of("f6r;a1s;a1d", "sbd+A;rbs+B;rbd+B");
        strained(like, 0, 1, 0b010);
        strained(like, 1, 2, 0b001);
        strained(like, 2, 1, 0b010);
        TeaLaws fewest = Courts.of("a1s;a1s;a1d;a1r", "sbs+A;sbd+B;sbr+C");
        // One more LEAF, though of more bits, is worse than two of fewer.
        strained(fewest, 1, 6, 0b1100);
        strained(fewest, 0, 6, 0b0011);
        strained(fewest, 2, 4, 0b1000);
    }

    private static void struck(TeaLaws x, int laws, int bits) {
        String call = "strike(0, " + laws + ", ";
        DOC.due(call + "0)", x.strike(0, laws, 0), bits == TeaLaws.NONE ? bits : Integer.bitCount(bits));
        DOC.due(call + "1)", x.strike(0, laws, 1), bits);
    }

    private static void strike() {
        DOC.by(20, "STRIKE: how many (what = 0), as bits (1); NONE. BAD.");
        TeaLaws x = Courts.compass();
        for (int i = 0; i < 4; i++) {
            DOC.due("strike(bad, 0, 0)", x.strike(BAD_TURNS[i], 0, 0), TeaLaws.BAD);
            DOC.due("strike(0, bad, 0)", x.strike(0, BAD_BITS[i], 0), TeaLaws.BAD);
            DOC.due("strike(0, 0, bad)", x.strike(0, 0, BAD_TWO[i]), TeaLaws.BAD);
        }
        struck(x, 1, 0);
        struck(x, 0, 1);
        struck(x, 255, TeaLaws.NONE);
        struck(new TeaLaws(), 0, 0);
        struck(new TeaLaws(), 128, TeaLaws.NONE);
        DOC.by(0, "the fewest RULES that, struck, leave just the told LAWS in force, of like ones the least bits");
        TeaLaws most = Courts.of("a1s;a1s", "sbs+A;sbs+A;sbs+A;sbs+A;sbs+A;sbs+A;sbs+A;sbs+A;sbs+A;sbs+A");
        struck(most, 0, 1023);
        struck(most, 1, 0);
        struck(most, 2, TeaLaws.NONE);
        struck(Courts.of("a1s;a1s", "sbs+A;sbs-A;sbs+A;sbs-A"), 1, 0b1000);
        struck(Courts.of("a1s;a1s", "sbs-A;sbs+A"), 0, 0b10);
        struck(Courts.of("a1s;a1s", "sbs+A;sos+A;sbs+B"), 2, 0b001);
        // One that ends two others is fewer than they.
        struck(Courts.of("a1s;a1s", "sbs+A;sbs+A;sbs-A;sbs+A"), 0, 0b1000);
    }

    private static void place() {
        DOC.by(21, "PLACE; NONE. BAD.");
        TeaLaws x = Courts.of("a1s", "sbs+A");
        for (int i = 0; i < 4; i++) {
            DOC.due("place(bad, 0)", x.place(BAD_TURNS[i], 0), TeaLaws.BAD);
            DOC.due("place(0, bad)", x.place(0, BAD_LAWS[i]), TeaLaws.BAD);
        }
        DOC.due("the least cell is not free", x.place(0, 0), 1);
        DOC.due("the least cell is free, turned", x.place(1, 0), 0);
        DOC.due("no RULE of that LAW", x.place(0, 7), TeaLaws.NONE);
        DOC.due("no LEAVES, no RULES", new TeaLaws().place(0, 0), TeaLaws.NONE);
        DOC.due("no LEAVES: one alone makes none", Courts.of("", "sbs+A").place(0, 0), TeaLaws.NONE);
        DOC.due("one more than twelve", Courts.of(Courts.TWELVE_LEAVES, "sod+A").place(0, 0), 6 + 1);
        DOC.by(0, "the least of 36 times the SHAPE, and 6 times the ROW, and the COLUMN; NONE.");
        DOC.due("the last cell, the last SHAPE", Courts.of("f5s", "sor+H").place(0, 7), 72 + 30 + 5);
        DOC.due("a lesser SHAPE goes ahead", Courts.of("f5s", "sor+H;dns+H").place(0, 7), 36 + 18 + 4);
        DOC.due("a lesser ROW goes ahead", Courts.of("b3s", "sns+A").place(0, 0), 6 + 0);
        DOC.due("in the ROW a lesser COLUMN", Courts.of("b3s;a2d", "sns+A").place(0, 0), 6 + 1);
        DOC.by(0, "(of those with no LEAF; as it lies then)");
        TeaLaws full = Courts.of("f6s;f5s;e6s;e5s", "dns+B");
        DOC.due("next to those", full.place(0, 1), 36 + 18 + 3);
        DOC.due("next to those, turned by one", full.place(1, 1), 36 + 18);
        TeaLaws over = Courts.of("a2d;a1r", "sod+A");
        DOC.due("over it lies a LEAF", over.place(0, 0), TeaLaws.NONE);
        over.crack(0, 0);
        DOC.due("over it lies a LEAF that does not count", over.place(0, 0), TeaLaws.NONE);
        Courts.retype(over, 0, "a2d");
        DOC.due("over it lies a CRACK", over.place(0, 0), TeaLaws.NONE);
        over.back(0);
        DOC.due("over it lies nothing", over.place(0, 0), 0);
        DOC.due("under the last ROW lies no cell", Courts.of("f6s", "sod+A").place(0, 0), TeaLaws.NONE);
        DOC.due("over the first ROW lies no cell", Courts.of("a1s", "dos+A").place(0, 0), TeaLaws.NONE);
        DOC.due("beside the last COLUMN lies no cell", Courts.of("f1s;e1r;e2r;f2r", "dns+A").place(0, 0), TeaLaws.NONE);
        DOC.due("beside the first COLUMN lies no cell", Courts.of("a6s;b6r;b5r;a5r", "dns+A").place(0, 0), TeaLaws.NONE);
        DOC.by(0, "of one LEAF more by which a told LAW changes (in force, or not)");
        DOC.due("from in force to not", Courts.of("a1s;a1s", "sbs+A;sbd-A").place(0, 0), 36 + 1);
        DOC.due("from not to in force", Courts.of("a1s;a1s", "sbs-A;sbd+A").place(0, 0), 36 + 1);
        DOC.due("told anew, but the same", Courts.of("a1s;a1s", "sbs+A;sbd+A").place(0, 0), TeaLaws.NONE);
        DOC.due("another LAW changes", Courts.of("a1s;a1s", "sbs+A;sbd-B").place(0, 0), TeaLaws.NONE);
    }

    private static void sides() {
        DOC.by(22, "SIDES: 1, 0 (what = 0), by how much the first one turns (1; NONE). BAD.");
        TeaLaws x = Courts.compass();
        for (int i = 0; i < 4; i++) {
            DOC.due("sides(bad, 0)", x.sides(BAD_LAWS[i], 0), TeaLaws.BAD);
            DOC.due("sides(0, bad)", x.sides(0, BAD_TWO[i]), TeaLaws.BAD);
        }
        for (int law = 0; law < 8; law++) {
            DOC.due("one TURNS alone is none", x.sides(law, 0), 0);
            DOC.due("one TURNS alone is none", x.sides(law, 1), TeaLaws.NONE);
        }
        DOC.by(0, "the first one by 0 to 3, then the other one by 0 or 1");
        String[] rules = {"sod+H;sor+H", "sor+H;dos+H", "dos+H;ros+H", "ros+H;sod+H", "sod+H;dos+H", "sor+H;ros+H",
            "sor+H;dos+H;ros+H", "sod+H;dos+H;ros+H", "sbd+H"};
        int[] due = {0, 1, 2, 3, TeaLaws.NONE, TeaLaws.NONE, 1, 2, 0};
        for (int i = 0; i < rules.length; i++) {
            Courts.retype(x, 1, rules[i]);
            DOC.due("how much by " + rules[i], x.sides(7, 1), due[i]);
            DOC.due("whether by " + rules[i], x.sides(7, 0), due[i] == TeaLaws.NONE ? 0 : 1);
        }
        DOC.due("FIRST does not turn it", x.set(0, 2), 0);
        DOC.due("by none", x.sides(7, 1), 0);
    }
}
