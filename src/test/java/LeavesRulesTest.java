/** Promises 1 to 11: a new object, the two texts, CRACKS, DEEDS, FIRST and STEP. */
public final class LeavesRulesTest {
    private static final Check CHECK = new Check("LeavesRulesTest");
    private static final int LEAST = Integer.MIN_VALUE, MOST = Integer.MAX_VALUE;

    public static void main(String[] args) {
        newObject();
        type();
        wipeAndUndo();
        faultsOfLeaves();
        faultsOfRules();
        aFaultEmptiesATextForAllButItsBytes();
        leaf();
        rule();
        crack();
        deed();
        back();
        set();
        CHECK.end();
    }

    private static void newObject() {
        TeaLaws x = new TeaLaws();
        for (int what = 0; what <= 8; what++) {
            CHECK.due("count of a new object", x.count(what), 0);
        }
        CHECK.due("fault(0)", x.fault(0), TeaLaws.NONE);
        CHECK.due("fault(1)", x.fault(1), TeaLaws.NONE);
        CHECK.due("FIRST", x.set(0, 0), 0);
        CHECK.due("STEP", x.set(1, 1), 1);
        for (int s = 0; s < 4; s++) {
            CHECK.due("lose(s)", x.lose(s), -11);
        }
        TeaLaws other = Courts.of("a1s;a2s", "sns+A");
        other.sheet(0, 0, 3);
        CHECK.due("nothing is shared", new TeaLaws().count(0), 0);
        CHECK.due("nothing is shared", new TeaLaws().lose(0), -11);
    }

    private static void type() {
        TeaLaws x = new TeaLaws();
        CHECK.due("type(0, 0)", x.type(0, 0), 1);
        CHECK.due("type(0, 255)", x.type(0, 255), 2);
        CHECK.due("type(1, 59)", x.type(1, 59), 1);
        int[] badTexts = {-1, 2, LEAST, MOST};
        int[] badBytes = {-1, 256, LEAST, MOST};
        for (int i = 0; i < badTexts.length; i++) {
            CHECK.due("type(bad, 97)", x.type(badTexts[i], 97), TeaLaws.BAD);
            CHECK.due("type(0, bad)", x.type(0, badBytes[i]), TeaLaws.BAD);
        }
        CHECK.due("count(2)", x.count(2), 2);
        for (int text = 0; text < 2; text++) {
            int most = text == 0 ? 47 : 59;
            x.wipe(text);
            for (int n = 1; n <= most; n++) {
                CHECK.due("type up to the last", x.type(text, 'a'), n);
            }
            CHECK.due("type one too many", x.type(text, 'a'), TeaLaws.FULL);
            CHECK.due("BAD ahead of FULL", x.type(text, 256), TeaLaws.BAD);
            CHECK.due("bytes after FULL", x.count(2 + text), most);
        }
    }

    private static void wipeAndUndo() {
        TeaLaws x = Courts.of("a1s;b2d", "sns+A");
        int[] bad = {-1, 2, LEAST, MOST};
        for (int text : bad) {
            CHECK.due("wipe(bad)", x.wipe(text), TeaLaws.BAD);
            CHECK.due("undo(bad)", x.undo(text), TeaLaws.BAD);
            CHECK.due("fault(bad)", x.fault(text), TeaLaws.BAD);
        }
        CHECK.due("undo(0)", x.undo(0), 6);
        CHECK.due("undo(0)", x.undo(0), 5);
        CHECK.due("undo(0)", x.undo(0), 4);
        CHECK.due("undo(0)", x.undo(0), 3);
        CHECK.due("LEAVES after undo", x.count(0), 1);
        CHECK.due("undo(1)", x.undo(1), 4);
        CHECK.due("RULES after undo", x.count(1), 0);
        CHECK.due("wipe(0)", x.wipe(0), 3);
        CHECK.due("wipe(0)", x.wipe(0), 0);
        CHECK.due("wipe left the other text", x.count(3), 4);
        x.type(1, 'A');
        Courts.typeAll(x, 0, "a1s;a2s");
        CHECK.due("reading", x.reading(0, 2), 1);
        x.wipe(1);
        CHECK.due("reading after wipe(1)", x.reading(0, 2), 0);
        CHECK.due("counting", x.reading(0, 0), 3);
        x.wipe(0);
        CHECK.due("counting after wipe(0)", x.reading(0, 0), 0);
        Courts.typeAll(x, 1, "sns+");
        CHECK.due("undo(0) of an empty text", x.undo(0), TeaLaws.NOT);
        CHECK.due("wipe(1)", x.wipe(1), 4);
        CHECK.due("undo(1) of an empty text", x.undo(1), TeaLaws.NOT);
        CHECK.due("type(0, 97) after all", x.type(0, 97), 1);
    }

    /** Tries all 256 bytes behind a beginning: those of the signs go on (or end), all others are the FAULT. */
    private static void tryAllBehind(int text, String beginning, String signs, boolean ends) {
        for (int b = 0; b < 256; b++) {
            TeaLaws x = new TeaLaws();
            Courts.typeAll(x, text, beginning);
            x.type(text, b);
            int place = beginning.length();
            int due = signs.indexOf(b) < 0 ? place : ends ? TeaLaws.NONE : place + 1;
            CHECK.due("fault of " + beginning + " and " + b, x.fault(text), due);
        }
    }

    private static void faultsOfLeaves() {
        tryAllBehind(0, "", "abcdef", false);
        tryAllBehind(0, "a", "123456", false);
        tryAllBehind(0, "f6", "sdr", true);
        tryAllBehind(0, "c3r", ";", false);
        tryAllBehind(0, "c3r;", "abcdef", false);
        tryAllBehind(0, "c3r;d4", "sdr", true);
        TeaLaws x = Courts.of("a1s;x2d;y", "");
        CHECK.due("the first of two faults", x.fault(0), 4);
        CHECK.due("type behind a fault", x.type(0, 'z'), 10);
        CHECK.due("the fault stays", x.fault(0), 4);
        x = Courts.of("a1s;a1s;a1s;a1s;a1s;a1s;a1s;a1s;a1s;a1s;a1s;f6r", "");
        CHECK.due("fault of twelve", x.fault(0), TeaLaws.NONE);
        CHECK.due("twelve", x.count(0), 12);
    }

    private static void faultsOfRules() {
        tryAllBehind(1, "", "sdr", false);
        tryAllBehind(1, "s", "nofb", false);
        tryAllBehind(1, "dn", "sdr", false);
        tryAllBehind(1, "ror", "+-", false);
        tryAllBehind(1, "sfd+", "ABCDEFGH", true);
        tryAllBehind(1, "sbd-H", ";", false);
        tryAllBehind(1, "sbd-H;", "sdr", false);
        tryAllBehind(1, "sbd-H;snr-", "ABCDEFGH", true);
        TeaLaws x = Courts.of("", "sns+A;sns+A;sns+A;sns+A;sns+A;sns+A;sns+A;sns+A;sns+A;rbr-H");
        CHECK.due("fault of ten", x.fault(1), TeaLaws.NONE);
        CHECK.due("ten", x.count(1), 10);
        CHECK.due("nine with +", x.count(7), 9);
    }

    private static void aFaultEmptiesATextForAllButItsBytes() {
        TeaLaws x = Courts.of("a1s;a2s;", "sns+A");
        CHECK.due("LEAVES with a fault", x.count(0), 0);
        CHECK.due("bytes with a fault", x.count(2), 8);
        CHECK.due("leaf(0, 0) with a fault", x.leaf(0, 0), TeaLaws.BAD);
        CHECK.due("reading with a fault", x.reading(0, 2), 0);
        x.undo(0);
        CHECK.due("reading without it", x.reading(0, 2), 1);
        x.type(1, ';');
        CHECK.due("RULES with a fault", x.count(1), 0);
        CHECK.due("RULES with + with a fault", x.count(7), 0);
        CHECK.due("rule(0, 0) with a fault", x.rule(0, 0), TeaLaws.BAD);
        CHECK.due("reading with a fault", x.reading(0, 2), 0);
        CHECK.due("LEAVES still count", x.reading(0, 0), 3);
    }

    private static void leaf() {
        TeaLaws x = Courts.of("a1s;b2d;c3r;d4s;e5d;f6r;f1s;a6r", "");
        int[][] due = {{0, 0, 0}, {1, 1, 1}, {2, 2, 2}, {3, 3, 0}, {4, 4, 1}, {5, 5, 2}, {5, 0, 0}, {0, 5, 2}};
        for (int leaf = 0; leaf < due.length; leaf++) {
            for (int what = 0; what < 3; what++) {
                CHECK.due("leaf(" + leaf + ", " + what + ")", x.leaf(leaf, what), due[leaf][what]);
            }
        }
        int[][] bad = {{-1, 0}, {8, 0}, {LEAST, 0}, {MOST, 0}, {0, -1}, {0, 3}, {0, LEAST}, {0, MOST}};
        for (int[] b : bad) {
            CHECK.due("leaf(bad)", x.leaf(b[0], b[1]), TeaLaws.BAD);
        }
    }

    private static void rule() {
        TeaLaws x = Courts.of("", "sns+A;dod-B;rfr+C;sbd-D;dnr+E;ros-F;sfr+G;dbs-H");
        int[][] due = {{0, 0, 0, 1, 0}, {1, 1, 1, 0, 1}, {2, 2, 2, 1, 2}, {0, 3, 1, 0, 3}, {1, 0, 2, 1, 4}, {2, 1, 0, 0, 5},
            {0, 2, 2, 1, 6}, {1, 3, 0, 0, 7}};
        for (int rule = 0; rule < due.length; rule++) {
            for (int what = 0; what < 5; what++) {
                CHECK.due("rule(" + rule + ", " + what + ")", x.rule(rule, what), due[rule][what]);
            }
        }
        int[][] bad = {{-1, 0}, {8, 0}, {LEAST, 0}, {MOST, 0}, {0, -1}, {0, 5}, {0, LEAST}, {0, MOST}};
        for (int[] b : bad) {
            CHECK.due("rule(bad)", x.rule(b[0], b[1]), TeaLaws.BAD);
        }
        CHECK.due("RULES with +", x.count(7), 4);
    }

    private static void crack() {
        TeaLaws x = new TeaLaws();
        int[][] bad = {{-1, 0}, {6, 0}, {0, -1}, {0, 6}, {LEAST, 0}, {0, MOST}};
        for (int[] b : bad) {
            CHECK.due("crack(bad)", x.crack(b[0], b[1]), TeaLaws.BAD);
        }
        for (int n = 1; n <= 8; n++) {
            CHECK.due("crack, the same one again too", x.crack(n / 2, 5), n);
        }
        CHECK.due("crack, one too many", x.crack(0, 0), TeaLaws.FULL);
        CHECK.due("BAD ahead of FULL", x.crack(6, 0), TeaLaws.BAD);
        CHECK.due("count(4)", x.count(4), 8);
    }

    private static void deed() {
        TeaLaws x = new TeaLaws();
        int[][] bad = {{-1, 0}, {28, 0}, {0, -1}, {0, 8}, {LEAST, 0}, {0, MOST}};
        for (int[] b : bad) {
            CHECK.due("deed(bad)", x.deed(b[0], b[1]), TeaLaws.BAD);
        }
        for (int n = 1; n <= 12; n++) {
            CHECK.due("deed", x.deed(27, 7), n);
        }
        CHECK.due("deed, one too many", x.deed(0, 0), TeaLaws.FULL);
        CHECK.due("BAD ahead of FULL", x.deed(28, 0), TeaLaws.BAD);
        CHECK.due("count(5)", x.count(5), 12);
    }

    private static void back() {
        TeaLaws x = Courts.of("a1s;a2s", "sns+A");
        x.crack(0, 0);
        x.crack(0, 1);
        x.deed(0, 0);
        CHECK.due("counting", x.reading(0, 0), 0);
        CHECK.due("back(0)", x.back(0), 1);
        CHECK.due("counting again", x.reading(0, 0), 2);
        CHECK.due("back(0)", x.back(0), 0);
        CHECK.due("counting again", x.reading(0, 0), 3);
        CHECK.due("back(0) of none", x.back(0), TeaLaws.NOT);
        CHECK.due("broken", x.broken(0), 1);
        CHECK.due("back(1)", x.back(1), 0);
        CHECK.due("broken", x.broken(0), 0);
        CHECK.due("back(1) of none", x.back(1), TeaLaws.NOT);
        int[] bad = {-1, 2, LEAST, MOST};
        for (int what : bad) {
            CHECK.due("back(bad)", x.back(what), TeaLaws.BAD);
        }
    }

    private static void set() {
        TeaLaws x = new TeaLaws();
        CHECK.due("set(0, 3)", x.set(0, 3), 0);
        CHECK.due("set(1, 2)", x.set(1, 2), 1);
        int[][] bad = {{-1, 0}, {2, 0}, {0, -1}, {0, 4}, {1, -1}, {1, 4}, {LEAST, 0}, {0, MOST}};
        for (int[] b : bad) {
            CHECK.due("set(bad)", x.set(b[0], b[1]), TeaLaws.BAD);
        }
        CHECK.due("set(0, 0)", x.set(0, 0), 3);
        CHECK.due("set(1, 0)", x.set(1, 0), 2);
        CHECK.due("set(0, 1)", x.set(0, 1), 0);
        CHECK.due("set(1, 3)", x.set(1, 3), 0);
    }
}
