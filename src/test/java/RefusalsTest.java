import java.util.ArrayList;
import java.util.List;

/**
 * Refused calls: each answers as the document says, and changes nothing. Two courts are made alike, the refused call is put
 * to one of them alone, and then both must answer every question alike, up to what is left when all is undone.
 */
public final class RefusalsTest {
    private static final Sentences DOC = new Sentences("RefusalsTest");
    private static final int LEAST = Sentences.LEAST, MOST = Sentences.MOST;
    private static final int EMPTY = 0, MIDDLE = 1, BRIMFUL = 2, KINDS = 3;
    private static final int MOST_CALLS = 512;

    public static void main(String[] args) {
        numbersNotAsTold();
        toldRefusals();
        findings();
        firstThatFits();
        longRefusals();
        DOC.end(0, 0);
    }

    private record Call(int op, int... a) {
        static Call of(String name, int... a) {
            return new Call(Calls.number(name), a);
        }

        long to(TeaLaws court) {
            return Calls.answer(court, op, a);
        }

        String told() {
            return Calls.told(op, a);
        }
    }

    private static TeaLaws court(int kind) {
        TeaLaws x = new TeaLaws();
        if (kind == MIDDLE) {
            x = Courts.of("a1s;a2s;f6d", "sbs+A;sos+B;sfd+C;dbs-C");
            x.crack(3, 3);
            x.deed(4, 0);
            x.read(0, 3);
            x.set(0, 1);
            x.set(1, 2);
        }
        if (kind == BRIMFUL) {
            x = Courts.of(Courts.TWELVE_LEAVES, Courts.TEN_RULES);
            for (int n = 0; n < 12; n++) {
                x.crack(n % 6, n % 2 * 5);
                x.deed(n * 2, n % 8);
                x.read(n % 4, n % 2);
            }
        }
        if (kind != EMPTY) {
            Courts.layAll(x, 0, 0, 3, 9, 1);
            Courts.layAll(x, 1, 1, 2, 7, 1, 8);
            x.sheet(2, 2, kind == BRIMFUL ? 60 : 0);
        }
        return x;
    }

    /** Every question, and then every way to undo what there is. */
    private static List<Call> questions() {
        List<Call> all = new ArrayList<>();
        all.add(Call.of("digest"));
        for (int i = 0; i < 12; i++) {
            all.add(Call.of("reading", i % 4, i / 4));
            all.add(Call.of("lies", i % 4, i, i % 2));
        }
        for (int day = 0; day < 4; day++) {
            all.add(Call.of("day", day));
        }
        for (int s = 0; s < 4; s++) {
            for (int i = 0; i < 5; i++) {
                all.add(Call.of("get", s, s % 3, i));
                all.add(Call.of("count", 8));
            }
            all.add(Call.of("take", s));
            all.add(Call.of("lay", s, 0, 0, 1));
            all.add(Call.of("lose", s));
        }
        all.add(Call.of("fits", 0));
        all.add(Call.of("forget"));
        all.add(Call.of("set", 0, 0));
        all.add(Call.of("set", 1, 1));
        for (int n = 0; n < 4; n++) {
            all.add(Call.of("back", n % 2));
            all.add(Call.of("undo", n % 2));
            all.add(Call.of("undo", n % 2));
            all.add(Call.of("fault", n % 2));
            all.add(Call.of("broken", 0));
            all.add(Call.of("reading", n, 0));
            all.add(Call.of("digest"));
        }
        all.add(Call.of("wipe", 0));
        all.add(Call.of("wipe", 1));
        return all;
    }

    private static final List<Call> QUESTIONS = questions();

    /** The number of a FINDING that comes with it, or 0. */
    private static void refused(int kind, Call call, long due, int finding) {
        TeaLaws asked = court(kind);
        TeaLaws other = court(kind);
        String told = call.told() + " in court " + kind;
        DOC.due(told, call.to(asked), due);
        int before = other.count(8);
        DOC.due("count(8) after " + told, asked.count(8), finding == 0 ? before : finding);
        for (Call question : QUESTIONS) {
            long got = question.to(asked);
            long want = question.to(other);
            // The FINDING itself stands until another one comes.
            boolean tellsIt = finding != 0 && question.op == Calls.number("count") && want == before;
            if (!tellsIt) {
                DOC.due(question.told() + " after " + told, got, want);
            }
        }
    }

    private static void bad(Call call) {
        long due = switch (Calls.NAMES[call.op]) {
            case "get" -> LEAST;
            case "sinks" -> Long.MIN_VALUE + 2;
            default -> TeaLaws.BAD;
        };
        for (int kind = 0; kind < KINDS; kind++) {
            refused(kind, call, due, 0);
        }
    }

    /** Items of SHEETS that are not there are FINDINGS, and any SEED or item may be told. */
    private static boolean isNeverBad(String name, int i) {
        return switch (name) {
            case "lay", "get" -> i >= 2;
            case "copy" -> i != 0 && i != 2;
            case "mornings" -> i == 0;
            default -> false;
        };
    }

    private static void numbersNotAsTold() {
        DOC.by(0, "BAD -2 (a number not as told, no such thing)");
        for (int op = 0; op < Calls.NAMES.length; op++) {
            for (int i = 0; i < Calls.ENDS[op].length; i++) {
                if (!isNeverBad(Calls.NAMES[op], i)) {
                    badAt(op, i);
                }
            }
        }
        bad(Call.of("strain", 0, 1, 1, 0));
        bad(Call.of("strain", 3, 255, 128, 1));
        bad(Call.of("strain", 0, 6, 3, 1));
        refused(EMPTY, Call.of("leaf", 0, 0), TeaLaws.BAD, 0);
        refused(EMPTY, Call.of("rule", 0, 0), TeaLaws.BAD, 0);
        refused(EMPTY, Call.of("lies", 0, 0, 0), TeaLaws.BAD, 0);
        refused(MIDDLE, Call.of("leaf", 3, 0), TeaLaws.BAD, 0);
        refused(MIDDLE, Call.of("rule", 4, 0), TeaLaws.BAD, 0);
        refused(MIDDLE, Call.of("lies", 0, 3, 0), TeaLaws.BAD, 0);
    }

    /** All numbers of the call are the least that may be told, but for one that may not. */
    private static void badAt(int op, int i) {
        boolean isMornings = Calls.NAMES[op].equals("mornings");
        int from = isMornings && i == 1 ? 1 : 0;
        for (int wrong : Sentences.beside(from, Calls.ENDS[op][i] - 1)) {
            int[] a = new int[Calls.ENDS[op].length];
            if (isMornings) {
                a[1] = 1;
            }
            a[i] = wrong;
            boolean isSize = Calls.NAMES[op].equals("sheet") && i == 2 && wrong < 0;
            if (!isSize) {
                bad(new Call(op, a));
            }
        }
    }

    private static void toldRefusals() {
        DOC.by(0, "NOT -3 (as told), FULL -4");
        refused(EMPTY, Call.of("undo", 0), TeaLaws.NOT, 0);
        refused(EMPTY, Call.of("undo", 1), TeaLaws.NOT, 0);
        refused(EMPTY, Call.of("back", 0), TeaLaws.NOT, 0);
        refused(EMPTY, Call.of("back", 1), TeaLaws.NOT, 0);
        refused(BRIMFUL, Call.of("type", 0, ';'), TeaLaws.FULL, 0);
        refused(BRIMFUL, Call.of("type", 1, ';'), TeaLaws.FULL, 0);
        refused(BRIMFUL, Call.of("crack", 1, 0), TeaLaws.FULL, 0);
        refused(BRIMFUL, Call.of("deed", 0, 2), TeaLaws.FULL, 0);
        refused(BRIMFUL, Call.of("read", 0, 2), TeaLaws.FULL, 0);
    }

    private static void findings() {
        DOC.by(0, "They change nothing (FINDINGS but count() 8).");
        String[] ofOne = {"take", "lose", "write"};
        for (String name : ofOne) {
            refused(EMPTY, Call.of(name, 0), -11, 1);
            refused(MIDDLE, Call.of(name, 3), -11, 1);
        }
        for (int kind = 0; kind < KINDS; kind++) {
            refused(kind, Call.of("lay", 3, 0, 0, 7), -11, 1);
            refused(kind, Call.of("get", 3, 0, 0), LEAST, 1);
            refused(kind, Call.of("copy", 3, 0, 3, 0, 0), -11, 1);
            refused(kind, Call.of("sheet", 0, 2, -1), -15, 5);
            refused(kind, Call.of("sheet", 3, 0, LEAST), -15, 5);
        }
        for (int kind = MIDDLE; kind < KINDS; kind++) {
            refused(kind, Call.of("lay", 0, 1, 0, 7), -13, 3);
            refused(kind, Call.of("get", 1, 2, 0), LEAST, 3);
            refused(kind, Call.of("copy", 0, 0, 1, 0, 1), -14, 4);
            refused(kind, Call.of("copy", 0, 0, 3, 0, 1), -11, 1);
            refused(kind, Call.of("copy", 3, 0, 0, 0, 1), -11, 1);
            for (int i : Sentences.beside(0, 2)) {
                refused(kind, Call.of("lay", 0, 0, i, 7), -12, 2);
                refused(kind, Call.of("get", 0, 0, i), LEAST, 2);
                refused(kind, Call.of("copy", 0, i, 0, 0, 1), -12, 2);
                refused(kind, Call.of("copy", 0, 0, 0, i, 1), -12, 2);
            }
            for (int n : new int[] {-1, 3, 4, LEAST, MOST}) {
                refused(kind, Call.of("copy", 0, 1, 0, 0, n), -12, 2);
                refused(kind, Call.of("copy", 0, 0, 0, 1, n), -12, 2);
            }
        }
        refused(MIDDLE, Call.of("lay", 2, 2, 0, 7), -12, 2);
        refused(BRIMFUL, Call.of("lay", 2, 2, 60, 7), -12, 2);
    }

    private static void firstThatFits() {
        DOC.by(0, "Refusals, the first that fits, in the order told at each act");
        bad(Call.of("type", 0, 256));
        bad(Call.of("crack", 6, 6));
        bad(Call.of("deed", 28, 8));
        bad(Call.of("read", 4, 256));
        bad(Call.of("sheet", 4, 3, -1));
        bad(Call.of("sheet", 0, 3, -1));
        bad(Call.of("sheet", 4, 0, -1));
        bad(Call.of("lay", 4, 3, -1, 7));
        bad(Call.of("lay", 3, 3, -1, 7));
        bad(Call.of("get", 3, 3, -1));
        bad(Call.of("copy", 4, -1, 3, -1, -1));
        bad(Call.of("copy", 3, -1, 4, -1, -1));
        refused(MIDDLE, Call.of("lay", 3, 2, 60, 7), -11, 1);
        refused(MIDDLE, Call.of("lay", 0, 2, 60, 7), -13, 3);
        refused(MIDDLE, Call.of("get", 3, 2, 60), LEAST, 1);
        refused(MIDDLE, Call.of("get", 0, 2, 60), LEAST, 3);
        refused(MIDDLE, Call.of("copy", 0, -1, 3, -1, -1), -11, 1);
        refused(MIDDLE, Call.of("copy", 3, -1, 0, -1, -1), -11, 1);
        refused(MIDDLE, Call.of("copy", 0, -1, 1, -1, -1), -14, 4);
    }

    private static void longRefusals() {
        DOC.by(0, "Where the answer is a long, a refusal -x is the least long and x more.");
        TeaLaws x = court(MIDDLE);
        DOC.due("sinks(17, 0, 0, 0)", x.sinks(17, 0, 0, 0), -9223372036854775806L);
        DOC.due("sinks(0, 4, 0, 0)", x.sinks(0, 4, 0, 0), -9223372036854775806L);
        DOC.due("sinks(0, 0, 8, 1)", x.sinks(0, 0, 8, 1), -9223372036854775806L);
        DOC.due("sinks(0, 0, 0, 2)", x.sinks(0, 0, 0, 2), -9223372036854775806L);
        // The dearest court here, with its questions, keeps to the calls that an object is used for.
        int calls = 47 + 59 + 36 + 20 + QUESTIONS.size();
        DOC.due("calls are few enough", calls <= MOST_CALLS ? 1 : 0, 1);
    }
}
