import java.util.Random;

/** Runs of calls by a fixed seed, put to the class and to the plain court: every answer must be the same. */
public final class RandomRunsTest {
    private static final int TYPE = 0, WIPE = 1, UNDO = 2, READING = 11, STRAIN = 17, STRIKE = 18, READ = 21;
    private static final int FORGET = 22, SHEET = 27, LOSE = 28, LAY = 29, DIGEST = 34;

    private final Check check = new Check("RandomRunsTest");
    private final Random random;
    private TeaLaws court;
    private PlainCourt plain;
    private int calls;

    private RandomRunsTest(long seed) {
        random = new Random(seed);
    }

    public static void main(String[] args) {
        int runs = args.length > 0 ? Integer.parseInt(args[0]) : 600;
        long seed = args.length > 1 ? Long.parseLong(args[1]) : 20261118L;
        RandomRunsTest test = new RandomRunsTest(seed);
        for (int run = 0; run < runs && !test.check.failed(); run++) {
            test.run(run);
        }
        test.check.end();
    }

    private void run(int run) {
        court = new TeaLaws();
        plain = new PlainCourt();
        calls = 0;
        int many = run % 40 == 0 ? 12 : random.nextInt(8);
        retype(0, leaves(many, 1 + random.nextInt(6)));
        retype(1, rules(run % 20 == 0 ? 10 : random.nextInt(11), 1 + random.nextInt(8)));
        int asked = 150 + random.nextInt(60);
        while (calls < 106 + asked && !check.failed()) {
            step();
        }
        ask(DIGEST);
    }

    private void step() {
        int luck = random.nextInt(100);
        if (luck < 2) {
            retype(0, leaves(random.nextInt(7), 1 + random.nextInt(6)));
        } else if (luck < 4) {
            retype(1, rules(random.nextInt(8), 1 + random.nextInt(8)));
        } else if (luck < 12) {
            rememberReading();
        } else if (luck < 18) {
            strainForReading();
        } else {
            askAtRandom();
        }
    }

    private void askAtRandom() {
        int op = random.nextInt(Calls.NAMES.length);
        boolean spoils = op == TYPE || op == WIPE || op == UNDO || op == LOSE || op == FORGET || op == DIGEST;
        if (spoils && random.nextInt(10) != 0) {
            return;
        }
        int[] a = new int[Calls.ENDS[op].length];
        for (int i = 0; i < a.length; i++) {
            a[i] = argument(Calls.ENDS[op][i]);
        }
        if (op == SHEET && random.nextInt(2) == 0) {
            a[1] = 2;
            a[2] = random.nextInt(20);
        }
        if (op == LAY && random.nextInt(2) == 0) {
            a[2] = random.nextInt(12);
            a[3] = random.nextInt(4);
        }
        if (op == STRAIN && random.nextInt(4) != 0) {
            a[2] &= ~a[1];
        }
        ask(op, a);
    }

    private int argument(int end) {
        int luck = random.nextInt(60);
        switch (luck) {
            case 0:
                return -1;
            case 1:
                return end;
            case 2:
                return random.nextInt();
            case 3:
                return random.nextBoolean() ? Integer.MAX_VALUE : Integer.MIN_VALUE;
            case 4:
                return end - 1;
            default:
                return end <= 256 && end > 28 && luck % 2 == 0 ? random.nextInt(Math.min(end, 9)) : random.nextInt(end);
        }
    }

    /** READ that may well come out: the READING itself, or one LAW beside it. */
    private void rememberReading() {
        int turns = random.nextInt(4);
        int laws = (int) ask(READING, turns, 2);
        ask(READ, turns, random.nextInt(3) == 0 ? laws ^ 1 << random.nextInt(8) : laws);
        if (random.nextInt(5) == 0) {
            ask(FORGET);
        }
    }

    private void strainForReading() {
        int turns = random.nextInt(4);
        int laws = (int) ask(READING, turns, 2);
        int other = (int) ask(READING, random.nextInt(4), 2);
        ask(STRAIN, turns, other, laws & ~other, random.nextInt(2));
        ask(STRIKE, turns, laws & random.nextInt(256), random.nextInt(2));
    }

    private void retype(int text, String signs) {
        if (calls + signs.length() > 440) {
            return;
        }
        ask(WIPE, text);
        for (char sign : signs.toCharArray()) {
            ask(TYPE, text, sign);
        }
    }

    private String leaves(int many, int side) {
        StringBuilder text = new StringBuilder();
        for (int i = 0; i < many; i++) {
            text.append(i == 0 ? "" : ";").append((char) ('a' + random.nextInt(side)));
            text.append((char) ('1' + random.nextInt(side))).append("sdr".charAt(random.nextInt(3)));
        }
        return text.toString();
    }

    private String rules(int many, int laws) {
        StringBuilder text = new StringBuilder();
        for (int i = 0; i < many; i++) {
            text.append(i == 0 ? "" : ";").append("sdr".charAt(random.nextInt(3))).append("nofb".charAt(random.nextInt(4)));
            text.append("sdr".charAt(random.nextInt(3))).append(random.nextInt(3) == 0 ? '-' : '+');
            text.append((char) ('A' + random.nextInt(laws)));
        }
        return text.toString();
    }

    private long ask(int op, int... a) {
        calls++;
        long got = Calls.answer(court, op, a);
        check.due(Calls.told(op, a), got, Calls.answer(plain, op, a));
        return got;
    }
}
