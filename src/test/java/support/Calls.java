import java.util.Arrays;

/** The calls of the face by their numbers, so that one list of calls can be put to two courts. */
final class Calls {
    static final String[] NAMES = {"type", "wipe", "undo", "fault", "leaf", "rule", "crack", "deed", "back", "set",
        "lies", "reading", "day", "broken", "free", "clash", "pour", "strain", "strike", "place", "sides", "read", "forget",
        "take", "fits", "sinks", "mornings", "sheet", "lose", "lay", "get", "copy", "write", "count", "digest"};
    /** How far each argument of a call goes: 0 on, below this. */
    static final int[][] ENDS = {{2, 256}, {2}, {2}, {2}, {12, 3}, {10, 5}, {6, 6}, {28, 8}, {2}, {2, 4},
        {4, 12, 2}, {4, 3}, {28}, {2}, {8}, {4}, {256}, {4, 256, 256, 2}, {4, 256, 2}, {4, 8}, {8, 2}, {4, 256}, {},
        {4}, {3}, {17, 4, 8, 2}, {1 << 30, 100, 8}, {4, 3, 61}, {4}, {4, 3, 60, 400}, {4, 3, 60}, {4, 60, 4, 60, 30}, {4}, {9},
        {}};

    private Calls() {
    }

    static int number(String name) {
        return Arrays.asList(NAMES).indexOf(name);
    }

    static String told(int op, int... a) {
        return NAMES[op] + Arrays.toString(a);
    }

    /** Put to a TeaLaws or to a PlainCourt, which have the same face. */
    static long answer(Object court, int op, int... a) {
        Class<?>[] types = new Class<?>[a.length];
        Object[] values = new Object[a.length];
        for (int i = 0; i < a.length; i++) {
            types[i] = int.class;
            values[i] = a[i];
        }
        try {
            return ((Number) court.getClass().getDeclaredMethod(NAMES[op], types).invoke(court, values)).longValue();
        } catch (ReflectiveOperationException e) {
            throw new IllegalStateException(told(op, a), e);
        }
    }
}
