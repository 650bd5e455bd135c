import java.math.BigInteger;
import java.util.ArrayList;
import java.util.Comparator;
import java.util.List;
import java.util.regex.Matcher;
import java.util.regex.Pattern;

/**
 * The document again, in the plainest way and with the whole Java library: nothing is kept, everything is tried, and
 * SHEETS are real arrays. The class under test must answer as this one does.
 */
final class PlainCourt {
    static final int NONE = -1, BAD = -2, NOT = -3, FULL = -4;

    record Leaf(int column, int row, int shape) {
        Leaf turned(int turns) {
            Leaf leaf = this;
            for (int i = 0; i < turns; i++) {
                leaf = new Leaf(5 - leaf.row, leaf.column, leaf.shape);
            }
            return leaf;
        }
    }

    record Rule(int first, int how, int second, int plus, int law) {
        boolean joins(Leaf one, Leaf other) {
            int columns = Math.abs(one.column - other.column);
            int rows = Math.abs(one.row - other.row);
            boolean lies = switch (how) {
                case 0 -> columns <= 1 && rows <= 1;
                case 1 -> columns == 0 && one.row < other.row;
                case 2 -> columns >= 3 || rows >= 3;
                default -> true;
            };
            return lies && one.shape == first && other.shape == second;
        }

        Rule turnedOver() {
            return new Rule(first, how, second, 1 - plus, law);
        }
    }

    record Two(int a, int b) {
    }

    private static final Pattern LEAF_TEXT = Pattern.compile("([a-f][1-6][sdr](;[a-f][1-6][sdr]){0,11})?");
    private static final Pattern RULE_TEXT =
            Pattern.compile("([sdr][nofb][sdr][-+][A-H](;[sdr][nofb][sdr][-+][A-H]){0,9})?");

    private final StringBuilder[] texts = {new StringBuilder(), new StringBuilder()};
    private final List<Two> cracks = new ArrayList<>();
    private final List<Two> deeds = new ArrayList<>();
    private final List<Two> reads = new ArrayList<>();
    private final Object[] sheets = new Object[4];
    private int first = 0;
    private int step = 1;
    private int finding = 0;

    private static boolean in(int x, int low, int high) {
        return low <= x && x <= high;
    }

    int type(int text, int b) {
        if (!in(text, 0, 1) || !in(b, 0, 255)) {
            return BAD;
        }
        if (texts[text].length() == (text == 0 ? 47 : 59)) {
            return FULL;
        }
        return texts[text].append((char) b).length();
    }

    int wipe(int text) {
        if (!in(text, 0, 1)) {
            return BAD;
        }
        int had = texts[text].length();
        texts[text].setLength(0);
        return had;
    }

    int undo(int text) {
        if (!in(text, 0, 1)) {
            return BAD;
        }
        if (texts[text].length() == 0) {
            return NOT;
        }
        texts[text].setLength(texts[text].length() - 1);
        return texts[text].length();
    }

    int fault(int text) {
        if (!in(text, 0, 1)) {
            return BAD;
        }
        Pattern pattern = text == 0 ? LEAF_TEXT : RULE_TEXT;
        if (pattern.matcher(texts[text]).matches()) {
            return NONE;
        }
        for (int n = 1; n <= texts[text].length(); n++) {
            Matcher matcher = pattern.matcher(texts[text].substring(0, n));
            if (!matcher.matches() && !matcher.hitEnd()) {
                return n - 1;
            }
        }
        return texts[text].length();
    }

    private List<String> things(int text) {
        List<String> found = new ArrayList<>();
        if (fault(text) == NONE && texts[text].length() > 0) {
            for (String thing : texts[text].toString().split(";")) {
                found.add(thing);
            }
        }
        return found;
    }

    private List<Leaf> leaves() {
        List<Leaf> found = new ArrayList<>();
        for (String s : things(0)) {
            found.add(new Leaf(s.charAt(0) - 'a', s.charAt(1) - '1', "sdr".indexOf(s.charAt(2))));
        }
        return found;
    }

    private List<Rule> rules() {
        List<Rule> found = new ArrayList<>();
        for (String s : things(1)) {
            found.add(new Rule("sdr".indexOf(s.charAt(0)), "nofb".indexOf(s.charAt(1)), "sdr".indexOf(s.charAt(2)),
                    s.charAt(3) == '+' ? 1 : 0, s.charAt(4) - 'A'));
        }
        return found;
    }

    int leaf(int leaf, int what) {
        List<Leaf> all = leaves();
        if (!in(leaf, 0, all.size() - 1) || !in(what, 0, 2)) {
            return BAD;
        }
        Leaf l = all.get(leaf);
        return new int[] {l.column, l.row, l.shape}[what];
    }

    int rule(int rule, int what) {
        List<Rule> all = rules();
        if (!in(rule, 0, all.size() - 1) || !in(what, 0, 4)) {
            return BAD;
        }
        Rule r = all.get(rule);
        return new int[] {r.first, r.how, r.second, r.plus, r.law}[what];
    }

    int crack(int column, int row) {
        if (!in(column, 0, 5) || !in(row, 0, 5)) {
            return BAD;
        }
        return more(cracks, 8, column, row);
    }

    int deed(int day, int law) {
        if (!in(day, 0, 27) || !in(law, 0, 7)) {
            return BAD;
        }
        return more(deeds, 12, day, law);
    }

    private static int more(List<Two> list, int most, int a, int b) {
        if (list.size() == most) {
            return FULL;
        }
        list.add(new Two(a, b));
        return list.size();
    }

    int back(int what) {
        if (!in(what, 0, 1)) {
            return BAD;
        }
        List<Two> list = what == 0 ? cracks : deeds;
        if (list.isEmpty()) {
            return NOT;
        }
        list.remove(list.size() - 1);
        return list.size();
    }

    int set(int what, int v) {
        if (!in(what, 0, 1) || !in(v, 0, 3)) {
            return BAD;
        }
        int was = what == 0 ? first : step;
        if (what == 0) {
            first = v;
        } else {
            step = v;
        }
        return was;
    }

    private List<Leaf> turned(int turns) {
        List<Leaf> found = new ArrayList<>();
        for (Leaf leaf : leaves()) {
            found.add(leaf.turned(turns));
        }
        return found;
    }

    int lies(int turns, int leaf, int what) {
        if (!in(turns, 0, 3) || !in(leaf, 0, leaves().size() - 1) || !in(what, 0, 1)) {
            return BAD;
        }
        Leaf l = turned(turns).get(leaf);
        return what == 0 ? l.column : l.row;
    }

    private boolean counts(Leaf lying) {
        return !cracks.contains(new Two(lying.column, lying.row));
    }

    private List<Leaf> counting(List<Leaf> lying) {
        List<Leaf> found = new ArrayList<>();
        for (Leaf leaf : lying) {
            if (counts(leaf)) {
                found.add(leaf);
            }
        }
        return found;
    }

    private static boolean applies(Rule rule, List<Leaf> counting) {
        for (int i = 0; i < counting.size(); i++) {
            for (int j = 0; j < counting.size(); j++) {
                if (i != j && rule.joins(counting.get(i), counting.get(j))) {
                    return true;
                }
            }
        }
        return false;
    }

    private static int applying(List<Rule> rules, List<Leaf> counting) {
        int bits = 0;
        for (int i = 0; i < rules.size(); i++) {
            bits |= applies(rules.get(i), counting) ? 1 << i : 0;
        }
        return bits;
    }

    private static int laws(List<Rule> rules, List<Leaf> counting) {
        int bits = 0;
        for (int law = 0; law < 8; law++) {
            int told = 0;
            for (Rule rule : rules) {
                if (rule.law == law && applies(rule, counting)) {
                    told = rule.plus;
                }
            }
            bits |= told << law;
        }
        return bits;
    }

    int reading(int turns, int what) {
        if (!in(turns, 0, 3) || !in(what, 0, 2)) {
            return BAD;
        }
        List<Leaf> lying = turned(turns);
        if (what == 1) {
            return applying(rules(), counting(lying));
        }
        if (what == 2) {
            return laws(rules(), counting(lying));
        }
        int bits = 0;
        for (int i = 0; i < lying.size(); i++) {
            bits |= counts(lying.get(i)) ? 1 << i : 0;
        }
        return bits;
    }

    int day(int day) {
        return in(day, 0, 27) ? reading(Math.floorMod(first + day * step, 4), 2) : BAD;
    }

    int broken(int what) {
        if (!in(what, 0, 1)) {
            return BAD;
        }
        int bits = 0;
        int earliest = NONE;
        for (int i = 0; i < deeds.size(); i++) {
            Two deed = deeds.get(i);
            if ((day(deed.a) & 1 << deed.b) != 0) {
                bits |= 1 << i;
                if (earliest == NONE || deed.a < deeds.get(earliest).a) {
                    earliest = i;
                }
            }
        }
        return what == 0 ? bits : earliest;
    }

    int free(int law) {
        if (!in(law, 0, 7)) {
            return BAD;
        }
        int bits = 0;
        for (int day = 0; day < 28; day++) {
            bits |= (day(day) & 1 << law) == 0 ? 1 << day : 0;
        }
        return bits;
    }

    int clash(int turns) {
        if (!in(turns, 0, 3)) {
            return BAD;
        }
        List<Rule> rules = rules();
        int bits = reading(turns, 1);
        for (int i = 0; i < rules.size(); i++) {
            for (int j = 0; j < i; j++) {
                boolean both = (bits & 1 << i) != 0 && (bits & 1 << j) != 0;
                if (both && rules.get(i).law == rules.get(j).law && rules.get(i).plus != rules.get(j).plus) {
                    return i;
                }
            }
        }
        return NONE;
    }

    int pour(int laws) {
        if (!in(laws, 0, 255)) {
            return BAD;
        }
        List<Integer> worths = new ArrayList<>();
        for (int turns = 0; turns < 4; turns++) {
            int worth = 0;
            for (int law = 0; law < 8; law++) {
                if ((reading(turns, 2) & 1 << law) != 0) {
                    worth += (laws & 1 << law) != 0 ? 1 : -1;
                }
            }
            worths.add(worth);
        }
        return worths.indexOf(worths.stream().max(Comparator.naturalOrder()).get());
    }

    private static <T> List<T> without(List<T> list, int out) {
        List<T> left = new ArrayList<>();
        for (int i = 0; i < list.size(); i++) {
            if ((out & 1 << i) == 0) {
                left.add(list.get(i));
            }
        }
        return left;
    }

    private static boolean better(int bits, int than) {
        int many = Integer.bitCount(bits);
        int others = Integer.bitCount(than);
        return than == NONE || many < others || many == others && bits < than;
    }

    private static int told(int bits, int what) {
        return bits == NONE ? NONE : what == 0 ? Integer.bitCount(bits) : bits;
    }

    int strain(int turns, int laws, int not, int what) {
        if (!in(turns, 0, 3) || !in(laws, 0, 255) || !in(not, 0, 255) || (laws & not) != 0 || !in(what, 0, 1)) {
            return BAD;
        }
        List<Leaf> lying = turned(turns);
        List<Rule> rules = rules();
        int best = NONE;
        for (int out = (1 << lying.size()) - 1; out >= 0; out--) {
            if (better(out, best)) {
                int left = laws(rules, counting(without(lying, out)));
                if ((left & laws) == laws && (left & not) == 0) {
                    best = out;
                }
            }
        }
        return told(best, what);
    }

    int strike(int turns, int laws, int what) {
        if (!in(turns, 0, 3) || !in(laws, 0, 255) || !in(what, 0, 1)) {
            return BAD;
        }
        List<Leaf> counting = counting(turned(turns));
        List<Rule> rules = rules();
        int best = NONE;
        for (int out = (1 << rules.size()) - 1; out >= 0; out--) {
            if (better(out, best) && laws(without(rules, out), counting) == laws) {
                best = out;
            }
        }
        return told(best, what);
    }

    int place(int turns, int law) {
        if (!in(turns, 0, 3) || !in(law, 0, 7)) {
            return BAD;
        }
        List<Leaf> lying = turned(turns);
        List<Rule> rules = rules();
        int before = laws(rules, counting(lying));
        for (int n = 0; n < 108; n++) {
            Leaf leaf = new Leaf(n % 6, n / 6 % 6, n / 36);
            boolean bare = lying.stream().noneMatch(l -> l.column == leaf.column && l.row == leaf.row);
            List<Leaf> more = new ArrayList<>(lying);
            more.add(leaf);
            if (bare && ((laws(rules, counting(more)) ^ before) & 1 << law) != 0) {
                return n;
            }
        }
        return NONE;
    }

    int sides(int law, int what) {
        if (!in(law, 0, 7) || !in(what, 0, 1)) {
            return BAD;
        }
        for (int mine = 0; mine < 4; mine++) {
            boolean always = true;
            for (int yours = 0; yours < 2; yours++) {
                always &= (reading((mine + yours) % 4, 2) & 1 << law) != 0;
            }
            if (always) {
                return what == 0 ? 1 : mine;
            }
        }
        return what == 0 ? 0 : NONE;
    }

    int read(int turns, int laws) {
        if (!in(turns, 0, 3) || !in(laws, 0, 255)) {
            return BAD;
        }
        return more(reads, 8, turns, laws);
    }

    int forget() {
        int had = reads.size();
        reads.clear();
        return had;
    }

    private int found(int number) {
        finding = number;
        return -10 - number;
    }

    private static int size(Object sheet) {
        return java.lang.reflect.Array.getLength(sheet);
    }

    private static int item(Object sheet, int i) {
        return java.lang.reflect.Array.getInt(sheet, i);
    }

    private static void put(Object sheet, int i, int v) {
        if (sheet instanceof byte[] bytes) {
            bytes[i] = (byte) v;
        } else if (sheet instanceof short[] shorts) {
            shorts[i] = (short) v;
        } else {
            ((int[]) sheet)[i] = v;
        }
    }

    int take(int s) {
        if (!in(s, 0, 3)) {
            return BAD;
        }
        if (sheets[s] == null) {
            return found(1);
        }
        int n = 0;
        while (2 * n + 1 < size(sheets[s]) && read(item(sheets[s], 2 * n), item(sheets[s], 2 * n + 1)) > 0) {
            n++;
        }
        return n;
    }

    private boolean allReadComeOut(List<Leaf> leaves, List<Rule> rules) {
        for (Two read : reads) {
            List<Leaf> lying = new ArrayList<>();
            for (Leaf leaf : leaves) {
                lying.add(leaf.turned(read.a));
            }
            if (laws(rules, counting(lying)) != read.b) {
                return false;
            }
        }
        return true;
    }

    int fits(int what) {
        if (!in(what, 0, 2)) {
            return BAD;
        }
        List<Leaf> leaves = leaves();
        List<Rule> rules = rules();
        int bits = 0;
        for (int i = 0; i < (what == 1 ? leaves.size() : rules.size()); i++) {
            boolean fits;
            if (what == 0) {
                fits = allReadComeOut(leaves, without(rules, 1 << i));
            } else if (what == 1) {
                fits = allReadComeOut(without(leaves, 1 << i), rules);
            } else {
                List<Rule> turned = new ArrayList<>(rules);
                turned.set(i, rules.get(i).turnedOver());
                fits = allReadComeOut(leaves, turned);
            }
            bits |= fits ? 1 << i : 0;
        }
        return bits;
    }

    long sinks(int c, int turns, int law, int what) {
        if (!in(c, 0, 16) || !in(turns, 0, 3) || !in(law, 0, 7) || !in(what, 0, 1)) {
            return Long.MIN_VALUE + 2;
        }
        List<Leaf> lying = turned(turns);
        List<Rule> rules = rules();
        BigInteger above = BigInteger.ZERO;
        for (int out = 0; out < 1 << lying.size(); out++) {
            if ((laws(rules, counting(without(lying, out))) & 1 << law) != 0) {
                BigInteger weight = BigInteger.ONE;
                for (int i = 0; i < lying.size(); i++) {
                    weight = weight.multiply(BigInteger.valueOf((out & 1 << i) != 0 ? c : 16 - c));
                }
                above = above.add(weight);
            }
        }
        BigInteger below = BigInteger.valueOf(16).pow(lying.size());
        BigInteger common = above.gcd(below);
        return (what == 0 ? above : below).divide(common).longValueExact();
    }

    int mornings(int seed, int n, int law) {
        if (!in(n, 1, 99) || !in(law, 0, 7)) {
            return BAD;
        }
        BigInteger lots = BigInteger.valueOf(seed);
        int found = 0;
        for (int i = 0; i < n; i++) {
            lots = lots.multiply(BigInteger.valueOf(1103515245)).add(BigInteger.valueOf(12345));
            lots = lots.mod(BigInteger.ONE.shiftLeft(32));
            int turns = lots.shiftRight(16).mod(BigInteger.valueOf(4)).intValue();
            found += (reading(turns, 2) & 1 << law) != 0 ? 1 : 0;
        }
        return found;
    }

    int sheet(int s, int form, int n) {
        if (!in(s, 0, 3) || !in(form, 0, 2) || n > 60) {
            return BAD;
        }
        if (n < 0) {
            return found(5);
        }
        sheets[s] = form == 0 ? new byte[n] : form == 1 ? new short[n] : new int[n];
        return n;
    }

    int lose(int s) {
        if (!in(s, 0, 3)) {
            return BAD;
        }
        if (sheets[s] == null) {
            return found(1);
        }
        int had = size(sheets[s]);
        sheets[s] = null;
        return had;
    }

    private static int form(Object sheet) {
        return sheet instanceof byte[] ? 0 : sheet instanceof short[] ? 1 : 2;
    }

    private int findingOf(int s, int form, int i) {
        if (sheets[s] == null) {
            return 1;
        }
        if (form(sheets[s]) != form) {
            return 3;
        }
        return in(i, 0, size(sheets[s]) - 1) ? 0 : 2;
    }

    int lay(int s, int form, int i, int v) {
        if (!in(s, 0, 3) || !in(form, 0, 2)) {
            return BAD;
        }
        int number = findingOf(s, form, i);
        if (number != 0) {
            return found(number);
        }
        put(sheets[s], i, v);
        return 1;
    }

    int get(int s, int form, int i) {
        if (!in(s, 0, 3) || !in(form, 0, 2)) {
            return Integer.MIN_VALUE;
        }
        int number = findingOf(s, form, i);
        if (number != 0) {
            found(number);
            return Integer.MIN_VALUE;
        }
        return item(sheets[s], i);
    }

    /** Java's own arraycopy refuses in the same order, but for unlike FORMS of a LOST one. */
    int copy(int s, int i, int t, int j, int n) {
        if (!in(s, 0, 3) || !in(t, 0, 3)) {
            return BAD;
        }
        try {
            System.arraycopy(sheets[s], i, sheets[t], j, n);
            return 1;
        } catch (NullPointerException e) {
            return found(1);
        } catch (ArrayStoreException e) {
            return found(4);
        } catch (IndexOutOfBoundsException e) {
            return found(2);
        }
    }

    int write(int s) {
        if (!in(s, 0, 3)) {
            return BAD;
        }
        if (sheets[s] == null) {
            return found(1);
        }
        int n = 0;
        while (n < 28 && n < size(sheets[s])) {
            put(sheets[s], n, day(n));
            n++;
        }
        return n;
    }

    int count(int what) {
        return switch (what) {
            case 0 -> leaves().size();
            case 1 -> rules().size();
            case 2 -> texts[0].length();
            case 3 -> texts[1].length();
            case 4 -> cracks.size();
            case 5 -> deeds.size();
            case 6 -> reads.size();
            case 7 -> (int) rules().stream().filter(r -> r.plus == 1).count();
            case 8 -> finding;
            default -> BAD;
        };
    }

    long digest() {
        List<Long> all = new ArrayList<>();
        for (int i = 0; i <= 7; i++) {
            all.add((long) count(i));
        }
        all.add((long) fault(0));
        all.add((long) fault(1));
        for (Leaf l : leaves()) {
            all.addAll(List.of((long) l.column, (long) l.row, (long) l.shape));
        }
        for (Rule r : rules()) {
            all.addAll(List.of((long) r.first, (long) r.how, (long) r.second, (long) r.plus, (long) r.law));
        }
        for (int t = 0; t < 4; t++) {
            all.addAll(List.of((long) reading(t, 0), (long) reading(t, 1), (long) reading(t, 2), (long) clash(t),
                    (long) strain(t, 1, 2, 0), (long) strain(t, 1, 2, 1)));
            all.addAll(List.of((long) strike(t, 3, 0), (long) strike(t, 3, 1), (long) place(t, 0)));
        }
        for (int law = 0; law < 8; law++) {
            all.addAll(List.of((long) free(law), (long) sides(law, 0), (long) sides(law, 1), sinks(5, 1, law, 0),
                    sinks(5, 1, law, 1), (long) mornings(7, 20, law)));
        }
        all.addAll(List.of((long) broken(0), (long) broken(1), (long) pour(5)));
        all.addAll(List.of((long) fits(0), (long) fits(1), (long) fits(2)));
        long h = 17;
        for (long x : all) {
            h = 31 * h + x;
        }
        return h;
    }
}
