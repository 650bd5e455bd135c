/**
 * The court whose statutes are read each morning from the judge's cup: LEAVES and RULES are texts, and what they say
 * together, by TURNS of the cup, is the law. The words in capitals are those of the document.
 */
public final class TeaLaws {
    public static final int NONE = -1, BAD = -2, NOT = -3, FULL = -4;

    private static final int NULL = 1, INDEX = 2, CAST = 3, STORE = 4, SIZE = 5;
    private static final int LEAST_INT = 1 << 31;
    private static final long LEAST_LONG = 1L << 63;

    private static final int SIDE = 6, QUARTERS = 4, DAYS = 28, LAWS = 8, ALL_LAWS = 255, SHAPES = 3, HOWS = 4;
    private static final int MOST_LEAVES = 12, MOST_RULES = 10, MOST_CRACKS = 8, MOST_DEEDS = 12, MOST_READ = 8;
    private static final int SHEETS = 4, FORMS = 3, MOST_ITEMS = 60, MOST_MORNINGS = 99, SIXTEENTHS = 16;

    private static final int COLUMN = 0, ROW = 1, SHAPE = 2, LEAF_PARTS = 3;
    private static final int FIRST_SHAPE = 0, HOW = 1, SECOND_SHAPE = 2, PLUS = 3, LAW = 4, RULE_PARTS = 5;
    private static final int NEAR = 0, OVER = 1, FAR = 2, WHATEVER = 3;

    /** What may stand at a place of a LEAF or RULE: where a sign stands here is the number that it tells. */
    private static final char[] COLUMN_SIGNS = {'a', 'b', 'c', 'd', 'e', 'f'};
    private static final char[] ROW_SIGNS = {'1', '2', '3', '4', '5', '6'};
    private static final char[] SHAPE_SIGNS = {'s', 'd', 'r'};
    private static final char[] HOW_SIGNS = {'n', 'o', 'f', 'b'};
    private static final char[] PLUS_SIGNS = {'-', '+'};
    private static final char[] LAW_SIGNS = {'A', 'B', 'C', 'D', 'E', 'F', 'G', 'H'};
    private static final char[] SEPARATORS = {';'};

    private final Text leaves = new Text(true, LEAF_PARTS, MOST_LEAVES);
    private final Text rules = new Text(false, RULE_PARTS, MOST_RULES);
    private final Pairs cracks = new Pairs(MOST_CRACKS);
    private final Pairs deeds = new Pairs(MOST_DEEDS);
    private final Pairs memory = new Pairs(MOST_READ);
    private final Cup cup = new Cup(leaves, rules, cracks);
    private final Sheet[] sheets = new Sheet[SHEETS];
    private int firstTurns = 0;
    private int stepTurns = 1;
    private int latestFinding = 0;

    public TeaLaws() {
        for (int s = 0; s < SHEETS; s++) {
            sheets[s] = new Sheet();
        }
    }

    // ---- leaves, rules, cracks

    public int type(int text, int b) {
        if (!below(text, 2) || !below(b, 256)) {
            return BAD;
        }
        cup.stale = true;
        return textOf(text).append(b);
    }

    public int wipe(int text) {
        if (!below(text, 2)) {
            return BAD;
        }
        cup.stale = true;
        return textOf(text).empty();
    }

    public int undo(int text) {
        if (!below(text, 2)) {
            return BAD;
        }
        cup.stale = true;
        return textOf(text).dropLast();
    }

    public int fault(int text) {
        return below(text, 2) ? textOf(text).faultAt : BAD;
    }

    public int leaf(int leaf, int what) {
        return below(leaf, leaves.things) && below(what, LEAF_PARTS) ? leaves.part(leaf, what) : BAD;
    }

    public int rule(int rule, int what) {
        return below(rule, rules.things) && below(what, RULE_PARTS) ? rules.part(rule, what) : BAD;
    }

    public int crack(int column, int row) {
        if (!below(column, SIDE) || !below(row, SIDE)) {
            return BAD;
        }
        cup.stale = true;
        return cracks.append(column, row);
    }

    public int deed(int day, int law) {
        return below(day, DAYS) && below(law, LAWS) ? deeds.append(day, law) : BAD;
    }

    public int back(int what) {
        if (!below(what, 2)) {
            return BAD;
        }
        if (what == 1) {
            return deeds.dropLast();
        }
        cup.stale = true;
        return cracks.dropLast();
    }

    public int set(int what, int v) {
        if (!below(what, 2) || !below(v, QUARTERS)) {
            return BAD;
        }
        int was = what == 0 ? firstTurns : stepTurns;
        if (what == 0) {
            firstTurns = v;
        } else {
            stepTurns = v;
        }
        return was;
    }

    // ---- readings

    public int lies(int turns, int leaf, int what) {
        if (!below(turns, QUARTERS) || !below(leaf, leaves.things) || !below(what, 2)) {
            return BAD;
        }
        Cup now = cup.settled();
        return what == 0 ? now.columns[turns][leaf] : now.rows[turns][leaf];
    }

    public int reading(int turns, int what) {
        if (!below(turns, QUARTERS) || !below(what, 3)) {
            return BAD;
        }
        Cup now = cup.settled();
        switch (what) {
            case 0:
                return now.counting[turns];
            case 1:
                return now.applying[turns];
            default:
                return now.inForce[turns];
        }
    }

    public int day(int day) {
        return below(day, DAYS) ? cup.settled().inForce[turnsOn(day)] : BAD;
    }

    public int broken(int what) {
        if (!below(what, 2)) {
            return BAD;
        }
        int bits = brokenDeeds(cup.settled());
        return what == 0 ? bits : earliestDeed(bits);
    }

    public int free(int law) {
        if (!below(law, LAWS)) {
            return BAD;
        }
        Cup now = cup.settled();
        int bits = 0;
        for (int day = 0; day < DAYS; day++) {
            if (!now.isInForce(turnsOn(day), law)) {
                bits |= 1 << day;
            }
        }
        return bits;
    }

    public int clash(int turns) {
        return below(turns, QUARTERS) ? cup.settled().firstClash(turns) : BAD;
    }

    // ---- plans

    public int pour(int laws) {
        if (!areLaws(laws)) {
            return BAD;
        }
        Cup now = cup.settled();
        int best = 0;
        int bestWorth = -LAWS - 1;
        for (int turns = 0; turns < QUARTERS; turns++) {
            int inForce = now.inForce[turns];
            int worth = Integer.bitCount(inForce & laws) - Integer.bitCount(inForce & ~laws);
            if (worth > bestWorth) {
                bestWorth = worth;
                best = turns;
            }
        }
        return best;
    }

    public int strain(int turns, int laws, int not, int what) {
        if (!below(turns, QUARTERS) || !areLaws(laws) || !areLaws(not) || (laws & not) != 0 || !below(what, 2)) {
            return BAD;
        }
        return howManyOrBits(cup.settled().fewestLeavesOut(turns, laws, not), what);
    }

    public int strike(int turns, int laws, int what) {
        if (!below(turns, QUARTERS) || !areLaws(laws) || !below(what, 2)) {
            return BAD;
        }
        return howManyOrBits(cup.settled().fewestRulesStruck(turns, laws), what);
    }

    public int place(int turns, int law) {
        return below(turns, QUARTERS) && below(law, LAWS) ? cup.settled().leastLeafThatChanges(turns, law) : BAD;
    }

    public int sides(int law, int what) {
        if (!below(law, LAWS) || !below(what, 2)) {
            return BAD;
        }
        int turns = cup.settled().turnsThatHold(law);
        if (what == 1) {
            return turns;
        }
        return turns == NONE ? 0 : 1;
    }

    // ---- what was read, chance

    public int read(int turns, int laws) {
        return below(turns, QUARTERS) && areLaws(laws) ? memory.append(turns, laws) : BAD;
    }

    public int forget() {
        return memory.empty();
    }

    public int take(int s) {
        if (!below(s, SHEETS)) {
            return BAD;
        }
        Sheet sheet = sheets[s];
        if (sheet.isLost()) {
            return find(NULL);
        }
        int taken = 0;
        for (int i = 0; i + 1 < sheet.size; i += 2) {
            if (read(sheet.items[i], sheet.items[i + 1]) < 0) {
                break;
            }
            taken++;
        }
        return taken;
    }

    public int fits(int what) {
        if (!below(what, 3)) {
            return BAD;
        }
        Cup now = cup.settled();
        int things = what == 1 ? leaves.things : rules.things;
        int bits = 0;
        for (int thing = 0; thing < things; thing++) {
            if (wouldFit(now, what, thing)) {
                bits |= 1 << thing;
            }
        }
        return bits;
    }

    public long sinks(int c, int turns, int law, int what) {
        if (!below(c, SIXTEENTHS + 1) || !below(turns, QUARTERS) || !below(law, LAWS) || !below(what, 2)) {
            return LEAST_LONG - BAD;
        }
        long above = cup.settled().chanceAbove(c, turns, law);
        int belowBits = 4 * leaves.things;
        // What is below is a power of two, so only twos can be taken out of both.
        int common = Math.min(Long.numberOfTrailingZeros(above), belowBits);
        return what == 0 ? above >> common : 1L << (belowBits - common);
    }

    public int mornings(int seed, int n, int law) {
        if (n < 1 || n > MOST_MORNINGS || !below(law, LAWS)) {
            return BAD;
        }
        Cup now = cup.settled();
        int lots = seed;
        int found = 0;
        for (int morning = 0; morning < n; morning++) {
            lots = 1103515245 * lots + 12345;
            if (now.isInForce((lots >>> 16) % QUARTERS, law)) {
                found++;
            }
        }
        return found;
    }

    // ---- sheets

    public int sheet(int s, int form, int n) {
        if (!below(s, SHEETS) || !below(form, FORMS) || n > MOST_ITEMS) {
            return BAD;
        }
        if (n < 0) {
            return find(SIZE);
        }
        sheets[s].begin(form, n);
        return n;
    }

    public int lose(int s) {
        if (!below(s, SHEETS)) {
            return BAD;
        }
        return sheets[s].isLost() ? find(NULL) : sheets[s].end();
    }

    public int lay(int s, int form, int i, int v) {
        if (!below(s, SHEETS) || !below(form, FORMS)) {
            return BAD;
        }
        int finding = itemFinding(sheets[s], form, i);
        if (finding != 0) {
            return find(finding);
        }
        sheets[s].put(i, v);
        return 1;
    }

    public int get(int s, int form, int i) {
        if (!below(s, SHEETS) || !below(form, FORMS)) {
            return LEAST_INT;
        }
        int finding = itemFinding(sheets[s], form, i);
        if (finding != 0) {
            find(finding);
            return LEAST_INT;
        }
        return sheets[s].items[i];
    }

    public int copy(int s, int i, int t, int j, int n) {
        if (!below(s, SHEETS) || !below(t, SHEETS)) {
            return BAD;
        }
        Sheet from = sheets[s];
        Sheet to = sheets[t];
        if (from.isLost() || to.isLost()) {
            return find(NULL);
        }
        if (from.form != to.form) {
            return find(STORE);
        }
        if (!from.has(i, n) || !to.has(j, n)) {
            return find(INDEX);
        }
        System.arraycopy(from.items, i, to.items, j, n);
        return 1;
    }

    public int write(int s) {
        if (!below(s, SHEETS)) {
            return BAD;
        }
        Sheet sheet = sheets[s];
        if (sheet.isLost()) {
            return find(NULL);
        }
        Cup now = cup.settled();
        int written = Math.min(sheet.size, DAYS);
        for (int day = 0; day < written; day++) {
            sheet.put(day, now.inForce[turnsOn(day)]);
        }
        return written;
    }

    public int count(int what) {
        switch (what) {
            case 0:
                return leaves.things;
            case 1:
                return rules.things;
            case 2:
                return leaves.length;
            case 3:
                return rules.length;
            case 4:
                return cracks.size;
            case 5:
                return deeds.size;
            case 6:
                return memory.size;
            case 7:
                return rulesWithPlus();
            case 8:
                return latestFinding;
            default:
                return BAD;
        }
    }

    public long digest() {
        long h = 17;
        for (int what = 0; what <= 7; what++) {
            h = 31 * h + count(what);
        }
        h = digestOfTexts(h);
        for (int turns = 0; turns < QUARTERS; turns++) {
            h = digestOfTurns(h, turns);
        }
        for (int law = 0; law < LAWS; law++) {
            h = digestOfLaw(h, law);
        }
        h = 31 * h + broken(0);
        h = 31 * h + broken(1);
        h = 31 * h + pour(5);
        for (int what = 0; what < 3; what++) {
            h = 31 * h + fits(what);
        }
        return h;
    }

    private long digestOfTexts(long before) {
        long h = 31 * before + fault(0);
        h = 31 * h + fault(1);
        for (int leaf = 0; leaf < leaves.things; leaf++) {
            for (int what = 0; what < LEAF_PARTS; what++) {
                h = 31 * h + leaf(leaf, what);
            }
        }
        for (int rule = 0; rule < rules.things; rule++) {
            for (int what = 0; what < RULE_PARTS; what++) {
                h = 31 * h + rule(rule, what);
            }
        }
        return h;
    }

    private long digestOfTurns(long before, int turns) {
        long h = before;
        for (int what = 0; what < 3; what++) {
            h = 31 * h + reading(turns, what);
        }
        h = 31 * h + clash(turns);
        h = 31 * h + strain(turns, 1, 2, 0);
        h = 31 * h + strain(turns, 1, 2, 1);
        h = 31 * h + strike(turns, 3, 0);
        h = 31 * h + strike(turns, 3, 1);
        return 31 * h + place(turns, 0);
    }

    private long digestOfLaw(long before, int law) {
        long h = 31 * before + free(law);
        h = 31 * h + sides(law, 0);
        h = 31 * h + sides(law, 1);
        h = 31 * h + sinks(5, 1, law, 0);
        h = 31 * h + sinks(5, 1, law, 1);
        return 31 * h + mornings(7, 20, law);
    }

    private static boolean below(int number, int limit) {
        return number >= 0 && number < limit;
    }

    private static boolean areLaws(int bits) {
        return bits >= 0 && bits <= ALL_LAWS;
    }

    private static int howManyOrBits(int bits, int what) {
        return bits == NONE || what == 1 ? bits : Integer.bitCount(bits);
    }

    private Text textOf(int text) {
        return text == 0 ? leaves : rules;
    }

    private int turnsOn(int day) {
        return (firstTurns + day * stepTurns) % QUARTERS;
    }

    private int brokenDeeds(Cup now) {
        int bits = 0;
        for (int deed = 0; deed < deeds.size; deed++) {
            if (now.isInForce(turnsOn(deeds.ones[deed]), deeds.others[deed])) {
                bits |= 1 << deed;
            }
        }
        return bits;
    }

    private int earliestDeed(int bits) {
        int earliest = NONE;
        int earliestDay = DAYS;
        for (int deed = 0; deed < deeds.size; deed++) {
            if ((bits >> deed & 1) == 1 && deeds.ones[deed] < earliestDay) {
                earliest = deed;
                earliestDay = deeds.ones[deed];
            }
        }
        return earliest;
    }

    private boolean wouldFit(Cup now, int what, int thing) {
        for (int i = 0; i < memory.size; i++) {
            if (now.inForceHad(what, thing, memory.ones[i]) != memory.others[i]) {
                return false;
            }
        }
        return true;
    }

    private int rulesWithPlus() {
        int found = 0;
        for (int rule = 0; rule < rules.things; rule++) {
            found += rules.part(rule, PLUS);
        }
        return found;
    }

    private int find(int finding) {
        latestFinding = finding;
        return -10 - finding;
    }

    private static int itemFinding(Sheet sheet, int form, int i) {
        if (sheet.isLost()) {
            return NULL;
        }
        if (sheet.form != form) {
            return CAST;
        }
        return below(i, sheet.size) ? 0 : INDEX;
    }

    /** The bytes of LEAVES or of RULES, and the things that they tell if they have no FAULT. */
    private static final class Text {
        private final boolean ofLeaves;
        private final int width;
        private final int[] bytes;
        private final int[] parts;
        int length = 0;
        int things = 0;
        int faultAt = NONE;

        // The room for bytes ends where the last thing ends, so there is never one too many.
        Text(boolean ofLeaves, int width, int most) {
            this.ofLeaves = ofLeaves;
            this.width = width;
            this.bytes = new int[most * (width + 1) - 1];
            this.parts = new int[most * width];
        }

        int append(int b) {
            if (length >= bytes.length) {
                return FULL;
            }
            bytes[length] = b;
            length++;
            parse();
            return length;
        }

        int empty() {
            int had = length;
            length = 0;
            parse();
            return had;
        }

        int dropLast() {
            if (length == 0) {
                return NOT;
            }
            length--;
            parse();
            return length;
        }

        int part(int thing, int what) {
            return parts[thing * width + what];
        }

        private void parse() {
            things = 0;
            faultAt = NONE;
            int thing = 0;
            int place = 0;
            for (int i = 0; i < length; i++) {
                int value = placeOf(bytes[i], signs(place));
                if (value < 0) {
                    faultAt = i;
                    return;
                }
                if (place == width) {
                    thing++;
                    place = 0;
                } else {
                    parts[thing * width + place] = value;
                    place++;
                }
            }
            if (place == width) {
                things = thing + 1;
            } else if (length > 0) {
                faultAt = length;
            }
        }

        private static int placeOf(int b, char[] signs) {
            for (int i = 0; i < signs.length; i++) {
                if (signs[i] == b) {
                    return i;
                }
            }
            return NONE;
        }

        private char[] signs(int place) {
            if (place == width) {
                return SEPARATORS;
            }
            return ofLeaves ? signsOfLeaf(place) : signsOfRule(place);
        }

        private static char[] signsOfLeaf(int place) {
            switch (place) {
                case COLUMN:
                    return COLUMN_SIGNS;
                case ROW:
                    return ROW_SIGNS;
                default:
                    return SHAPE_SIGNS;
            }
        }

        private static char[] signsOfRule(int place) {
            switch (place) {
                case HOW:
                    return HOW_SIGNS;
                case PLUS:
                    return PLUS_SIGNS;
                case LAW:
                    return LAW_SIGNS;
                default:
                    return SHAPE_SIGNS;
            }
        }
    }

    /** Pairs of numbers in the order in which they were told, so many at most. */
    private static final class Pairs {
        final int[] ones;
        final int[] others;
        int size = 0;

        Pairs(int most) {
            this.ones = new int[most];
            this.others = new int[most];
        }

        int append(int one, int other) {
            if (size >= ones.length) {
                return FULL;
            }
            ones[size] = one;
            others[size] = other;
            size++;
            return size;
        }

        int dropLast() {
            if (size == 0) {
                return NOT;
            }
            size--;
            return size;
        }

        int empty() {
            int had = size;
            size = 0;
            return had;
        }
    }

    /** A SHEET; its row is made once and used again by each row of items that it becomes. */
    private static final class Sheet {
        private static final int LOST = -1;

        final int[] items = new int[MOST_ITEMS];
        int form = LOST;
        int size = 0;

        boolean isLost() {
            return form == LOST;
        }

        void begin(int newForm, int n) {
            form = newForm;
            size = n;
            for (int i = 0; i < MOST_ITEMS; i++) {
                items[i] = 0;
            }
        }

        int end() {
            int had = size;
            form = LOST;
            size = 0;
            return had;
        }

        /** Written as a difference, because from and n together may wrap. */
        boolean has(int from, int n) {
            return from >= 0 && n >= 0 && from <= size && n <= size - from;
        }

        void put(int i, int v) {
            switch (form) {
                case 0:
                    items[i] = (byte) v;
                    break;
                case 1:
                    items[i] = (short) v;
                    break;
                default:
                    items[i] = v;
                    break;
            }
        }
    }

    /** What follows from LEAVES, RULES and CRACKS by all TURNS, kept until one of them changes. */
    private static final class Cup {
        private final Text leaves;
        private final Text rules;
        private final Pairs cracks;
        final int[][] columns = new int[QUARTERS][MOST_LEAVES];
        final int[][] rows = new int[QUARTERS][MOST_LEAVES];
        final int[] counting = new int[QUARTERS];
        final int[] applying = new int[QUARTERS];
        final int[] inForce = new int[QUARTERS];
        /** RULES, as bits, that two LEAVES (the lower one first) make APPLY. */
        private final int[][] madeByPair = new int[QUARTERS][MOST_LEAVES * MOST_LEAVES];
        /** RULES, as bits, by how it lies, and by 3 times the first SHAPE and the second. */
        private final int[][] rulesOfKind = new int[HOWS][SHAPES * SHAPES];
        /** READING by RULES that APPLY. */
        private final int[] lawsByRules = new int[1 << MOST_RULES];
        /** RULES that APPLY by LEAVES that are not OUT, for the TURNS that it was last made for. */
        private final int[] rulesByLeaves = new int[1 << MOST_LEAVES];
        private int turnsOfRulesByLeaves = NONE;
        /** How many choices of so many LEAVES have a LAW in force. */
        private final int[] choices = new int[MOST_LEAVES + 1];
        boolean stale = true;

        Cup(Text leaves, Text rules, Pairs cracks) {
            this.leaves = leaves;
            this.rules = rules;
            this.cracks = cracks;
        }

        /** The way to all its answers, so that none is from before the latest change. */
        Cup settled() {
            if (!stale) {
                return this;
            }
            stale = false;
            turnsOfRulesByLeaves = NONE;
            sortRules();
            readRules();
            for (int turns = 0; turns < QUARTERS; turns++) {
                layLeaves(turns);
                pairLeaves(turns);
                inForce[turns] = lawsByRules[applying[turns]];
            }
            return this;
        }

        private void sortRules() {
            for (int how = 0; how < HOWS; how++) {
                for (int shapes = 0; shapes < SHAPES * SHAPES; shapes++) {
                    rulesOfKind[how][shapes] = 0;
                }
            }
            for (int rule = 0; rule < rules.things; rule++) {
                int shapes = SHAPES * rules.part(rule, FIRST_SHAPE) + rules.part(rule, SECOND_SHAPE);
                rulesOfKind[rules.part(rule, HOW)][shapes] |= 1 << rule;
            }
        }

        /** The last RULE of some bits speaks above those before it, whose READING stands already. */
        private void readRules() {
            lawsByRules[0] = 0;
            for (int rule = 0; rule < rules.things; rule++) {
                int bit = 1 << rule;
                int law = 1 << rules.part(rule, LAW);
                boolean plus = rules.part(rule, PLUS) == 1;
                for (int earlier = 0; earlier < bit; earlier++) {
                    int laws = lawsByRules[earlier];
                    lawsByRules[bit | earlier] = plus ? laws | law : laws & ~law;
                }
            }
        }

        private void layLeaves(int turns) {
            counting[turns] = 0;
            for (int leaf = 0; leaf < leaves.things; leaf++) {
                int column = leaves.part(leaf, COLUMN);
                int row = leaves.part(leaf, ROW);
                for (int turn = 0; turn < turns; turn++) {
                    int was = column;
                    column = SIDE - 1 - row;
                    row = was;
                }
                columns[turns][leaf] = column;
                rows[turns][leaf] = row;
                if (!isCracked(column, row)) {
                    counting[turns] |= 1 << leaf;
                }
            }
        }

        private boolean isCracked(int column, int row) {
            for (int crack = 0; crack < cracks.size; crack++) {
                if (cracks.ones[crack] == column && cracks.others[crack] == row) {
                    return true;
                }
            }
            return false;
        }

        private boolean counts(int turns, int leaf) {
            return (counting[turns] >> leaf & 1) == 1;
        }

        private void pairLeaves(int turns) {
            applying[turns] = 0;
            for (int leaf = 0; leaf < leaves.things; leaf++) {
                int shape = leaves.part(leaf, SHAPE);
                int column = columns[turns][leaf];
                int row = rows[turns][leaf];
                for (int later = leaf + 1; later < leaves.things; later++) {
                    int made = counts(turns, leaf) ? madeWith(turns, later, shape, column, row) : 0;
                    madeByPair[turns][leaf * MOST_LEAVES + later] = made;
                    applying[turns] |= made;
                }
            }
        }

        /** RULES that a LEAF of the cup and one that counts, told by its SHAPE and cell, make APPLY, either one first. */
        private int madeWith(int turns, int leaf, int shape, int column, int row) {
            if (!counts(turns, leaf)) {
                return 0;
            }
            int leafShape = leaves.part(leaf, SHAPE);
            int across = Math.abs(column - columns[turns][leaf]);
            int down = row - rows[turns][leaf];
            int apart = Math.max(across, Math.abs(down));
            return madeInOrder(leafShape, shape, apart, across == 0 && down > 0)
                    | madeInOrder(shape, leafShape, apart, across == 0 && down < 0);
        }

        /** Apart: by the COLUMNS or by the ROWS, whichever are more so. */
        private int madeInOrder(int firstShape, int secondShape, int apart, boolean over) {
            int shapes = SHAPES * firstShape + secondShape;
            int made = rulesOfKind[WHATEVER][shapes];
            if (apart <= 1) {
                made |= rulesOfKind[NEAR][shapes];
            }
            if (over) {
                made |= rulesOfKind[OVER][shapes];
            }
            if (apart >= 3) {
                made |= rulesOfKind[FAR][shapes];
            }
            return made;
        }

        boolean isInForce(int turns, int law) {
            return (inForce[turns] >> law & 1) == 1;
        }

        int firstClash(int turns) {
            for (int rule = 0; rule < rules.things; rule++) {
                if (applies(turns, rule) && contradictsEarlier(turns, rule)) {
                    return rule;
                }
            }
            return NONE;
        }

        private boolean applies(int turns, int rule) {
            return (applying[turns] >> rule & 1) == 1;
        }

        private boolean alike(int rule, int other, int what) {
            return rules.part(rule, what) == rules.part(other, what);
        }

        private boolean contradictsEarlier(int turns, int rule) {
            for (int earlier = 0; earlier < rule; earlier++) {
                if (applies(turns, earlier) && alike(earlier, rule, LAW) && !alike(earlier, rule, PLUS)) {
                    return true;
                }
            }
            return false;
        }

        /** Any two LEAVES of some both stand in what is left without a third, or are the lowest and the highest one. */
        private void fillRulesByLeaves(int turns) {
            if (turnsOfRulesByLeaves == turns) {
                return;
            }
            turnsOfRulesByLeaves = turns;
            rulesByLeaves[0] = 0;
            int end = 1 << leaves.things;
            for (int in = 1; in < end; in++) {
                int lowest = Integer.numberOfTrailingZeros(in);
                int highest = 31 - Integer.numberOfLeadingZeros(in);
                rulesByLeaves[in] = lowest == highest ? 0
                        : rulesByLeaves[in & ~(1 << lowest)] | rulesByLeaves[in & ~(1 << highest)]
                                | madeByPair[turns][lowest * MOST_LEAVES + highest];
            }
        }

        int fewestLeavesOut(int turns, int laws, int not) {
            fillRulesByLeaves(turns);
            int all = (1 << leaves.things) - 1;
            int best = NONE;
            int fewest = MOST_LEAVES + 1;
            for (int out = 0; out <= all; out++) {
                int many = Integer.bitCount(out);
                if (many < fewest && (lawsByRules[rulesByLeaves[all & ~out]] & (laws | not)) == laws) {
                    best = out;
                    fewest = many;
                }
            }
            return best;
        }

        int fewestRulesStruck(int turns, int laws) {
            int end = 1 << rules.things;
            int best = NONE;
            int fewest = MOST_RULES + 1;
            for (int struck = 0; struck < end; struck++) {
                int many = Integer.bitCount(struck);
                if (many < fewest && lawsByRules[applying[turns] & ~struck] == laws) {
                    best = struck;
                    fewest = many;
                }
            }
            return best;
        }

        int leastLeafThatChanges(int turns, int law) {
            for (int shape = 0; shape < SHAPES; shape++) {
                for (int row = 0; row < SIDE; row++) {
                    for (int column = 0; column < SIDE; column++) {
                        if (changes(turns, law, shape, column, row)) {
                            return SIDE * SIDE * shape + SIDE * row + column;
                        }
                    }
                }
            }
            return NONE;
        }

        private boolean changes(int turns, int law, int shape, int column, int row) {
            if (isCracked(column, row)) {
                return false;
            }
            int made = applying[turns];
            for (int leaf = 0; leaf < leaves.things; leaf++) {
                if (columns[turns][leaf] == column && rows[turns][leaf] == row) {
                    return false;
                }
                made |= madeWith(turns, leaf, shape, column, row);
            }
            return ((lawsByRules[made] ^ inForce[turns]) >> law & 1) == 1;
        }

        /** The least turn by the first side after which neither turn by the other one takes the LAW away. */
        int turnsThatHold(int law) {
            for (int turns = 0; turns < QUARTERS; turns++) {
                if (isInForce(turns, law) && isInForce((turns + 1) % QUARTERS, law)) {
                    return turns;
                }
            }
            return NONE;
        }

        /** READING, had a RULE (what = 0), a LEAF (1) not been there, a RULE been turned (2). */
        int inForceHad(int what, int thing, int turns) {
            switch (what) {
                case 0:
                    return lawsByRules[applying[turns] & ~(1 << thing)];
                case 1:
                    return inForceWithoutLeaf(turns, thing);
                default:
                    return inForceWithTurnedRule(turns, thing);
            }
        }

        private int inForceWithoutLeaf(int turns, int out) {
            int made = 0;
            for (int leaf = 0; leaf < leaves.things; leaf++) {
                for (int later = leaf + 1; later < leaves.things; later++) {
                    if (leaf != out && later != out) {
                        made |= madeByPair[turns][leaf * MOST_LEAVES + later];
                    }
                }
            }
            return lawsByRules[made];
        }

        /** A RULE's + or - matters only if it is the last one of its LAW that APPLIES. */
        private int inForceWithTurnedRule(int turns, int rule) {
            if (!applies(turns, rule)) {
                return inForce[turns];
            }
            for (int later = rule + 1; later < rules.things; later++) {
                if (applies(turns, later) && alike(rule, later, LAW)) {
                    return inForce[turns];
                }
            }
            return inForce[turns] ^ 1 << rules.part(rule, LAW);
        }

        /** The chance that a LAW is in force, in 16ths to the power of how many LEAVES there are: below 2 to the 49. */
        long chanceAbove(int c, int turns, int law) {
            countChoices(turns, law);
            long above = 0;
            for (int in = 0; in <= leaves.things; in++) {
                above += choices[in] * power(SIXTEENTHS - c, in) * power(c, leaves.things - in);
            }
            return above;
        }

        private void countChoices(int turns, int law) {
            fillRulesByLeaves(turns);
            for (int many = 0; many <= MOST_LEAVES; many++) {
                choices[many] = 0;
            }
            int end = 1 << leaves.things;
            for (int in = 0; in < end; in++) {
                choices[Integer.bitCount(in)] += lawsByRules[rulesByLeaves[in]] >> law & 1;
            }
        }

        private static long power(long base, int exponent) {
            long product = 1;
            for (int i = 0; i < exponent; i++) {
                product *= base;
            }
            return product;
        }
    }
}
