import java.util.Arrays;

/** Small groups by their tables, the rows of numbers on which they act, and the groups over them. */
public final class GroupTowers {
    public static final int BAD = -1, STATE = -2, FULL = -3, NONE = -4, SPENT = -5;

    private static final int MOST_GROUPS = 8;
    private static final int MOST_MODULES = 6;
    private static final int SHEETS = 4;
    private static final int MOST_CELLS = 144;
    private static final int MOST_ORDER = 48;
    private static final int MOST_READ_ORDER = 12;
    private static final int MOST_ACTING_ORDER = 8;
    private static final int MOST_RANK = 2;
    private static final int MOST_TRIES = 20000;
    private static final int BYTES = 0;
    private static final int INTS = 1;
    private static final int NOTHING = -1;

    /** Each new maker at least doubles what is made, and 2 to the 6 is above the greatest order. */
    private static final int MOST_MAKERS = 5;
    private static final int MOST_SINGLE_PLACES = (MOST_ACTING_ORDER - 1) * MOST_RANK;
    private static final int MOST_PLACES = (MOST_ACTING_ORDER - 1) * MOST_SINGLE_PLACES;
    /** H is at most the rank times the relations of a group, of which none up to 8 needs more than 6. */
    private static final int MOST_STANDARDS = 6 * MOST_RANK;

    private static final int FAULT_BASE = -10;
    private static final int NULL_FAULT = 1;
    private static final int INDEX_FAULT = 2;
    private static final int CAST_FAULT = 3;
    private static final int SIZE_FAULT = 4;

    private static final int TABLE_BASE = -100;
    private static final int UNLIKE_PRODUCTS = 1000;
    private static final int NO_INVERSE = 3000;
    private static final int ZERO_MOVES = 1000;

    /** The products of 1, i, j, k, row by row; 4 more is the opposite. */
    private static final int[] UNITS = {0, 1, 2, 3, 1, 4, 3, 6, 2, 7, 4, 1, 3, 2, 5, 4};

    private final Group[] groups = new Group[MOST_GROUPS];
    private final Action[] actions = new Action[MOST_MODULES];
    private final Sheet[] sheets = new Sheet[SHEETS];
    private int groupCount;
    private int actionCount;
    private Matching matching;
    private Echelon equations;

    public GroupTowers() {
        for (int k = 0; k < SHEETS; k++) {
            sheets[k] = new Sheet();
        }
    }

    public int cyclic(int n) {
        if (n < 1 || n > MOST_ORDER) {
            return BAD;
        }
        Group fresh = spareGroup();
        if (fresh == null) {
            return FULL;
        }
        fresh.fillTurns(n);
        return keep(fresh);
    }

    public int dihedral(int n) {
        if (n < 1 || n > MOST_ORDER / 2) {
            return BAD;
        }
        Group fresh = spareGroup();
        if (fresh == null) {
            return FULL;
        }
        fresh.fillTurnsAndFlips(n);
        return keep(fresh);
    }

    public int quaternions() {
        Group fresh = spareGroup();
        if (fresh == null) {
            return FULL;
        }
        fresh.fillUnits();
        return keep(fresh);
    }

    public int pair(int a, int b) {
        Group first = groupAt(a);
        Group second = groupAt(b);
        if (first == null || second == null) {
            return BAD;
        }
        if (first.size * second.size > MOST_ORDER) {
            return FULL;
        }
        Group fresh = spareGroup();
        if (fresh == null) {
            return FULL;
        }
        fresh.fillPair(first, second);
        return keep(fresh);
    }

    public int sheet(int k, int lane, int n) {
        Sheet sheet = sheetAt(k);
        if (sheet == null || !isLane(lane) || n > MOST_CELLS) {
            return BAD;
        }
        if (n < 0) {
            return FAULT_BASE - SIZE_FAULT;
        }
        sheet.renew(lane, n);
        return 1;
    }

    public int lay(int k, int i, int v) {
        Sheet sheet = sheetAt(k);
        if (sheet == null) {
            return BAD;
        }
        if (sheet.lane == NOTHING) {
            return FAULT_BASE - NULL_FAULT;
        }
        if (i < 0 || i >= sheet.length) {
            return FAULT_BASE - INDEX_FAULT;
        }
        sheet.put(i, v);
        return 1;
    }

    public int table(int k, int lane, int n) {
        Sheet sheet = sheetAt(k);
        if (sheet == null || !isLane(lane) || n < 1 || n > MOST_READ_ORDER) {
            return BAD;
        }
        int fault = sheet.faultOfReading(lane, n * n);
        if (fault != 0) {
            return FAULT_BASE - fault;
        }
        Group fresh = spareGroup();
        if (fresh == null) {
            return FULL;
        }
        int wrong = fresh.readFrom(sheet, n);
        if (wrong >= 0) {
            return TABLE_BASE - wrong;
        }
        return keep(fresh);
    }

    public int drop() {
        if (groupCount == 0) {
            return NONE;
        }
        Group latest = groups[groupCount - 1];
        for (int m = 0; m < actionCount; m++) {
            if (actions[m].group == latest) {
                return STATE;
            }
        }
        groupCount--;
        return groupCount;
    }

    public int order(int g) {
        Group group = groupAt(g);
        return group == null ? BAD : group.size;
    }

    public int product(int g, int x, int y) {
        Group group = groupAt(g);
        if (group == null || !group.has(x) || !group.has(y)) {
            return BAD;
        }
        return group.mul(x, y);
    }

    public int element(int g, int x, int what) {
        Group group = groupAt(g);
        if (group == null || !group.has(x)) {
            return BAD;
        }
        switch (what) {
            case 0: return group.inverse[x];
            case 1: return group.period[x];
            case 2: return group.countCommuting(x);
            case 3: return group.leastTurned(x);
            default: return BAD;
        }
    }

    public int about(int g, int what) {
        Group group = groupAt(g);
        if (group == null) {
            return BAD;
        }
        switch (what) {
            case 0: return group.countCentral();
            case 1: return group.countDerived();
            case 2: return group.exponent();
            case 3: return group.countTurnClasses();
            case 4: return group.countCentral() == group.size ? 1 : 0;
            case 5: return group.findMakers();
            default: return BAD;
        }
    }

    public int made(int g, int x, int y) {
        Group group = groupAt(g);
        if (group == null || !group.has(x) || !group.has(y)) {
            return BAD;
        }
        return group.countMade(x, y);
    }

    public int same(int a, int b, int n) {
        Group first = groupAt(a);
        Group second = groupAt(b);
        if (first == null || second == null || n < 0 || n > MOST_TRIES) {
            return BAD;
        }
        if (matching == null) {
            matching = new Matching();
        }
        return matching.search(first, second, n);
    }

    public int module(int g, int p, int r) {
        Group group = groupAt(g);
        if (group == null || group.size > MOST_ACTING_ORDER) {
            return BAD;
        }
        if ((p != 2 && p != 3 && p != 5) || r < 1 || r > MOST_RANK) {
            return BAD;
        }
        if (actionCount >= MOST_MODULES) {
            return FULL;
        }
        if (actions[actionCount] == null) {
            actions[actionCount] = new Action();
        }
        actions[actionCount].begin(group, p, r);
        return actionCount++;
    }

    public int acts(int m, int x, int a, int b, int c, int d) {
        Action action = actionAt(m);
        if (action == null || !action.group.has(x)) {
            return BAD;
        }
        if (!action.isNumber(a) || !action.isNumber(b) || !action.isNumber(c) || !action.isNumber(d)) {
            return BAD;
        }
        if (action.rank == 1 && (b != 0 || c != 0 || d != 0)) {
            return BAD;
        }
        action.put(x, a, b, c, d);
        return 1;
    }

    public int sound(int m) {
        Action action = actionAt(m);
        return action == null ? BAD : action.firstUnsound();
    }

    public int dimension(int m, int what) {
        Action action = actionAt(m);
        if (action == null || what < 0 || what > 6) {
            return BAD;
        }
        solve(action);
        return action.solved ? action.twists.dimensionOf(what) : STATE;
    }

    public int twist(int m, int c, int x, int y, int i) {
        Action action = actionAt(m);
        if (action == null || !action.group.has(x) || !action.group.has(y) || i < 0 || i >= action.rank) {
            return BAD;
        }
        solve(action);
        int refusal = refusalOf(action, c);
        return refusal != 0 ? refusal : action.twists.numberOf(action, c, x, y, i);
    }

    public int over(int m, int c) {
        Action action = actionAt(m);
        if (action == null) {
            return BAD;
        }
        solve(action);
        int refusal = refusalOf(action, c);
        if (refusal != 0) {
            return refusal;
        }
        if (action.vectors * action.group.size > MOST_ORDER) {
            return FULL;
        }
        Group fresh = spareGroup();
        if (fresh == null) {
            return FULL;
        }
        fresh.fillOver(action, c);
        return keep(fresh);
    }

    public int classOf(int m, int k, int lane) {
        Action action = actionAt(m);
        Sheet sheet = sheetAt(k);
        if (action == null || sheet == null || !isLane(lane)) {
            return BAD;
        }
        solve(action);
        if (!action.solved) {
            return STATE;
        }
        int fault = sheet.faultOfReading(lane, action.rank * action.group.size * action.group.size);
        if (fault != 0) {
            return FAULT_BASE - fault;
        }
        return action.twists.classRead(action, sheet);
    }

    public int parts(int m, int c) {
        Action action = actionAt(m);
        if (action == null) {
            return BAD;
        }
        solve(action);
        int refusal = refusalOf(action, c);
        if (refusal != 0) {
            return refusal;
        }
        return c == 0 ? power(action.prime, action.twists.dimensionOf(1)) : 0;
    }

    public int sum(int m, int c, int d) {
        Action action = actionAt(m);
        if (action == null) {
            return BAD;
        }
        solve(action);
        int refusal = refusalOf(action, c);
        if (refusal == 0) {
            refusal = refusalOf(action, d);
        }
        return refusal != 0 ? refusal : addDigits(c, d, action.prime, action.twists.standards.count);
    }

    public int times(int m, int c, int s) {
        Action action = actionAt(m);
        if (action == null || s < 1 || s >= action.prime) {
            return BAD;
        }
        solve(action);
        int refusal = refusalOf(action, c);
        if (refusal != 0) {
            return refusal;
        }
        int scaled = 0;
        for (int i = 0; i < s; i++) {
            scaled = addDigits(scaled, c, action.prime, action.twists.standards.count);
        }
        return scaled;
    }

    public int count(int what) {
        switch (what) {
            case 0: return groupCount;
            case 1: return actionCount;
            case 2: return sheets[0].lane == NOTHING ? NONE : sheets[0].length;
            default: return BAD;
        }
    }

    public int leave() {
        if (actionCount == 0) {
            return NONE;
        }
        actionCount--;
        return actionCount;
    }

    private Group groupAt(int g) {
        return g >= 0 && g < groupCount ? groups[g] : null;
    }

    private Action actionAt(int m) {
        return m >= 0 && m < actionCount ? actions[m] : null;
    }

    private Sheet sheetAt(int k) {
        return k >= 0 && k < SHEETS ? sheets[k] : null;
    }

    private static boolean isLane(int lane) {
        return lane == BYTES || lane == INTS;
    }

    /** The rows of a group that went are filled again, so that a run makes no more of them than it needs at once. */
    private Group spareGroup() {
        if (groupCount >= MOST_GROUPS) {
            return null;
        }
        if (groups[groupCount] == null) {
            groups[groupCount] = new Group();
        }
        return groups[groupCount];
    }

    private int keep(Group filled) {
        filled.settle();
        return groupCount++;
    }

    /** Only a sound module has dimensions and classes; they are found once, until it acts otherwise. */
    private void solve(Action action) {
        if (action.solved || action.firstUnsound() != 0) {
            return;
        }
        if (equations == null) {
            equations = new Echelon(MOST_PLACES);
        }
        Twists twists = action.twists;
        twists.findUnmoved(action, equations);
        twists.findBounds(action);
        twists.writeEquations(action, equations);
        twists.findStandards(action, equations);
        action.solved = true;
    }

    /** What a class is refused with, or 0; the module has been solved, if it can be. */
    private static int refusalOf(Action action, int c) {
        if (c < 0) {
            return BAD;
        }
        if (!action.solved) {
            return STATE;
        }
        return c < action.twists.classCount ? 0 : BAD;
    }

    private static int mod(int a, int n) {
        return n > 0 ? Math.floorMod(a, n) : 0;
    }

    private static int quotient(int a, int n) {
        return n > 0 ? a / n : 0;
    }

    private static int power(int base, int exponent) {
        int result = 1;
        for (int i = 0; i < exponent; i++) {
            result *= base;
        }
        return result;
    }

    /** Adds two numbers digit by digit, without carrying. */
    private static int addDigits(int a, int b, int base, int digits) {
        int result = 0;
        int unit = 1;
        for (int i = 0; i < digits; i++) {
            result += unit * mod(quotient(a, unit) + quotient(b, unit), base);
            unit *= base;
        }
        return result;
    }

    /** A row of cells of one lane, or nothing. */
    private static final class Sheet {
        final int[] cells = new int[MOST_CELLS];
        int lane = NOTHING;
        int length;

        void renew(int newLane, int n) {
            lane = newLane;
            length = n;
            Arrays.fill(cells, 0);
        }

        void put(int i, int v) {
            cells[i] = lane == BYTES ? (byte) v : v;
        }

        int faultOfReading(int asLane, int needed) {
            if (lane == NOTHING) {
                return NULL_FAULT;
            }
            if (lane != asLane) {
                return CAST_FAULT;
            }
            return length < needed ? INDEX_FAULT : 0;
        }
    }

    /** A group by its table. */
    private static final class Group {
        private final int[] entries = new int[MOST_ORDER * MOST_ORDER];
        private final int[] queue = new int[MOST_ORDER];
        private final int[] chosen = new int[MOST_ORDER];
        final int[] inverse = new int[MOST_ORDER];
        final int[] period = new int[MOST_ORDER];
        final int[] makers = new int[MOST_MAKERS];
        private int makerCount;
        int size;

        boolean has(int x) {
            return x >= 0 && x < size;
        }

        int mul(int x, int y) {
            return entries[x * MOST_ORDER + y];
        }

        private void set(int x, int y, int z) {
            entries[x * MOST_ORDER + y] = z;
        }

        void fillTurns(int n) {
            size = n;
            for (int x = 0; x < n; x++) {
                for (int y = 0; y < n; y++) {
                    set(x, y, mod(x + y, n));
                }
            }
        }

        void fillTurnsAndFlips(int n) {
            size = 2 * n;
            for (int x = 0; x < size; x++) {
                for (int y = 0; y < size; y++) {
                    // What stands behind a flip turns the other way round.
                    int turn = x < n ? x + y : x - y;
                    boolean flipped = (x < n) != (y < n);
                    set(x, y, mod(turn, n) + (flipped ? n : 0));
                }
            }
        }

        void fillUnits() {
            size = 8;
            for (int x = 0; x < size; x++) {
                for (int y = 0; y < size; y++) {
                    set(x, y, UNITS[(x & 3) * 4 + (y & 3)] ^ ((x ^ y) & 4));
                }
            }
        }

        void fillPair(Group first, Group second) {
            int n = second.size;
            size = first.size * n;
            for (int a = 0; a < first.size; a++) {
                for (int b = 0; b < first.size; b++) {
                    for (int c = 0; c < n; c++) {
                        for (int d = 0; d < n; d++) {
                            set(n * a + c, n * b + d, n * first.mul(a, b) + second.mul(c, d));
                        }
                    }
                }
            }
        }

        void fillOver(Action action, int c) {
            Group base = action.group;
            int q = action.vectors;
            size = q * base.size;
            for (int x = 0; x < base.size; x++) {
                for (int y = 0; y < base.size; y++) {
                    int twist = action.twists.vectorOf(action, c, x, y);
                    for (int w = 0; w < q; w++) {
                        int behind = action.plus(action.move(x, w), twist);
                        for (int v = 0; v < q; v++) {
                            set(q * x + v, q * y + w, q * base.mul(x, y) + action.plus(v, behind));
                        }
                    }
                }
            }
        }

        /** Takes a table of a sheet that has the cells; answers what is not so, or -1. */
        int readFrom(Sheet sheet, int n) {
            size = n;
            for (int x = 0; x < n; x++) {
                for (int y = 0; y < n; y++) {
                    int z = sheet.cells[n * x + y];
                    if (!has(z) || (x == 0 && z != y) || (y == 0 && z != x)) {
                        return n * x + y;
                    }
                    set(x, y, z);
                }
            }
            int wrong = firstUnlike();
            if (wrong >= 0) {
                return UNLIKE_PRODUCTS + wrong;
            }
            wrong = firstWithoutInverse();
            return wrong >= 0 ? NO_INVERSE + wrong : -1;
        }

        private int firstUnlike() {
            for (int x = 0; x < size; x++) {
                for (int y = 0; y < size; y++) {
                    for (int z = 0; z < size; z++) {
                        if (mul(mul(x, y), z) != mul(x, mul(y, z))) {
                            return size * size * x + size * y + z;
                        }
                    }
                }
            }
            return -1;
        }

        private int firstWithoutInverse() {
            for (int x = 0; x < size; x++) {
                if (findInverse(x) < 0) {
                    return x;
                }
            }
            return -1;
        }

        private int findInverse(int x) {
            for (int y = 0; y < size; y++) {
                if (mul(x, y) == 0) {
                    return y;
                }
            }
            return -1;
        }

        /** Finds what is asked for often; what a group that went had left here is forgotten. */
        void settle() {
            makerCount = -1;
            for (int x = 0; x < size; x++) {
                inverse[x] = findInverse(x);
                period[x] = findPeriod(x);
            }
        }

        private int findPeriod(int x) {
            int taken = 1;
            for (int y = x; y != 0 && taken < size; y = mul(y, x)) {
                taken++;
            }
            return taken;
        }

        int countCommuting(int x) {
            int found = 0;
            for (int y = 0; y < size; y++) {
                if (mul(x, y) == mul(y, x)) {
                    found++;
                }
            }
            return found;
        }

        int leastTurned(int x) {
            int least = x;
            for (int y = 0; y < size; y++) {
                least = Math.min(least, mul(mul(y, x), inverse[y]));
            }
            return least;
        }

        int countCentral() {
            int found = 0;
            for (int x = 0; x < size; x++) {
                if (countCommuting(x) == size) {
                    found++;
                }
            }
            return found;
        }

        int countTurnClasses() {
            int found = 0;
            for (int x = 0; x < size; x++) {
                if (leastTurned(x) == x) {
                    found++;
                }
            }
            return found;
        }

        int countDerived() {
            long seen = 0;
            int found = 0;
            for (int x = 0; x < size; x++) {
                for (int y = 0; y < size; y++) {
                    int z = mul(mul(mul(x, y), inverse[x]), inverse[y]);
                    if ((seen >> z & 1) == 0) {
                        seen |= 1L << z;
                        chosen[found] = z;
                        found++;
                    }
                }
            }
            return Long.bitCount(span(chosen, found));
        }

        int exponent() {
            for (int n = 1; n < size; n++) {
                if (bringsAllToZero(n)) {
                    return n;
                }
            }
            return size;
        }

        private boolean bringsAllToZero(int n) {
            for (int x = 0; x < size; x++) {
                if (mod(n, period[x]) != 0) {
                    return false;
                }
            }
            return true;
        }

        int countMade(int x, int y) {
            chosen[0] = x;
            chosen[1] = y;
            return Long.bitCount(span(chosen, 2));
        }

        /** What the first of a row make, a bit for each; products alone do, for each inverse is one of them. */
        private long span(int[] row, int length) {
            long seen = 1;
            int known = 1;
            queue[0] = 0;
            for (int at = 0; at < known && at < size; at++) {
                for (int i = 0; i < length; i++) {
                    int y = mul(queue[at], row[i]);
                    if ((seen >> y & 1) == 0 && known < size) {
                        seen |= 1L << y;
                        queue[known] = y;
                        known++;
                    }
                }
            }
            return seen;
        }

        /** Puts the least row of the least length that makes all into the makers; answers its length. */
        int findMakers() {
            for (int length = 0; length <= MOST_MAKERS && makerCount < 0; length++) {
                if (extendMakers(this, length, 0, 1)) {
                    makerCount = length;
                }
            }
            return makerCount;
        }

        /**
         * Rows that rise are enough, as the least one does. An element of what has failed needs no try:
         * it makes no more than that did, and fewer elements are left behind it.
         */
        private static boolean extendMakers(Group group, int length, int depth, long held) {
            if (depth >= length || depth >= MOST_MAKERS) {
                return Long.bitCount(held) == group.size;
            }
            long failed = held;
            int from = depth == 0 ? 1 : group.makers[depth - 1] + 1;
            for (int x = from; x < group.size; x++) {
                if ((failed >> x & 1) == 0) {
                    group.makers[depth] = x;
                    long wider = group.span(group.makers, depth + 1);
                    if (extendMakers(group, length, depth + 1, wider)) {
                        return true;
                    }
                    failed |= wider;
                }
            }
            return false;
        }
    }

    /** The search for a renaming of one group's elements that makes it another. */
    private static final class Matching {
        private final int[] reached = new int[MOST_ORDER];
        private final int[] parent = new int[MOST_ORDER];
        private final int[] through = new int[MOST_ORDER];
        private final int[] image = new int[MOST_ORDER];
        private final int[] usedBy = new int[MOST_ORDER];
        private final int[] given = new int[MOST_MAKERS];
        private final int[] tally = new int[MOST_ORDER + 1];
        private int length;

        int search(Group first, Group second, int most) {
            if (first.size != second.size || !likeInPeriods(first, second)) {
                return 0;
            }
            length = first.findMakers();
            layPaths(first);
            for (int i = 0; i < length; i++) {
                given[i] = nextOfPeriod(second, first.period[first.makers[i]], 0);
            }
            Arrays.fill(usedBy, 0);
            for (int tried = 1; tried <= most; tried++) {
                if (goesWithProducts(first, second, tried)) {
                    return 1;
                }
                if (!stepGiven(first, second)) {
                    return 0;
                }
            }
            return SPENT;
        }

        private boolean likeInPeriods(Group first, Group second) {
            Arrays.fill(tally, 0);
            for (int x = 0; x < first.size; x++) {
                tally[first.period[x]]++;
                tally[second.period[x]]--;
            }
            for (int n = 0; n < tally.length; n++) {
                if (tally[n] != 0) {
                    return false;
                }
            }
            return true;
        }

        /** How each element is reached from 0 by makers, the nearer ones first: the same for every try. */
        private void layPaths(Group group) {
            long seen = 1;
            int known = 1;
            reached[0] = 0;
            for (int at = 0; at < known && at < group.size; at++) {
                for (int i = 0; i < length; i++) {
                    int y = group.mul(reached[at], group.makers[i]);
                    if ((seen >> y & 1) == 0 && known < group.size) {
                        seen |= 1L << y;
                        reached[known] = y;
                        parent[known] = reached[at];
                        through[known] = i;
                        known++;
                    }
                }
            }
        }

        private int nextOfPeriod(Group group, int period, int from) {
            for (int y = from; y < group.size; y++) {
                if (group.period[y] == period) {
                    return y;
                }
            }
            return -1;
        }

        private boolean stepGiven(Group first, Group second) {
            for (int i = length - 1; i >= 0; i--) {
                int period = first.period[first.makers[i]];
                int next = nextOfPeriod(second, period, given[i] + 1);
                if (next >= 0) {
                    given[i] = next;
                    return true;
                }
                given[i] = nextOfPeriod(second, period, 0);
            }
            return false;
        }

        private boolean goesWithProducts(Group first, Group second, int tried) {
            image[0] = 0;
            usedBy[0] = tried;
            for (int k = 1; k < first.size; k++) {
                int y = second.mul(image[parent[k]], given[through[k]]);
                if (usedBy[y] == tried) {
                    return false;
                }
                usedBy[y] = tried;
                image[reached[k]] = y;
            }
            for (int x = 0; x < first.size; x++) {
                for (int i = 0; i < length; i++) {
                    if (second.mul(image[x], given[i]) != image[first.mul(x, first.makers[i])]) {
                        return false;
                    }
                }
            }
            return true;
        }
    }

    /** A module: a matrix for each element of a group. */
    private static final class Action {
        private final int[] matrices = new int[MOST_ACTING_ORDER * MOST_RANK * MOST_RANK];
        final Twists twists = new Twists();
        Group group;
        int prime;
        int rank;
        int vectors;
        boolean solved;

        void begin(Group newGroup, int p, int r) {
            group = newGroup;
            prime = p;
            rank = r;
            vectors = power(p, r);
            for (int x = 0; x < group.size; x++) {
                put(x, 1, 0, 0, r == 1 ? 0 : 1);
            }
        }

        boolean isNumber(int a) {
            return a >= 0 && a < prime;
        }

        void put(int x, int a, int b, int c, int d) {
            int from = x * MOST_RANK * MOST_RANK;
            matrices[from] = a;
            matrices[from + 1] = b;
            matrices[from + 2] = c;
            matrices[from + 3] = d;
            solved = false;
        }

        int entry(int x, int i, int j) {
            return matrices[(x * MOST_RANK + i) * MOST_RANK + j];
        }

        int firstUnsound() {
            for (int i = 0; i < rank; i++) {
                for (int j = 0; j < rank; j++) {
                    if (entry(0, i, j) != (i == j ? 1 : 0)) {
                        return ZERO_MOVES;
                    }
                }
            }
            for (int x = 0; x < group.size; x++) {
                for (int y = 0; y < group.size; y++) {
                    if (!goesWithProduct(x, y)) {
                        return 1 + group.size * x + y;
                    }
                }
            }
            return 0;
        }

        private boolean goesWithProduct(int x, int y) {
            int xy = group.mul(x, y);
            for (int i = 0; i < rank; i++) {
                for (int j = 0; j < rank; j++) {
                    int total = 0;
                    for (int k = 0; k < rank; k++) {
                        total += entry(x, i, k) * entry(y, k, j);
                    }
                    if (mod(total, prime) != entry(xy, i, j)) {
                        return false;
                    }
                }
            }
            return true;
        }

        int plus(int v, int w) {
            return addDigits(v, w, prime, rank);
        }

        /** The number of x v. */
        int move(int x, int v) {
            int result = 0;
            int unit = 1;
            for (int i = 0; i < rank; i++) {
                int total = entry(x, i, 0) * mod(v, prime);
                if (rank > 1) {
                    total += entry(x, i, 1) * quotient(v, prime);
                }
                result += unit * mod(total, prime);
                unit *= prime;
            }
            return result;
        }

        /** How many numbers a row has that is written for a pair. */
        int places() {
            return (group.size - 1) * (group.size - 1) * rank;
        }

        /** Where number i of f(x, y) stands in such a row; x and y are not 0. */
        int place(int x, int y, int i) {
            return ((x - 1) * (group.size - 1) + y - 1) * rank + i;
        }
    }

    /** Rows modulo a prime, each of which leads, with a 1, at a place of its own. */
    private static final class Echelon {
        private final int[] numbers;
        private final int[] leads;
        private final int[] rowLeading = new int[MOST_PLACES];
        private int width;
        private int prime;
        int count;

        Echelon(int most) {
            int rows = Math.max(most, 0);
            numbers = new int[rows * MOST_PLACES];
            leads = new int[rows];
        }

        void begin(int newWidth, int newPrime) {
            width = newWidth;
            prime = newPrime;
            count = 0;
            Arrays.fill(rowLeading, -1);
        }

        boolean leadsAt(int place) {
            return rowLeading[place] >= 0;
        }

        int leadOf(int row) {
            return leads[row];
        }

        int number(int row, int place) {
            return numbers[row * MOST_PLACES + place];
        }

        int leadingNumber(int lead, int place) {
            return number(rowLeading[lead], place);
        }

        /** Takes from a row of numbers 0 to P - 1 so much of these that it is 0 wherever one of them leads. */
        void reduce(int[] row) {
            for (int lead = 0; lead < width; lead++) {
                if (row[lead] != 0 && leadsAt(lead)) {
                    int from = rowLeading[lead] * MOST_PLACES;
                    int share = prime - row[lead];
                    for (int place = lead; place < width; place++) {
                        int other = numbers[from + place];
                        if (other != 0) {
                            row[place] = mod(row[place] + share * other, prime);
                        }
                    }
                }
            }
        }

        /** Keeps what is left of a row of any numbers, if anything is. */
        void add(int[] row) {
            for (int place = 0; place < width; place++) {
                row[place] = mod(row[place], prime);
            }
            reduce(row);
            int lead = firstNotZero(row);
            if (lead < 0 || count >= leads.length) {
                return;
            }
            int share = inverseOf(row[lead]);
            for (int place = 0; place < width; place++) {
                numbers[count * MOST_PLACES + place] = mod(row[place] * share, prime);
            }
            leads[count] = lead;
            rowLeading[lead] = count;
            count++;
        }

        int firstNotZero(int[] row) {
            for (int place = 0; place < width; place++) {
                if (row[place] != 0) {
                    return place;
                }
            }
            return -1;
        }

        private int inverseOf(int a) {
            for (int b = 1; b < prime; b++) {
                if (mod(a * b, prime) == 1) {
                    return b;
                }
            }
            return 0;
        }
    }

    /** The classes of pairs of a sound module, and the dimensions. */
    private static final class Twists {
        private final int[] row = new int[MOST_PLACES];
        private final Echelon bounds = new Echelon(MOST_SINGLE_PLACES);
        final Echelon standards = new Echelon(MOST_STANDARDS);
        private int unmoved;
        private int bound;
        private int singles;
        int classCount;

        /** Of linear maps what goes to 0 and what comes out have the dimensions of all together. */
        int dimensionOf(int what) {
            switch (what) {
                case 0: return unmoved;
                case 1: return singles - bounds.count;
                case 2: return bound;
                case 3: return bounds.count + standards.count;
                case 4: return bounds.count;
                case 5: return standards.count;
                default: return singles - bounds.count - bound;
            }
        }

        void findUnmoved(Action action, Echelon equations) {
            equations.begin(action.rank, action.prime);
            for (int x = 0; x < action.group.size; x++) {
                for (int i = 0; i < action.rank; i++) {
                    for (int j = 0; j < action.rank; j++) {
                        row[j] = action.entry(x, i, j) - (i == j ? 1 : 0);
                    }
                    equations.add(row);
                }
            }
            bound = equations.count;
            unmoved = action.rank - bound;
        }

        void findBounds(Action action) {
            singles = (action.group.size - 1) * action.rank;
            bounds.begin(action.places(), action.prime);
            for (int u = 1; u < action.group.size; u++) {
                for (int j = 0; j < action.rank; j++) {
                    writeBound(action, u, j);
                    bounds.add(row);
                }
            }
        }

        /** The bound pair of the single that has a 1 as number j of h(u), else 0. */
        private void writeBound(Action action, int u, int j) {
            Arrays.fill(row, 0);
            for (int x = 1; x < action.group.size; x++) {
                for (int y = 1; y < action.group.size; y++) {
                    int at = action.place(x, y, j);
                    if (x == u) {
                        row[at]++;
                    }
                    if (action.group.mul(x, y) == u) {
                        row[at]--;
                    }
                    for (int i = 0; i < action.rank && y == u; i++) {
                        row[action.place(x, y, i)] += action.entry(x, i, j);
                    }
                }
            }
        }

        /**
         * What a standard obeys: 0 at each lead, and the rule of cocycles. If that rule holds of some x and
         * of some x', with all y and z, then it holds of x x': so the makers are enough.
         * Places run backwards here, so that of what is found each first number is free, not the last one.
         */
        void writeEquations(Action action, Echelon equations) {
            int last = action.places() - 1;
            equations.begin(last + 1, action.prime);
            for (int b = 0; b < bounds.count; b++) {
                Arrays.fill(row, 0);
                row[last - bounds.leadOf(b)] = 1;
                equations.add(row);
            }
            int makers = action.group.findMakers();
            for (int k = 0; k < makers; k++) {
                for (int y = 1; y < action.group.size; y++) {
                    for (int z = 1; z < action.group.size; z++) {
                        for (int i = 0; i < action.rank; i++) {
                            writeCocycleRule(action, action.group.makers[k], y, z, i);
                            equations.add(row);
                        }
                    }
                }
            }
        }

        private void writeCocycleRule(Action action, int x, int y, int z, int i) {
            int last = action.places() - 1;
            int xy = action.group.mul(x, y);
            int yz = action.group.mul(y, z);
            Arrays.fill(row, 0);
            for (int j = 0; j < action.rank; j++) {
                row[last - action.place(y, z, j)] += action.entry(x, i, j);
            }
            if (yz != 0) {
                row[last - action.place(x, yz, i)]++;
            }
            if (xy != 0) {
                row[last - action.place(xy, z, i)]--;
            }
            row[last - action.place(x, y, i)]--;
        }

        void findStandards(Action action, Echelon equations) {
            int width = action.places();
            standards.begin(width, action.prime);
            for (int free = 0; free < width; free++) {
                if (!equations.leadsAt(width - 1 - free)) {
                    writeStandard(equations, free, width, action.prime);
                    standards.add(row);
                }
            }
            classCount = power(action.prime, standards.count);
        }

        /** The standard with 1 at one free place and 0 at the others; each equation gives the number at its lead. */
        private void writeStandard(Echelon equations, int free, int width, int prime) {
            Arrays.fill(row, 0);
            row[free] = 1;
            for (int place = free + 1; place < width; place++) {
                int lead = width - 1 - place;
                if (equations.leadsAt(lead)) {
                    int total = 0;
                    for (int known = free; known < place; known++) {
                        total += row[known] * equations.leadingNumber(lead, width - 1 - known);
                    }
                    row[place] = mod(-total, prime);
                }
            }
        }

        int numberOf(Action action, int c, int x, int y, int i) {
            if (x == 0 || y == 0) {
                return 0;
            }
            int at = action.place(x, y, i);
            int total = 0;
            int digits = c;
            for (int k = 0; k < standards.count; k++) {
                total += mod(digits, action.prime) * standards.number(k, at);
                digits = quotient(digits, action.prime);
            }
            return mod(total, action.prime);
        }

        int vectorOf(Action action, int c, int x, int y) {
            int result = 0;
            for (int i = action.rank - 1; i >= 0; i--) {
                result = result * action.prime + numberOf(action, c, x, y, i);
            }
            return result;
        }

        /** The class of the pair on a sheet that has the cells. */
        int classRead(Action action, Sheet sheet) {
            if (!readPair(action, sheet)) {
                return NONE;
            }
            bounds.reduce(row);
            int c = 0;
            for (int k = standards.count - 1; k >= 0; k--) {
                c = c * action.prime + row[standards.leadOf(k)];
            }
            // All cocycles are sums of bound ones and standards: whatever those leave is of none.
            standards.reduce(row);
            return standards.firstNotZero(row) < 0 ? c : NONE;
        }

        private boolean readPair(Action action, Sheet sheet) {
            int n = action.group.size;
            for (int x = 0; x < n; x++) {
                for (int y = 0; y < n; y++) {
                    for (int i = 0; i < action.rank; i++) {
                        int number = mod(sheet.cells[action.rank * (n * x + y) + i], action.prime);
                        if (x != 0 && y != 0) {
                            row[action.place(x, y, i)] = number;
                        } else if (number != 0) {
                            return false;
                        }
                    }
                }
            }
            return true;
        }
    }
}
