/**
 * Three hayricks of sheaves that are kept as trees which may lean, and are built anew where they
 * lean too far. What each call promises stands in ../shared/DOC.md.
 */
public final class LeaningRicks {
    public static final int NONE = -11;
    public static final int BAD = -12;
    public static final int FULL = -13;
    public static final int REFUSED = -14;
    public static final int NOTHING = -15;

    private static final int RICKS = 3;
    private static final int SHEAVES = 30;
    private static final int WEIGHTS = 1000;
    private static final int GREATEST_LOAD = 99;
    private static final int LEAST_LIMIT = 55;
    private static final int GREATEST_LIMIT = 90;
    private static final int FIRST_LIMIT = 70;
    private static final int LEAST_BEARS = 99;
    private static final int GREATEST_BEARS = 999;
    private static final int BITS = 64;
    private static final int CHARACTERS = 60;
    private static final int ORDERS = 20;
    private static final int CHANGES = 8;
    private static final int NOWHERE = -1;

    private static final int TOO_MANY = 1;
    private static final int SAME_WEIGHT = 2;
    private static final int SAME_RICK = 3;
    private static final int SAME_LIMIT = 4;
    private static final int NO_SHEAVES = 5;
    private static final int BAD_ORDER = 6;

    private final Yard now = new Yard();
    private final Yard saved = new Yard();
    private boolean isSaved;

    // One more than can be undone: the one at 'next' is always free for what a call began with.
    private final Yard[] past = new Yard[CHANGES + 1];
    private int next;
    private int undoable;

    private final Row text = new Row();
    private final Row line = new Row();
    private final Orders orders = new Orders();
    private int latestReason = NOTHING;
    private int latestDetail = NOTHING;

    public LeaningRicks() {
        for (int i = 0; i < past.length; i++) {
            past[i] = new Yard();
        }
    }

    // ---- sheaves

    public int put(int rick, int weight, int load) {
        hold();
        return keep(putNow(rick, weight, load));
    }

    public int take(int rick, int weight) {
        hold();
        return keep(takeNow(rick, weight));
    }

    public int build(int rick) {
        hold();
        return keep(buildNow(rick));
    }

    public int pour(int rick, int into) {
        hold();
        return keep(pourNow(rick, into));
    }

    public int limit(int limit) {
        hold();
        return keep(limitNow(limit));
    }

    public int sheafOf(int rick, int weight, int what) {
        Rick its = now.rickAt(rick);
        if (its == null) {
            return NONE;
        }
        int place = its.find(weight);
        if (place == NOWHERE) {
            return NONE;
        }
        int first = its.firstOf(place);
        int last = its.lastOf(place);
        switch (what) {
            case 0: return its.loadAt(place);
            case 1: return its.depthAt(place);
            case 2: return last - first + 1;
            case 3: return its.loadsFrom(first, last);
            case 4: return its.leans(place, now.limit) ? 1 : 0;
            case 5: return its.weightAt(its.above(place));
            case 6: return its.weightAt(its.topOf(first, place - 1));
            case 7: return its.weightAt(its.topOf(place + 1, last));
            default: return BAD;
        }
    }

    public int rickOf(int rick, int what) {
        Rick its = now.rickAt(rick);
        if (its == null) {
            return NONE;
        }
        switch (what) {
            case 0: return its.count;
            case 1: return its.loadsFrom(0, its.count - 1);
            case 2: return its.weightAt(its.topOf(0, its.count - 1));
            case 3: return its.greatestDepth();
            case 4: return depthFor(its.count, now.limit);
            case 5: return its.most;
            case 6: return its.leaning(now.limit);
            case 7: return its.depths();
            case 8: return its.lowest();
            default: return BAD;
        }
    }

    // ---- ranks, loads

    public int rank(int rick, int weight) {
        Rick its = now.rickAt(rick);
        return its == null ? NONE : its.lighterByParts(weight);
    }

    public int rankAgain(int rick, int weight) {
        Rick its = now.rickAt(rick);
        return its == null ? NONE : its.lighterOneByOne(weight);
    }

    public int at(int rick, int place) {
        Rick its = now.rickAt(rick);
        return its == null || !its.isPlace(place) ? NONE : its.weightAt(place);
    }

    public int between(int rick, int low, int high) {
        Rick its = now.rickAt(rick);
        return its == null ? NONE : its.loadsByParts(low, high);
    }

    public int betweenAgain(int rick, int low, int high) {
        Rick its = now.rickAt(rick);
        return its == null ? NONE : its.loadsOneByOne(low, high);
    }

    public int heaviest(int place) {
        if (place < 0 || place >= now.sheaves()) {
            return NONE;
        }
        int key = -1;
        for (int i = 0; i <= place; i++) {
            key = now.keyAfter(key);
        }
        return key % RICKS * WEIGHTS + key / RICKS % WEIGHTS;
    }

    // ---- carts

    public int carts(int rick, int bears) {
        Rick its = now.rickAt(rick);
        if (its == null) {
            return NONE;
        }
        return isBears(bears) ? its.cartsUpTo(its.count - 1, bears) : BAD;
    }

    public int cartOf(int rick, int weight, int bears) {
        Rick its = now.rickAt(rick);
        if (its == null) {
            return NONE;
        }
        int place = its.find(weight);
        if (place == NOWHERE) {
            return NONE;
        }
        return isBears(bears) ? its.cartsUpTo(place, bears) - 1 : BAD;
    }

    // ---- bits

    public long shape(int rick) {
        Rick its = now.rickAt(rick);
        return its == null ? NONE : shapeOf(its, 0, its.count - 1, 0L, 0);
    }

    public long weights(int rick, int from) {
        Rick its = now.rickAt(rick);
        if (its == null || from < 0 || from > WEIGHTS - BITS) {
            return 0L;
        }
        long bits = 0L;
        for (int i = 0; i < its.count; i++) {
            int bit = its.weightAt(i) - from;
            if (bit >= 0 && bit < BITS) {
                bits |= 1L << bit;
            }
        }
        return bits;
    }

    public int leaningShare(int rick) {
        Rick its = now.rickAt(rick);
        if (its == null) {
            return NONE;
        }
        if (its.count <= 0) {
            return NOTHING;
        }
        return shareBits((float) its.leaning(now.limit) / (float) its.count);
    }

    public long meanDepth(int rick) {
        Rick its = now.rickAt(rick);
        if (its == null) {
            return NONE;
        }
        if (its.count <= 0) {
            return NOTHING;
        }
        return meanBits((double) its.depths() / (double) its.count);
    }

    // ---- texts, lines

    public int append(int code) {
        if (code < 32 || code > 126) {
            return BAD;
        }
        return text.add(code) ? text.length : FULL;
    }

    public int run() {
        int answer = orders.read(text);
        text.clear();
        if (answer < 0) {
            return answer;
        }
        hold();
        for (int i = 0; i < answer && i < ORDERS; i++) {
            if (carryOut(i) < 0) {
                giveBack();
                return refuse(BAD_ORDER, i);
            }
        }
        return keep(answer);
    }

    public int tell(int rick) {
        Rick its = now.rickAt(rick);
        if (its == null) {
            return NONE;
        }
        line.clear();
        write(line, its, 0, its.count - 1, now.limit, 0);
        return line.length;
    }

    public int character(int index) {
        return line.codeAt(index);
    }

    // ---- reasons, accounts, undo and the snapshot

    public int reason(boolean isDetail) {
        return isDetail ? latestDetail : latestReason;
    }

    public int account(int what) {
        switch (what) {
            case 0: return now.sheaves();
            case 1: return now.loads();
            case 2: return now.sheavesPut;
            case 3: return now.sheavesTaken;
            case 4: return now.partsBuilt;
            case 5: return now.ricksBuilt;
            case 6: return now.sheavesBuilt;
            case 7: return now.ricksPoured;
            case 8: return now.limit;
            case 9: return text.length;
            case 10: return undoable;
            default: return BAD;
        }
    }

    public int isBalanced() {
        if (now.sheaves() != now.sheavesPut - now.sheavesTaken) {
            return 0;
        }
        for (int i = 0; i < RICKS; i++) {
            Rick its = now.rickAt(i);
            if (its == null || !isSound(its)) {
                return 0;
            }
        }
        return 1;
    }

    public int undo() {
        if (undoable <= 0) {
            return NOTHING;
        }
        next = (next + CHANGES) % (CHANGES + 1);
        undoable--;
        giveBack();
        return undoable;
    }

    public int save() {
        saved.copyFrom(now);
        isSaved = true;
        return now.sheaves();
    }

    public int restore() {
        if (!isSaved) {
            return NOTHING;
        }
        now.copyFrom(saved);
        undoable = 0;
        return now.sheaves();
    }

    // ---- changes, as calls and orders carry them out: a code if they cannot

    private int putNow(int rick, int weight, int load) {
        Rick its = now.rickAt(rick);
        if (its == null) {
            return NONE;
        }
        if (weight < 0 || weight >= WEIGHTS || load < 1 || load > GREATEST_LOAD) {
            return BAD;
        }
        if (its.find(weight) != NOWHERE) {
            return refuse(SAME_WEIGHT, weight);
        }
        if (its.count >= SHEAVES) {
            return refuse(TOO_MANY, its.count);
        }
        int place = its.lay(weight, load);
        its.most = Math.max(its.most, its.count);
        now.sheavesPut++;
        if (its.depthAt(place) <= depthFor(its.count, now.limit)) {
            return 0;
        }
        int built = its.buildPartAbove(place, now.limit);
        if (built > 0) {
            now.partsBuilt++;
            now.sheavesBuilt += built;
        }
        return built;
    }

    private int takeNow(int rick, int weight) {
        Rick its = now.rickAt(rick);
        if (its == null) {
            return NONE;
        }
        int place = its.find(weight);
        if (place == NOWHERE) {
            return NONE;
        }
        int load = its.loadAt(place);
        its.lift(place);
        now.sheavesTaken++;
        if (100 * its.count < now.limit * its.most) {
            buildWhole(its);
        }
        return load;
    }

    private int buildNow(int rick) {
        Rick its = now.rickAt(rick);
        if (its == null) {
            return NONE;
        }
        if (its.count <= 0) {
            return refuse(NO_SHEAVES, rick);
        }
        return buildWhole(its);
    }

    private int pourNow(int rick, int into) {
        Rick its = now.rickAt(rick);
        Rick other = now.rickAt(into);
        if (its == null || other == null) {
            return NONE;
        }
        if (rick == into) {
            return refuse(SAME_RICK, rick);
        }
        if (its.count <= 0) {
            return refuse(NO_SHEAVES, rick);
        }
        if (its.count + other.count > SHEAVES) {
            return refuse(TOO_MANY, its.count + other.count);
        }
        for (int i = 0; i < its.count; i++) {
            if (other.find(its.weightAt(i)) != NOWHERE) {
                return refuse(SAME_WEIGHT, its.weightAt(i));
            }
        }
        for (int i = 0; i < its.count; i++) {
            other.lay(its.weightAt(i), its.loadAt(i));
        }
        its.count = 0;
        its.most = 0;
        buildWhole(other);
        now.ricksPoured++;
        return other.count;
    }

    private int limitNow(int limit) {
        if (limit < LEAST_LIMIT || limit > GREATEST_LIMIT) {
            return BAD;
        }
        if (limit == now.limit) {
            return refuse(SAME_LIMIT, limit);
        }
        int before = now.limit;
        now.limit = limit;
        return before;
    }

    private int buildWhole(Rick its) {
        int moved = its.buildWhole();
        now.ricksBuilt++;
        now.sheavesBuilt += its.count;
        return moved;
    }

    private int carryOut(int order) {
        int first = orders.numberOf(order, 0);
        int second = orders.numberOf(order, 1);
        switch (orders.signOf(order)) {
            case '+': return putNow(first, second, orders.numberOf(order, 2));
            case '-': return takeNow(first, second);
            case '=': return buildNow(first);
            case '>': return pourNow(first, second);
            default: return limitNow(first);
        }
    }

    private int refuse(int reason, int detail) {
        latestReason = reason;
        latestDetail = detail;
        return REFUSED;
    }

    // ---- undo: hold before each change, then keep what was held if the change took place

    private void hold() {
        Yard before = beforeNow();
        if (before != null) {
            before.copyFrom(now);
        }
    }

    private int keep(int answer) {
        if (answer >= 0) {
            next = (next + 1) % (CHANGES + 1);
            undoable = Math.min(undoable + 1, CHANGES);
        }
        return answer;
    }

    private void giveBack() {
        Yard before = beforeNow();
        if (before != null) {
            now.copyFrom(before);
        }
    }

    private Yard beforeNow() {
        return next >= 0 && next < past.length ? past[next] : null;
    }

    // ---- ricks as bits and as text

    private static boolean isBears(int bears) {
        return bears >= LEAST_BEARS && bears <= GREATEST_BEARS;
    }

    private static int depthFor(int sheaves, int limit) {
        int depth = NOWHERE;
        int left = sheaves;
        for (int i = 0; i < SHEAVES && left > 0; i++) {
            left = left * limit / 100;
            depth++;
        }
        return Math.max(depth, 0);
    }

    private static long shapeOf(Rick its, int low, int high, long bitsAhead, int level) {
        int top = its.topOf(low, high);
        if (top == NOWHERE || level > SHEAVES) {
            return bitsAhead << 1;
        }
        long bits = shapeOf(its, low, top - 1, bitsAhead << 1 | 1L, level + 1);
        return shapeOf(its, top + 1, high, bits, level + 1);
    }

    private static void write(Row row, Rick its, int low, int high, int limit, int level) {
        int top = its.topOf(low, high);
        if (top == NOWHERE || level > SHEAVES) {
            return;
        }
        row.add('(');
        write(row, its, low, top - 1, limit, level + 1);
        row.addNumber(its.weightAt(top));
        if (its.leans(top, limit)) {
            row.add('!');
        }
        write(row, its, top + 1, high, limit, level + 1);
        row.add(')');
    }

    private static boolean isSound(Rick its) {
        if (!its.isInOrder() || !isTree(its, 0, its.count - 1, 0)) {
            return false;
        }
        for (int i = 0; i < its.count; i++) {
            int weight = its.weightAt(i);
            if (its.lighterByParts(weight) != its.lighterOneByOne(weight)
                    || its.loadsByParts(0, weight) != its.loadsOneByOne(0, weight)) {
                return false;
            }
        }
        return true;
    }

    private static boolean isTree(Rick its, int low, int high, int depth) {
        if (low > high) {
            return true;
        }
        int top = its.topOf(low, high);
        return depth <= SHEAVES && its.depthAt(top) == depth
                && isTree(its, low, top - 1, depth + 1)
                && isTree(its, top + 1, high, depth + 1);
    }

    // The library that the program keeps to has no floatToIntBits and no doubleToLongBits. Every
    // step here only changes the exponent or is exact, so no bit is lost.

    /** The bits of a share, which is at most 1. */
    private static int shareBits(float share) {
        if (!(share > 0f)) {
            return 0;
        }
        float part = share;
        int exponent = 127;
        for (int i = 0; i < BITS && part < 1f; i++) {
            part = part * 2f;
            exponent--;
        }
        return (exponent << 23) + (int) ((part - 1f) * (float) (1 << 23));
    }

    private static long meanBits(double mean) {
        if (!(mean > 0.0)) {
            return 0L;
        }
        double part = mean;
        long exponent = 1023L;
        for (int i = 0; i < BITS && part < 1.0; i++) {
            part = part * 2.0;
            exponent--;
        }
        for (int i = 0; i < BITS && part >= 2.0; i++) {
            part = part / 2.0;
            exponent++;
        }
        return (exponent << 52) + (long) ((part - 1.0) * (double) (1L << 52));
    }

    /** All that changes can change. */
    private static final class Yard {
        private final Rick[] ricks = new Rick[RICKS];
        private int limit = FIRST_LIMIT;
        private int sheavesPut;
        private int sheavesTaken;
        private int partsBuilt;
        private int ricksBuilt;
        private int sheavesBuilt;
        private int ricksPoured;

        Yard() {
            for (int i = 0; i < ricks.length; i++) {
                ricks[i] = new Rick();
            }
        }

        Rick rickAt(int rick) {
            return rick >= 0 && rick < ricks.length ? ricks[rick] : null;
        }

        int sheaves() {
            int sum = 0;
            for (int i = 0; i < RICKS; i++) {
                Rick its = rickAt(i);
                if (its != null) {
                    sum += its.count;
                }
            }
            return sum;
        }

        int loads() {
            int sum = 0;
            for (int i = 0; i < RICKS; i++) {
                Rick its = rickAt(i);
                if (its != null) {
                    sum += its.loadsFrom(0, its.count - 1);
                }
            }
            return sum;
        }

        /**
         * The least key that is greater than another one. The key of a sheaf is one number that
         * puts all sheaves in order: the greatest load first, then the weight, then the rick.
         */
        int keyAfter(int key) {
            int least = Integer.MAX_VALUE;
            for (int i = 0; i < RICKS; i++) {
                Rick its = rickAt(i);
                for (int k = 0; its != null && k < its.count; k++) {
                    int lacks = GREATEST_LOAD - its.loadAt(k);
                    int other = (lacks * WEIGHTS + its.weightAt(k)) * RICKS + i;
                    if (other > key && other < least) {
                        least = other;
                    }
                }
            }
            return least;
        }

        void copyFrom(Yard other) {
            for (int i = 0; i < RICKS; i++) {
                Rick mine = rickAt(i);
                Rick its = other.rickAt(i);
                if (mine != null && its != null) {
                    mine.copyFrom(its);
                }
            }
            limit = other.limit;
            sheavesPut = other.sheavesPut;
            sheavesTaken = other.sheavesTaken;
            partsBuilt = other.partsBuilt;
            ricksBuilt = other.ricksBuilt;
            sheavesBuilt = other.sheavesBuilt;
            ricksPoured = other.ricksPoured;
        }
    }

    /**
     * A rick: its sheaves in the order of their weights, each with its depth. The depths tell the
     * tree without links that could go astray: the part of a sheaf are the sheaves on both sides
     * of it up to the next one that is not deeper, and the top of some sheaves that lie side by
     * side is the one with the least depth.
     */
    private static final class Rick {
        private final int[] weight = new int[SHEAVES];
        private final int[] load = new int[SHEAVES];
        private final int[] depth = new int[SHEAVES];
        private int count;
        private int most;

        boolean isPlace(int place) {
            return place >= 0 && place < count;
        }

        int weightAt(int place) {
            return place >= 0 && place < count && place < SHEAVES ? weight[place] : NOTHING;
        }

        int loadAt(int place) {
            return place >= 0 && place < count && place < SHEAVES ? load[place] : 0;
        }

        int depthAt(int place) {
            return place >= 0 && place < count && place < SHEAVES ? depth[place] : NOWHERE;
        }

        int find(int itsWeight) {
            for (int i = 0; i < count; i++) {
                if (weightAt(i) == itsWeight) {
                    return i;
                }
            }
            return NOWHERE;
        }

        // -- the tree

        int firstOf(int place) {
            int first = place;
            while (first > 0 && depthAt(first - 1) > depthAt(place)) {
                first--;
            }
            return first;
        }

        int lastOf(int place) {
            int last = place;
            while (last < count - 1 && depthAt(last + 1) > depthAt(place)) {
                last++;
            }
            return last;
        }

        int topOf(int low, int high) {
            int top = NOWHERE;
            for (int i = Math.max(low, 0); i <= high && i < count; i++) {
                if (top == NOWHERE || depthAt(i) < depthAt(top)) {
                    top = i;
                }
            }
            return top;
        }

        int above(int place) {
            int left = firstOf(place) - 1;
            int right = lastOf(place) + 1;
            int nearer = depthAt(left) > depthAt(right) ? left : right;
            return isPlace(nearer) ? nearer : NOWHERE;
        }

        boolean leans(int place, int limit) {
            int first = firstOf(place);
            int last = lastOf(place);
            int greater = Math.max(place - first, last - place);
            return 100 * greater > limit * (last - first + 1);
        }

        // -- sums

        int loadsFrom(int low, int high) {
            int sum = 0;
            for (int i = Math.max(low, 0); i <= high && i < count; i++) {
                sum += loadAt(i);
            }
            return sum;
        }

        int depths() {
            int sum = 0;
            for (int i = 0; i < count; i++) {
                sum += depthAt(i);
            }
            return sum;
        }

        int greatestDepth() {
            int greatest = NOWHERE;
            for (int i = 0; i < count; i++) {
                greatest = Math.max(greatest, depthAt(i));
            }
            return greatest;
        }

        int leaning(int limit) {
            int sum = 0;
            for (int i = 0; i < count; i++) {
                if (leans(i, limit)) {
                    sum++;
                }
            }
            return sum;
        }

        int lowest() {
            int sum = 0;
            for (int i = 0; i < count; i++) {
                if (depthAt(i - 1) <= depthAt(i) && depthAt(i + 1) <= depthAt(i)) {
                    sum++;
                }
            }
            return sum;
        }

        int cartsUpTo(int place, int bears) {
            int carts = 0;
            int onLast = 0;
            for (int i = 0; i <= place && i < count; i++) {
                if (carts == 0 || onLast + loadAt(i) > bears) {
                    carts++;
                    onLast = 0;
                }
                onLast += loadAt(i);
            }
            return carts;
        }

        // -- ranks and loads, each in two ways

        int lighterByParts(int than) {
            int lighter = 0;
            int low = 0;
            int high = count - 1;
            for (int i = 0; i < SHEAVES && low <= high; i++) {
                int top = topOf(low, high);
                if (weightAt(top) < than) {
                    lighter += top - low + 1;
                    low = top + 1;
                } else {
                    high = top - 1;
                }
            }
            return lighter;
        }

        int lighterOneByOne(int than) {
            int lighter = 0;
            for (int i = 0; i < count; i++) {
                if (weightAt(i) < than) {
                    lighter++;
                }
            }
            return lighter;
        }

        int loadsByParts(int from, int to) {
            return from > to ? 0 : loadsOfLighter((long) to + 1L) - loadsOfLighter(from);
        }

        /** A long, as one more than the greatest int is asked for, too. */
        private int loadsOfLighter(long than) {
            int loads = 0;
            int low = 0;
            int high = count - 1;
            for (int i = 0; i < SHEAVES && low <= high; i++) {
                int top = topOf(low, high);
                if (weightAt(top) < than) {
                    loads += loadsFrom(low, top);
                    low = top + 1;
                } else {
                    high = top - 1;
                }
            }
            return loads;
        }

        int loadsOneByOne(int from, int to) {
            int loads = 0;
            for (int i = 0; i < count; i++) {
                if (weightAt(i) >= from && weightAt(i) <= to) {
                    loads += loadAt(i);
                }
            }
            return loads;
        }

        boolean isInOrder() {
            for (int i = 1; i < count; i++) {
                if (weightAt(i - 1) >= weightAt(i)) {
                    return false;
                }
            }
            return true;
        }

        // -- changes

        /** Lays a sheaf at its place, which is told: below the deeper one of its neighbours. */
        int lay(int itsWeight, int itsLoad) {
            if (count < 0 || count >= SHEAVES) {
                return NOWHERE;
            }
            int place = lighterOneByOne(itsWeight);
            int itsDepth = Math.max(depthAt(place - 1), depthAt(place)) + 1;
            for (int i = count; i > place; i--) {
                set(i, weightAt(i - 1), loadAt(i - 1), depthAt(i - 1));
            }
            set(place, itsWeight, itsLoad, itsDepth);
            count++;
            return place;
        }

        void lift(int place) {
            if (!isPlace(place)) {
                return;
            }
            int first = firstOf(place);
            int last = lastOf(place);
            if (first < place && place < last) {
                int heir = place + 1;
                raise(heir + 1, lastOf(heir));
                setDepth(heir, depthAt(place));
            } else {
                raise(first, last);
            }
            for (int i = place; i < count - 1; i++) {
                set(i, weightAt(i + 1), loadAt(i + 1), depthAt(i + 1));
            }
            count--;
        }

        /** Builds anew the part of the first sheaf above a place that leans: how many it has. */
        int buildPartAbove(int place, int limit) {
            int top = above(place);
            for (int i = 0; i < SHEAVES && isPlace(top); i++) {
                if (leans(top, limit)) {
                    int first = firstOf(top);
                    int last = lastOf(top);
                    spread(this, first, last, depthAt(top));
                    return last - first + 1;
                }
                top = above(top);
            }
            return 0;
        }

        /** Tells how many sheaves have another depth then. */
        int buildWhole() {
            most = count;
            return spread(this, 0, count - 1, 0);
        }

        /** Makes a part anew with its top at a depth: how many sheaves have another one then. */
        private static int spread(Rick its, int low, int high, int depth) {
            if (low > high || depth > SHEAVES) {
                return 0;
            }
            int middle = (low + high) / 2;
            int moved = its.depthAt(middle) == depth ? 0 : 1;
            its.setDepth(middle, depth);
            return moved + spread(its, low, middle - 1, depth + 1)
                    + spread(its, middle + 1, high, depth + 1);
        }

        private void raise(int low, int high) {
            for (int i = low; i <= high && i < count; i++) {
                setDepth(i, depthAt(i) - 1);
            }
        }

        private void set(int place, int itsWeight, int itsLoad, int itsDepth) {
            if (place >= 0 && place < SHEAVES) {
                weight[place] = itsWeight;
                load[place] = itsLoad;
                depth[place] = itsDepth;
            }
        }

        private void setDepth(int place, int itsDepth) {
            if (place >= 0 && place < SHEAVES) {
                depth[place] = itsDepth;
            }
        }

        void copyFrom(Rick other) {
            System.arraycopy(other.weight, 0, weight, 0, SHEAVES);
            System.arraycopy(other.load, 0, load, 0, SHEAVES);
            System.arraycopy(other.depth, 0, depth, 0, SHEAVES);
            count = other.count;
            most = other.most;
        }
    }

    /** A row of characters, by their codes. */
    private static final class Row {
        private final int[] code = new int[CHARACTERS];
        private int length;

        void clear() {
            length = 0;
        }

        boolean add(int itsCode) {
            if (length < 0 || length >= CHARACTERS) {
                return false;
            }
            code[length] = itsCode;
            length++;
            return true;
        }

        void addNumber(int number) {
            if (number >= 100) {
                add('0' + number / 100 % 10);
            }
            if (number >= 10) {
                add('0' + number / 10 % 10);
            }
            add('0' + number % 10);
        }

        int codeAt(int index) {
            return index >= 0 && index < length && index < CHARACTERS ? code[index] : NONE;
        }
    }

    /** The orders of the text that was read last: each with a sign and up to three numbers. */
    private static final class Orders {
        private final int[] sign = new int[ORDERS];
        private final int[] number = new int[ORDERS * 3];
        private int count;
        private int index;

        int signOf(int order) {
            return order >= 0 && order < ORDERS ? sign[order] : NONE;
        }

        int numberOf(int order, int which) {
            int place = order * 3 + which;
            return order >= 0 && order < ORDERS && which >= 0 && which < 3 ? number[place] : NONE;
        }

        /** Tells how many orders there are, or -1000 minus the fault position. */
        int read(Row text) {
            count = 0;
            index = 0;
            boolean isMore = true;
            for (int i = 0; i <= ORDERS && isMore; i++) {
                if (!isOrder(text)) {
                    return -1000 - index;
                }
                count++;
                isMore = index < text.length;
                if (isMore && !isCode(text, ';')) {
                    return -1000 - index;
                }
            }
            return count;
        }

        private boolean isOrder(Row text) {
            int first = text.codeAt(index);
            if (count < ORDERS && count >= 0) {
                sign[count] = first;
            }
            switch (first) {
                case '+':
                    return isCode(text, first) && isNumber(text, 0, 1) && isCode(text, ':')
                            && isNumber(text, 1, 3) && isCode(text, '*') && isNumber(text, 2, 2);
                case '-':
                    return isCode(text, first) && isNumber(text, 0, 1) && isCode(text, ':')
                            && isNumber(text, 1, 3);
                case '=':
                    return isCode(text, first) && isNumber(text, 0, 1);
                case '>':
                    return isCode(text, first) && isNumber(text, 0, 1) && isNumber(text, 1, 1);
                case '%':
                    return isCode(text, first) && isNumber(text, 0, 2);
                default:
                    return false;
            }
        }

        /** Reads a character, if it is this one; stays at it otherwise, as the fault is there. */
        private boolean isCode(Row text, int code) {
            if (text.codeAt(index) != code) {
                return false;
            }
            index++;
            return true;
        }

        private boolean isNumber(Row text, int which, int digits) {
            int value = 0;
            int read = 0;
            while (read < digits && isDigit(text.codeAt(index))) {
                value = value * 10 + text.codeAt(index) - '0';
                index++;
                read++;
            }
            if (read > 0 && count >= 0 && count < ORDERS && which >= 0 && which < 3) {
                number[count * 3 + which] = value;
            }
            return read > 0;
        }

        private static boolean isDigit(int code) {
            return code >= '0' && code <= '9';
        }
    }
}
