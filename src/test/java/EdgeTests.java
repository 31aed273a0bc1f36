/**
 * The edges of each promise, and one test for each code that its call returns: where that code is
 * due, that a number just inside is taken, and that the call leaves everything unchanged then.
 */
public final class EdgeTests {
    private static final int NONE = LeaningRicks.NONE;
    private static final int BAD = LeaningRicks.BAD;
    private static final int FULL = LeaningRicks.FULL;
    private static final int REFUSED = LeaningRicks.REFUSED;
    private static final int NOTHING = LeaningRicks.NOTHING;
    private static final int MIN = Integer.MIN_VALUE;
    private static final int MAX = Integer.MAX_VALUE;
    private static final Due due = new Due("EdgeTests");

    /** A call with one number that is asked about. */
    private interface Asking {
        long with(LeaningRicks x, int number);
    }

    public static void main(String[] args) {
        promise1();
        promise2();
        promise3();
        promise4();
        promise5();
        promise6();
        promise7();
        promise8();
        promises9And10();
        promise11();
        promises12And13();
        promise14();
        promise15();
        promise16();
        promise17();
        promise18();
        promise19();
        promise20();
        promise21();
        promise22();
        promise23();
        promise24();
        promise25();
        promise26();
        promise27();
        promise28();
        promise29();
        promise30();
        due.end();
    }

    // ---- states, and what is asked of calls that return a code

    /** Two ricks with sheaves, changes, a snapshot, the text "%6", a line, and the reason 4. */
    private static long some(LeaningRicks x) {
        x.put(0, 50, 5);
        x.put(0, 20, 6);
        x.save();
        x.put(0, 80, 7);
        x.put(1, 30, 9);
        x.put(1, 40, 8);
        x.take(1, 40);
        x.limit(75);
        Calls.append(x, "%6");
        x.tell(0);
        return x.limit(75);
    }

    /** Some of it undone, and a change as the latest call. */
    private static long changed(LeaningRicks x) {
        some(x);
        x.undo();
        x.undo();
        return x.put(0, 70, 4);
    }

    /** The rick 0 is full. */
    private static long full(LeaningRicks x) {
        Calls.putRow(x, 0, 100, 30);
        x.put(1, 30, 9);
        Calls.append(x, "%6");
        return x.tell(1);
    }

    private static void unchanged(String call, Calls.Call steps, Calls.Call made, int code) {
        LeaningRicks x = Calls.after(steps);
        LeaningRicks y = Calls.after(steps);
        due.is(call, made.on(x), code);
        due.isText(call + ", text and line", Calls.textAndLine(x), Calls.textAndLine(y));
        if (code != REFUSED) {
            due.isText(call + ", reason", Calls.besides(x), Calls.besides(y));
        }
        due.is(call + ", the text goes on", Calls.runText(x, "1"), Calls.runText(y, "1"));
        due.alike(call, x, y);
    }

    private static void codes(String call, Calls.Call steps, Asking made, int code,
            int... numbers) {
        for (int number : numbers) {
            unchanged(call + " with " + number, steps, x -> made.with(x, number), code);
        }
    }

    private static void noSuchRick(String call, Asking made) {
        due.part(call + ": NONE, no such rick");
        codes(call, EdgeTests::some, made, NONE, MIN, -1, 3, MAX);
        codes(call, LeaningRicks::save, made, NONE, -1, 3);
    }

    private static void noSuchSheaf(String call, Asking made) {
        due.part(call + ": NONE, no such sheaf");
        // 30 is in another rick, 40 was taken, -15 and -1 are what others answer for none
        codes(call, EdgeTests::some, made, NONE, MIN, -15, -11, -1, 0, 30, 40, 49, 51, 999, 1000,
                MAX);
        codes(call, LeaningRicks::save, made, NONE, 0, 50, -15);
    }

    private static void outOfRange(String call, Asking made, int... numbers) {
        due.part(call + ": BAD");
        codes(call, EdgeTests::some, made, BAD, numbers);
    }

    private static void refused(String call, Calls.Call steps, Calls.Call made, int reason,
            int detail) {
        due.part(call + ": REFUSED");
        unchanged(call, steps, made, REFUSED);
        LeaningRicks x = Calls.after(steps);
        due.refused(x, call, made.on(x), reason, detail);
    }

    /** A change is one that can be undone, and undone altogether. */
    private static void undone(String call, Calls.Call steps, Calls.Call made) {
        due.part(call + ": undone");
        LeaningRicks x = Calls.after(steps);
        LeaningRicks y = Calls.after(steps);
        due.is(call + ", is a code", made.on(x) < 0 ? 1 : 0, 0);
        due.is(call + ", account(10)", x.account(10), y.account(10) + 1);
        due.is(call + ", undo()", x.undo(), y.account(10));
        due.alike(call, x, y);
    }

    private static void asksOnly(String call, Calls.Call made) {
        due.part(call + ": changes nothing");
        LeaningRicks x = Calls.after(EdgeTests::some);
        LeaningRicks y = Calls.after(EdgeTests::some);
        long answer = made.on(x);
        due.is(call + " again", made.on(x), answer);
        due.isText(call + ", besides", Calls.besides(x), Calls.besides(y));
        due.is(call + ", the text goes on", Calls.runText(x, "1"), Calls.runText(y, "1"));
        due.alike(call, x, y);
    }

    // ---- sheaves

    // "Creates three ricks without sheaves."
    private static void promise1() {
        due.part("LeaningRicks()");
        LeaningRicks x = new LeaningRicks();
        due.isText("state", Calls.state(x), "0 most 0; 0 most 0; 0 most 0; 0 0 0 0 0 0 0 0 70 ");
        due.isText("besides", Calls.besides(x), "text 0 line  reason -15 -15");
        due.is("undo()", x.undo(), NOTHING);
        due.is("restore()", x.restore(), NOTHING);
        due.is("run()", x.run(), -1000);
        LeaningRicks other = Calls.after(EdgeTests::some);
        due.is("account(0) of another one", other.account(0), 4);
        due.is("account(0)", x.account(0), 0);
    }

    private static void promise2() {
        due.part("put: how many sheaves are built anew");
        LeaningRicks x = new LeaningRicks();
        int[] built = {0, 0, 0, 4, 0, 4};
        for (int i = 0; i < built.length; i++) {
            due.is("put(2, " + i + ", 1)", x.put(2, i, 1), built[i]);
        }
        due.is("account(6)", x.account(6), 8);
        noSuchRick("put", (y, rick) -> y.put(rick, 60, 1));
        outOfRange("put, weight", (y, weight) -> y.put(0, weight, 1), MIN, -1, 1000, MAX);
        outOfRange("put, load", (y, load) -> y.put(0, 60, load), MIN, -1, 0, 100, MAX);
        outOfRange("put, load of a weight that is there", (y, load) -> y.put(0, 50, load), 0, 100);
        refused("put, reason 2", EdgeTests::some, y -> y.put(0, 20, 1), 2, 20);
        refused("put, reason 2, full", EdgeTests::full, y -> y.put(0, 129, 1), 2, 129);
        refused("put, reason 1", EdgeTests::full, y -> y.put(0, 130, 1), 1, 30);
        undone("put", EdgeTests::changed, y -> y.put(2, 0, 99));
        undone("put that builds anew", y -> {
            Calls.putRow(y, 0, 1, 3);
            return y.save();
        }, y -> y.put(0, 4, 1));
    }

    private static void promise3() {
        due.part("take: its load");
        LeaningRicks x = new LeaningRicks();
        x.put(0, 0, 1);
        x.put(0, 999, 99);
        due.is("take(0, 0)", x.take(0, 0), 1);
        due.is("take(0, 999)", x.take(0, 999), 99);
        due.is("account(3)", x.account(3), 2);
        LeaningRicks full = Calls.after(EdgeTests::full);
        due.is("take of one of thirty", full.take(0, 129), 1);
        due.is("put in its place", full.put(0, 130, 1) >= 0 ? 1 : 0, 1);
        noSuchRick("take", (y, rick) -> y.take(rick, 50));
        noSuchSheaf("take", (y, weight) -> y.take(0, weight));
        undone("take", EdgeTests::changed, y -> y.take(0, 50));
        undone("take of the last one", EdgeTests::changed, y -> y.take(1, 30));
    }

    private static void promise4() {
        due.part("build: how many sheaves have another depth");
        due.is("build(0) of one", Calls.with(0, 5).build(0), 0);
        due.is("build(0) of two, as it is made", Calls.with(0, 5, 6).build(0), 0);
        due.is("build(0) of two, the other way", Calls.with(0, 6, 5).build(0), 2);
        due.is("build(0) of three, all of them", Calls.with(0, 5, 6, 7).build(0), 3);
        due.is("build(0), the top stays", Calls.with(0, 5, 4, 6).build(0), 0);
        LeaningRicks x = Calls.with(0, 20, 10, 40, 30);
        due.tells(x, 0, "((10)20((30)40))");
        due.is("build(0), of four those two that are lowest on the right", x.build(0), 2);
        due.tells(x, 0, "((10)20(30(40)))");
        due.is("build(0) again", x.build(0), 0);
        LeaningRicks full = Calls.after(EdgeTests::full);
        full.build(0);
        due.is("build(0) of thirty again", full.build(0), 0);
        noSuchRick("build", (y, rick) -> y.build(rick));
        refused("build, reason 5", EdgeTests::some, y -> y.build(2), 5, 2);
        refused("build, reason 5, a new object", LeaningRicks::save, y -> y.build(0), 5, 0);
        undone("build", y -> {
            Calls.putRow(y, 0, 1, 3);
            return y.save();
        }, y -> y.build(0));
        undone("build by which nothing is different", EdgeTests::changed, y -> y.build(1));
    }

    private static void promise5() {
        due.part("pour: how many sheaves the other one has then");
        due.is("pour of one into none", Calls.with(2, 5).pour(2, 1), 1);
        LeaningRicks x = Calls.after(EdgeTests::full);
        x.take(0, 100);
        due.is("pour of one into 29", x.pour(1, 0), 30);
        due.is("pour of 30 into none", x.pour(0, 2), 30);
        due.is("isBalanced()", x.isBalanced(), 1);
        noSuchRick("pour, the one", (y, rick) -> y.pour(rick, 0));
        noSuchRick("pour, the other", (y, rick) -> y.pour(0, rick));
        noSuchRick("pour, without sheaves", (y, rick) -> y.pour(2, rick));
        noSuchRick("pour, both", (y, rick) -> y.pour(rick, rick));
        refused("pour, reason 3", EdgeTests::some, y -> y.pour(1, 1), 3, 1);
        refused("pour, reason 3, without sheaves", EdgeTests::some, y -> y.pour(2, 2), 3, 2);
        refused("pour, reason 5", EdgeTests::some, y -> y.pour(2, 0), 5, 2);
        refused("pour, reason 5, full", EdgeTests::full, y -> y.pour(2, 0), 5, 2);
        refused("pour, reason 1", EdgeTests::full, y -> y.pour(1, 0), 1, 31);
        refused("pour, reason 1, full", EdgeTests::full, y -> y.pour(0, 1), 1, 31);
        refused("pour, reason 1 ahead of 2", y -> {
            full(y);
            return y.put(1, 100, 1);
        }, y -> y.pour(1, 0), 1, 32);
        refused("pour, reason 2, the lowest", y -> {
            some(y);
            Calls.putAll(y, 2, 90, 80, 50, 10);
            return y.save();
        }, y -> y.pour(0, 2), 2, 50);
        undone("pour", EdgeTests::changed, y -> y.pour(1, 0));
        undone("pour into none", EdgeTests::changed, y -> y.pour(0, 2));
    }

    private static void promise6() {
        due.part("limit: the limit before");
        LeaningRicks x = new LeaningRicks();
        due.is("limit(55)", x.limit(55), 70);
        due.is("limit(90)", x.limit(90), 55);
        due.is("limit(89)", x.limit(89), 90);
        due.is("limit(56)", x.limit(56), 89);
        outOfRange("limit", (y, limit) -> y.limit(limit), MIN, -75, 0, 54, 91, MAX);
        refused("limit, reason 4", EdgeTests::some, y -> y.limit(75), 4, 75);
        refused("limit, reason 4, a new object", LeaningRicks::save, y -> y.limit(70), 4, 70);
        undone("limit", EdgeTests::changed, y -> y.limit(90));
        nothingIsBuiltAnewByThat();
    }

    // "Nothing is built anew by that."
    private static void nothingIsBuiltAnewByThat() {
        due.part("limit: nothing is built anew");
        LeaningRicks x = new LeaningRicks();
        x.limit(90);
        Calls.putRow(x, 0, 1, 10);
        x.take(0, 10);
        long shape = x.shape(0);
        x.limit(55);
        due.is("rickOf(0, 3) beyond rickOf(0, 4)", x.rickOf(0, 3) > x.rickOf(0, 4) ? 1 : 0, 1);
        x.limit(89);
        due.is("shape(0)", x.shape(0), shape);
        due.is("account(4)", x.account(4), 0);
        due.is("account(5)", x.account(5), 0);
        due.is("rickOf(0, 5)", x.rickOf(0, 5), 10);
    }

    private static void promise7() {
        due.part("sheafOf: one sheaf");
        LeaningRicks x = new LeaningRicks();
        x.put(1, 0, 99);
        int[] ofOne = {99, 0, 1, 99, 0, NOTHING, NOTHING, NOTHING};
        for (int what = 0; what <= 7; what++) {
            due.is("sheafOf(1, 0, " + what + ")", x.sheafOf(1, 0, what), ofOne[what]);
        }
        due.part("sheafOf: three sheaves");
        x.put(1, 999, 1);
        x.put(1, 500, 2);
        int[][] ofThree = {{99, 0, 3, 102, 0, NOTHING, NOTHING, 999},
            {1, 1, 2, 3, 0, 0, 500, NOTHING}, {2, 2, 1, 2, 0, 999, NOTHING, NOTHING}};
        int[] weights = {0, 999, 500};
        for (int i = 0; i < 3; i++) {
            for (int what = 0; what <= 7; what++) {
                due.is("sheafOf(1, " + weights[i] + ", " + what + ")",
                        x.sheafOf(1, weights[i], what), ofThree[i][what]);
            }
        }
        x.limit(55);
        due.is("sheafOf(1, 0, 4), limit 55", x.sheafOf(1, 0, 4), 1);
        due.is("sheafOf(1, 999, 4), limit 55", x.sheafOf(1, 999, 4), 0);
        noSuchRick("sheafOf", (y, rick) -> y.sheafOf(rick, 50, 0));
        noSuchSheaf("sheafOf", (y, weight) -> y.sheafOf(0, weight, 0));
        outOfRange("sheafOf", (y, what) -> y.sheafOf(0, 50, what), MIN, -1, 8, MAX);
        asksOnly("sheafOf", y -> y.sheafOf(0, 50, 7));
    }

    private static void promise8() {
        due.part("rickOf: without sheaves");
        LeaningRicks x = Calls.after(EdgeTests::full);
        int[] ofNone = {0, 0, NOTHING, -1, 0, 0, 0, 0, 0};
        int[] ofOne = {1, 9, 30, 0, 0, 1, 0, 0, 1};
        for (int what = 0; what <= 8; what++) {
            due.is("rickOf(2, " + what + ")", x.rickOf(2, what), ofNone[what]);
            due.is("rickOf(1, " + what + ")", x.rickOf(1, what), ofOne[what]);
        }
        due.part("rickOf: full");
        // built anew: depths 0, 1 twice, 2 four times, 3 eight times, and 4 the other fifteen
        x.build(0);
        int[] ofThirty = {30, 30, 114, 4, 7, 30, 0, 2 + 8 + 24 + 60, 15};
        for (int what = 0; what <= 8; what++) {
            due.is("rickOf(0, " + what + ")", x.rickOf(0, what), ofThirty[what]);
        }
        LeaningRicks heavy = new LeaningRicks();
        for (int i = 0; i < 30; i++) {
            heavy.put(0, 970 + i, 99);
        }
        due.is("rickOf(0, 1), the greatest loads", heavy.rickOf(0, 1), 2970);
        due.part("rickOf: none below");
        due.is("rickOf(0, 8), one to the left", Calls.with(0, 50, 80, 60, 20).rickOf(0, 8), 2);
        due.is("rickOf(0, 8), one to the right", Calls.with(0, 50, 80, 90, 20).rickOf(0, 8), 2);
        due.is("rickOf(0, 8), only to the left", Calls.with(0, 50, 40, 30).rickOf(0, 8), 1);
        due.is("rickOf(0, 8), only to the right", Calls.with(0, 50, 60, 70).rickOf(0, 8), 1);
        noSuchRick("rickOf", (y, rick) -> y.rickOf(rick, 0));
        outOfRange("rickOf", (y, what) -> y.rickOf(0, what), MIN, -1, 9, MAX);
        outOfRange("rickOf, without sheaves", (y, what) -> y.rickOf(2, what), -1, 9);
        asksOnly("rickOf", y -> y.rickOf(0, 7));
    }

    // ---- ranks, loads

    private static void promises9And10() {
        due.part("rank, rankAgain: lighter than a weight");
        LeaningRicks x = Calls.after(EdgeTests::full);
        for (int weight = 98; weight <= 132; weight++) {
            int lighter = Math.min(Math.max(weight - 100, 0), 30);
            due.is("rank(0, " + weight + ")", x.rank(0, weight), lighter);
            due.is("rankAgain(0, " + weight + ")", x.rankAgain(0, weight), lighter);
        }
        due.is("rank(1, 30), of the only one", x.rank(1, 30), 0);
        due.is("rank(1, 31), of the only one", x.rank(1, 31), 1);
        for (int weight : new int[] {MIN, -15, -1, 0, 999, MAX}) {
            due.is("rank(2, " + weight + "), without sheaves", x.rank(2, weight), 0);
            due.is("rankAgain(2, " + weight + "), without sheaves", x.rankAgain(2, weight), 0);
        }
        due.is("rank(0, MAX)", x.rank(0, MAX), 30);
        due.is("rankAgain(0, MAX)", x.rankAgain(0, MAX), 30);
        due.is("rank(0, MIN)", x.rank(0, MIN), 0);
        due.is("rankAgain(0, MIN)", x.rankAgain(0, MIN), 0);
        noSuchRick("rank", (y, rick) -> y.rank(rick, 50));
        noSuchRick("rankAgain", (y, rick) -> y.rankAgain(rick, 50));
        asksOnly("rank", y -> y.rank(0, 50));
        asksOnly("rankAgain", y -> y.rankAgain(0, 50));
    }

    private static void promise11() {
        due.part("at: its weight");
        LeaningRicks x = Calls.after(EdgeTests::full);
        for (int place = 0; place < 30; place++) {
            due.is("at(0, " + place + ")", x.at(0, place), 100 + place);
        }
        due.is("at(1, 0)", x.at(1, 0), 30);
        noSuchRick("at", (y, rick) -> y.at(rick, 0));
        due.part("at: NONE, no such place");
        codes("at(0, ..)", EdgeTests::some, (y, place) -> y.at(0, place), NONE, MIN, -1, 3, MAX);
        codes("at(1, ..)", EdgeTests::some, (y, place) -> y.at(1, place), NONE, -1, 1);
        codes("at(2, ..)", EdgeTests::some, (y, place) -> y.at(2, place), NONE, -1, 0);
        codes("at(0, ..), full", EdgeTests::full, (y, place) -> y.at(0, place), NONE, -1, 30, 31);
        asksOnly("at", y -> y.at(0, 2));
    }

    private static void promises12And13() {
        due.part("between, betweenAgain: these included");
        LeaningRicks x = new LeaningRicks();
        x.put(0, 50, 1);
        x.put(0, 20, 2);
        x.put(0, 80, 4);
        x.put(0, 0, 8);
        x.put(0, 999, 16);
        int[][] asked = {{20, 80, 7}, {21, 80, 5}, {20, 79, 3}, {21, 79, 1}, {19, 81, 7},
            {0, 999, 31}, {1, 998, 7}, {0, 0, 8}, {999, 999, 16}, {-1, 0, 8}, {999, 1000, 16},
            {-9, -1, 0}, {1000, 1001, 0}, {MIN, MAX, 31}, {MIN, -1, 0}, {1000, MAX, 0},
            {999, MAX, 16}, {MAX, MAX, 0}, {MIN, MIN, 0}, {50, 50, 1}, {51, 79, 0}, {80, 20, 0},
            {51, 50, 0}, {MAX, MIN, 0}};
        for (int[] row : asked) {
            String numbers = "(0, " + row[0] + ", " + row[1] + ")";
            due.is("between" + numbers, x.between(0, row[0], row[1]), row[2]);
            due.is("betweenAgain" + numbers, x.betweenAgain(0, row[0], row[1]), row[2]);
        }
        due.is("between, without sheaves", x.between(1, MIN, MAX), 0);
        due.is("betweenAgain, without sheaves", x.betweenAgain(1, MIN, MAX), 0);
        LeaningRicks full = Calls.after(EdgeTests::full);
        due.is("between, full", full.between(0, 100, 129), 30);
        due.is("betweenAgain, full", full.betweenAgain(0, 100, 129), 30);
        noSuchRick("between", (y, rick) -> y.between(rick, 0, 999));
        noSuchRick("between, the low one above", (y, rick) -> y.between(rick, 9, 0));
        noSuchRick("betweenAgain", (y, rick) -> y.betweenAgain(rick, 0, 999));
        noSuchRick("betweenAgain, the low one above", (y, rick) -> y.betweenAgain(rick, 9, 0));
        asksOnly("between", y -> y.between(0, 20, 50));
        asksOnly("betweenAgain", y -> y.betweenAgain(0, 20, 50));
    }

    private static void promise14() {
        due.part("heaviest: the greatest first, of several the lightest, then the lowest rick");
        LeaningRicks x = new LeaningRicks();
        x.put(2, 0, 99);
        x.put(1, 0, 99);
        x.put(0, 1, 99);
        x.put(0, 999, 98);
        x.put(2, 998, 98);
        x.put(2, 5, 1);
        int[] order = {1000, 2000, 1, 2998, 999, 2005};
        for (int place = 0; place < order.length; place++) {
            due.is("heaviest(" + place + ")", x.heaviest(place), order[place]);
        }
        due.part("heaviest: the very first and the very last there can be");
        LeaningRicks both = new LeaningRicks();
        both.put(2, 999, 1);
        both.put(2, 998, 1);
        both.put(0, 0, 99);
        int[] far = {0, 2998, 2999};
        for (int place = 0; place < far.length; place++) {
            due.is("heaviest(" + place + ")", both.heaviest(place), far[place]);
        }
        due.part("heaviest: ninety sheaves");
        LeaningRicks ninety = new LeaningRicks();
        for (int rick = 0; rick < 3; rick++) {
            Calls.putRow(ninety, rick, 970, 30);
        }
        for (int place = 0; place < 90; place++) {
            due.is("heaviest(" + place + ")", ninety.heaviest(place),
                    place % 3 * 1000 + 970 + place / 3);
        }
        due.is("heaviest(90)", ninety.heaviest(90), NONE);
        due.part("heaviest: NONE, no such place");
        codes("heaviest", EdgeTests::some, (y, place) -> y.heaviest(place), NONE, MIN, -1, 4, MAX);
        codes("heaviest", LeaningRicks::save, (y, place) -> y.heaviest(place), NONE, -1, 0);
        asksOnly("heaviest", y -> y.heaviest(3));
    }

    // ---- carts

    private static void promise15() {
        due.part("carts: how many");
        LeaningRicks x = new LeaningRicks();
        due.is("carts(0, 99), without sheaves", x.carts(0, 99), 0);
        due.is("carts(0, 999), without sheaves", x.carts(0, 999), 0);
        for (int i = 0; i < 30; i++) {
            x.put(0, i, 99);
            x.put(1, i, 1);
        }
        due.is("carts(0, 99), each its own", x.carts(0, 99), 30);
        due.is("carts(0, 197)", x.carts(0, 197), 30);
        due.is("carts(0, 198), two on each", x.carts(0, 198), 15);
        due.is("carts(0, 990), ten on each", x.carts(0, 990), 3);
        due.is("carts(0, 989), nine on each", x.carts(0, 989), 4);
        due.is("carts(0, 999)", x.carts(0, 999), 3);
        due.is("carts(1, 99), all on one", x.carts(1, 99), 1);
        noSuchRick("carts", (y, rick) -> y.carts(rick, 99));
        noSuchRick("carts that bear 98", (y, rick) -> y.carts(rick, 98));
        outOfRange("carts", (y, bears) -> y.carts(0, bears), MIN, -99, 0, 98, 1000, MAX);
        outOfRange("carts, without sheaves", (y, bears) -> y.carts(2, bears), 98, 1000);
        asksOnly("carts", y -> y.carts(0, 99));
    }

    private static void promise16() {
        due.part("cartOf: the cart, from 0");
        LeaningRicks x = new LeaningRicks();
        for (int i = 0; i < 30; i++) {
            x.put(0, 970 + i, 99);
        }
        for (int i = 0; i < 30; i++) {
            due.is("cartOf(0, " + (970 + i) + ", 99)", x.cartOf(0, 970 + i, 99), i);
            due.is("cartOf(0, " + (970 + i) + ", 999)", x.cartOf(0, 970 + i, 999), i / 10);
        }
        noSuchRick("cartOf", (y, rick) -> y.cartOf(rick, 50, 99));
        noSuchSheaf("cartOf", (y, weight) -> y.cartOf(0, weight, 99));
        noSuchSheaf("cartOf a cart that bears 98", (y, weight) -> y.cartOf(0, weight, 98));
        outOfRange("cartOf", (y, bears) -> y.cartOf(0, 50, bears), MIN, -99, 0, 98, 1000, MAX);
        asksOnly("cartOf", y -> y.cartOf(0, 80, 99));
    }

    // ---- bits

    private static void promise17() {
        due.part("shape");
        LeaningRicks x = Calls.after(EdgeTests::full);
        due.is("shape(2), without sheaves", x.shape(2), 0);
        due.is("shape(1), of one", x.shape(1), 0b100);
        due.is("shape(0), of thirty", Long.highestOneBit(x.shape(0)), 1L << 60);
        noSuchRick("shape", (y, rick) -> y.shape(rick));
        asksOnly("shape", y -> y.shape(0));
    }

    private static void promise18() {
        due.part("weights: bit k for the weight that is k more");
        LeaningRicks x = new LeaningRicks();
        for (int weight = 0; weight < 30; weight++) {
            x.put(0, weight, 1);
            x.put(1, 970 + weight, 1);
        }
        long thirty = (1L << 30) - 1;
        due.is("weights(0, 0)", x.weights(0, 0), thirty);
        due.is("weights(0, 1)", x.weights(0, 1), thirty >> 1);
        due.is("weights(0, 29)", x.weights(0, 29), 1);
        due.is("weights(0, 30)", x.weights(0, 30), 0);
        due.is("weights(1, 936)", x.weights(1, 936), thirty << 34);
        due.is("weights(1, 935)", x.weights(1, 935), thirty << 35);
        due.is("weights(1, 907)", x.weights(1, 907), 1L << 63);
        due.is("weights(1, 906)", x.weights(1, 906), 0);
        due.is("weights(2, 0), without sheaves", x.weights(2, 0), 0);
        due.is("weights(0, 936), of lighter ones", x.weights(0, 936), 0);
        due.part("weights: 0, no such rick");
        codes("weights", EdgeTests::some, (y, rick) -> y.weights(rick, 0), 0, MIN, -1, 3, MAX);
        due.part("weights: 0, out of range");
        for (int from : new int[] {MIN, -1, 937, 970, 999, 1000, MAX}) {
            due.is("weights(0, " + from + ")", x.weights(0, from), 0);
            due.is("weights(1, " + from + ")", x.weights(1, from), 0);
        }
        codes("weights", EdgeTests::some, (y, from) -> y.weights(0, from), 0, -1, 937);
        asksOnly("weights", y -> y.weights(0, 20));
    }

    private static void promise19() {
        due.part("leaningShare: the bits of the share");
        LeaningRicks x = Calls.with(1, 5);
        due.is("of one that does not lean", x.leaningShare(1), 0);
        sharesAndMeans();
        due.part("leaningShare: NOTHING without sheaves");
        unchanged("leaningShare(2)", EdgeTests::some, y -> y.leaningShare(2), NOTHING);
        unchanged("leaningShare(0)", LeaningRicks::save, y -> y.leaningShare(0), NOTHING);
        x.take(1, 5);
        due.is("after the last one was taken", x.leaningShare(1), NOTHING);
        noSuchRick("leaningShare", (y, rick) -> y.leaningShare(rick));
        asksOnly("leaningShare", y -> y.leaningShare(0));
    }

    /** Ricks that lean in many ways, with each limit. */
    private static void sharesAndMeans() {
        for (int sheaves = 1; sheaves <= 30; sheaves++) {
            LeaningRicks x = new LeaningRicks();
            x.limit(90);
            Calls.putRow(x, 0, 100, sheaves);
            for (int limit = 55; limit < 90; limit++) {
                x.limit(limit);
                due.is("leaningShare(0) of " + sheaves + ", limit " + limit, x.leaningShare(0),
                        Float.floatToIntBits((float) x.rickOf(0, 6) / (float) sheaves));
            }
            due.is("meanDepth(0) of " + sheaves, x.meanDepth(0),
                    Double.doubleToLongBits((double) x.rickOf(0, 7) / (double) sheaves));
        }
    }

    private static void promise20() {
        due.part("meanDepth: the bits of the mean");
        LeaningRicks x = Calls.with(1, 5);
        due.is("of one", x.meanDepth(1), 0);
        x.put(1, 6, 1);
        due.is("of two, less than 1", x.meanDepth(1), Double.doubleToLongBits(0.5));
        x.put(1, 7, 1);
        due.is("of three, 1", x.meanDepth(1), Double.doubleToLongBits(1.0));
        LeaningRicks deep = new LeaningRicks();
        deep.limit(90);
        Calls.putRow(deep, 1, 1, 10);
        due.is("of ten, each below the other", deep.meanDepth(1), Double.doubleToLongBits(4.5));
        due.part("meanDepth: NOTHING without sheaves");
        unchanged("meanDepth(2)", EdgeTests::some, y -> y.meanDepth(2), NOTHING);
        unchanged("meanDepth(0)", LeaningRicks::save, y -> y.meanDepth(0), NOTHING);
        noSuchRick("meanDepth", (y, rick) -> y.meanDepth(rick));
        asksOnly("meanDepth", y -> y.meanDepth(0));
    }

    // ---- texts, lines

    private static void promise21() {
        due.part("append: the length of the text");
        LeaningRicks x = new LeaningRicks();
        for (int length = 1; length <= 60; length++) {
            due.is("append, the " + length + "th", x.append(length % 2 == 0 ? 32 : 126), length);
        }
        due.part("append: BAD");
        codes("append", EdgeTests::some, (y, code) -> y.append(code), BAD, MIN, -1, 0, 31, 127,
                128, 256 + '+', MAX);
        due.part("append: BAD ahead of FULL");
        for (int code : new int[] {MIN, 31, 127, MAX}) {
            due.is("append(" + code + ")", x.append(code), BAD);
        }
        appendIsFull();
        appendIsNoChange();
    }

    // "FULL if the text has 60 characters"
    private static void appendIsFull() {
        due.part("append: FULL");
        LeaningRicks x = Calls.with(0, 5);
        due.is("the 60th", Calls.append(x, "=0;".repeat(20)), 60);
        String before = Calls.state(x);
        for (int code : new int[] {32, '0', '=', 126}) {
            due.is("append(" + code + ")", x.append(code), FULL);
        }
        due.isText("state", Calls.state(x), before);
        due.isText("besides", Calls.besides(x), "text 60 line  reason -15 -15");
        due.is("run(), of what was there", x.run(), -1060);
        due.is("append('='), after it", x.append('='), 1);
    }

    private static void appendIsNoChange() {
        due.part("append: no change");
        LeaningRicks x = Calls.after(EdgeTests::some);
        int undoable = x.account(10);
        x.append('1');
        due.is("account(10)", x.account(10), undoable);
        due.is("account(9)", x.account(9), 3);
    }

    private static void promise22() {
        due.part("run: how many orders");
        LeaningRicks x = Calls.with(0, 5);
        due.is("run of one", Calls.runText(x, "=0"), 1);
        due.is("run of twenty", Calls.runText(x, "=0;".repeat(19) + "=0"), 20);
        due.is("account(10)", x.account(10), 3);
        due.is("run of 60 characters", Calls.runText(new LeaningRicks(),
                "+0:001*1;+0:002*1;+0:003*1;+0:004*1;+0:005*1;+0:006*1;+0:7*1"), 7);
        due.is("run of a full text", Calls.runText(new LeaningRicks(),
                "%55;%56;%57;%58;%59;%60;%61;%62;%63;%64;%65;%66;%67;+0:12*03"), 14);
        runUndone();
        runOfAWrongText();
        runRefused();
    }

    private static void runUndone() {
        due.part("run: undone");
        LeaningRicks x = Calls.after(EdgeTests::changed);
        LeaningRicks y = Calls.after(EdgeTests::changed);
        due.is("run of four", Calls.runText(x, "1;-0:50;>10;=0"), 4);
        due.is("account(10)", x.account(10), y.account(10) + 1);
        due.is("undo()", x.undo(), y.account(10));
        due.is("account(9), the text is not undone", x.account(9), 0);
        due.alike("run of four", x, y);
    }

    // "-1000 minus the fault position if the text is wrong"
    private static void runOfAWrongText() {
        due.part("run: a wrong text");
        String[] texts = {"x", "%", "=", "1;", "1;+0:1*", "1;+0:1*1;%70;", "1;-0:20;x"};
        int[] faults = {2, 2, 2, 4, 9, 15, 10};
        for (int i = 0; i < texts.length; i++) {
            LeaningRicks x = Calls.after(EdgeTests::some);
            LeaningRicks y = Calls.after(EdgeTests::some);
            due.is("run of %6" + texts[i], Calls.runText(x, texts[i]), -1000 - faults[i]);
            due.is("account(9)", x.account(9), 0);
            due.isText("the line", Calls.line(x), Calls.line(y));
            due.is("reason(false)", x.reason(false), 4);
            due.is("reason(true)", x.reason(true), 75);
            due.alike("run of %6" + texts[i], x, y);
        }
    }

    // "REFUSED for the reason 6"
    private static void runRefused() {
        due.part("run: REFUSED");
        String[] texts = {"1;%61", "1;+0:50*1", "1;-0:50;-0:50", "1;=0;=1;=2", "1;>10;>00",
            "1;>10;>10", "1;>01;+1:30*5", "1;+3:1*1", "1;+2:0*0", "1;%91", "1;-2:0", ";%54"};
        int[] orders = {1, 1, 2, 3, 2, 2, 2, 1, 1, 1, 1, 0};
        for (int i = 0; i < texts.length; i++) {
            LeaningRicks x = Calls.after(EdgeTests::some);
            LeaningRicks y = Calls.after(EdgeTests::some);
            due.refused(x, "run of %6" + texts[i], Calls.runText(x, texts[i]), 6, orders[i]);
            due.is("account(9)", x.account(9), 0);
            due.isText("the line", Calls.line(x), Calls.line(y));
            due.alike("run of %6" + texts[i], x, y);
        }
        LeaningRicks full = Calls.after(EdgeTests::full);
        due.refused(full, "run, the 31st sheaf", Calls.runText(full, "1;+0:0*1"), 6, 1);
        due.refused(full, "run, 31 sheaves poured", Calls.runText(full, ">10"), 6, 0);
        due.is("run, one taken ahead", Calls.runText(full, "-0:129;>10"), 2);
        due.is("rickOf(0, 0)", full.rickOf(0, 0), 30);
    }

    private static void promise23() {
        due.part("tell: the length of the line");
        LeaningRicks x = Calls.with(0, 7, 3, 9);
        due.tells(x, 0, "((3)7(9))");
        due.is("tell(0)", x.tell(0), 9);
        due.tells(x, 1, "");
        due.is("tell(1), nothing where none is", x.tell(1), 0);
        due.is("character(0), in place of the line before", x.character(0), NONE);
        x.put(1, 0, 1);
        due.tells(x, 1, "(0)");
        x.put(2, 999, 1);
        due.tells(x, 2, "(999)");
        weightsOfOneToThreeDigits();
        behindItIfItLeans();
        theFirstSixty();
        noSuchRick("tell", (y, rick) -> y.tell(rick));
        due.part("tell: no change");
        due.is("account(10)", x.account(10), 5);
    }

    private static void weightsOfOneToThreeDigits() {
        due.part("tell: weights");
        for (int weight : new int[] {0, 1, 9, 10, 11, 99, 100, 101, 909, 990, 999}) {
            due.tells(Calls.with(0, weight), 0, "(" + weight + ")");
        }
    }

    // ""!" behind it if it leans"
    private static void behindItIfItLeans() {
        due.part("tell: those that lean");
        LeaningRicks x = Calls.with(0, 10, 9, 100);
        x.put(1, 10, 1);
        x.put(1, 5, 1);
        x.put(1, 7, 1);
        x.limit(67);
        due.tells(x, 1, "((5(7))10)");
        x.limit(66);
        due.tells(x, 1, "((5(7))10!)");
        due.tells(x, 0, "((9)10(100))");
    }

    // "of more than 60 characters the first 60"
    private static void theFirstSixty() {
        due.part("tell: the first 60");
        // a sheaf with a weight of three digits has five characters, one of two has four
        int[][] rows = {{0, 15, 60}, {7, 8, 59}, {4, 11, 60}, {5, 11, 60}, {12, 0, 60},
            {8, 5, 60}, {9, 4, 60}, {30, 0, 60}, {0, 14, 56}};
        for (int[] row : rows) {
            LeaningRicks x = new LeaningRicks();
            Calls.putRow(x, 0, 10, row[1]);
            Calls.putRow(x, 0, 100, row[0]);
            x.build(0);
            String all = Calls.written(x, 0);
            String told = all.substring(0, Math.min(60, all.length()));
            int length = row[0] * 5 + row[1] * 4;
            due.is("characters in all", all.length(), length);
            due.tells(x, 0, told);
            due.is("tell(0) of " + length, x.tell(0), Math.min(60, length));
            due.is("character(59) of " + length, x.character(59),
                    length > 59 ? all.charAt(59) : NONE);
            due.is("character(60) of " + length, x.character(60), NONE);
        }
    }

    private static void promise24() {
        due.part("character: NONE, empty at first");
        LeaningRicks x = new LeaningRicks();
        for (int index : new int[] {MIN, -1, 0, 1, 59, 60, MAX}) {
            due.is("character(" + index + ")", x.character(index), NONE);
        }
        due.part("character: its code");
        x.put(0, 5, 1);
        x.tell(0);
        int[] codes = {'(', '5', ')'};
        for (int index = 0; index < 3; index++) {
            due.is("character(" + index + ")", x.character(index), codes[index]);
        }
        due.part("character: NONE");
        codes("character", EdgeTests::some, (y, index) -> y.character(index), NONE, MIN, -1, 12,
                59, 60, MAX);
        due.is("the last one", Calls.after(EdgeTests::some).character(11), ')');
        // a line that is shorter than the one before does not end with that one's characters
        LeaningRicks y = Calls.after(EdgeTests::some);
        due.is("tell(1)", y.tell(1), 4);
        due.is("character(3)", y.character(3), ')');
        due.is("character(4)", y.character(4), NONE);
        asksOnly("character", z -> z.character(5));
    }

    // ---- reasons, accounts, undo and the snapshot

    private static void promise25() {
        due.part("reason: NOTHING if nothing was refused");
        LeaningRicks x = new LeaningRicks();
        due.is("reason(false)", x.reason(false), NOTHING);
        due.is("reason(true)", x.reason(true), NOTHING);
        x.put(0, 1000, 1);
        x.put(3, 1, 1);
        x.take(0, 1);
        x.limit(91);
        x.append(0);
        x.run();
        x.undo();
        x.restore();
        x.sheafOf(0, 1, 1);
        x.carts(0, 1);
        due.is("reason(false), after other codes", x.reason(false), NOTHING);
        due.is("reason(true), after other codes", x.reason(true), NOTHING);
        due.part("reason: a detail of 0");
        due.refused(x, "build(0)", x.build(0), 5, 0);
        due.refused(x, "run()", Calls.runText(x, "=0"), 6, 0);
        due.part("reason: the latest");
        due.refused(x, "build(2)", x.build(2), 5, 2);
        due.refused(x, "pour(1, 1)", x.pour(1, 1), 3, 1);
        asksOnly("reason(false)", y -> y.reason(false));
        asksOnly("reason(true)", y -> y.reason(true));
    }

    private static void promise26() {
        due.part("account: each");
        LeaningRicks x = Calls.after(EdgeTests::some);
        int[] accounts = {4, 27, 5, 1, 0, 1, 1, 0, 75, 2, 7};
        for (int what = 0; what <= 10; what++) {
            due.is("account(" + what + ")", x.account(what), accounts[what]);
        }
        due.part("account: the most");
        LeaningRicks full = new LeaningRicks();
        for (int i = 0; i < 90; i++) {
            full.put(i % 3, i, 99);
        }
        due.is("account(0)", full.account(0), 90);
        due.is("account(1)", full.account(1), 8910);
        due.is("account(2)", full.account(2), 90);
        due.is("account(10)", full.account(10), 8);
        outOfRange("account", (y, what) -> y.account(what), MIN, -1, 11, MAX);
        for (int what = 0; what <= 10; what++) {
            int asked = what;
            asksOnly("account(" + what + ")", y -> y.account(asked));
        }
    }

    private static void promise27() {
        due.part("isBalanced: 1");
        due.is("without sheaves", new LeaningRicks().isBalanced(), 1);
        due.is("some", Calls.after(EdgeTests::some).isBalanced(), 1);
        LeaningRicks x = Calls.after(EdgeTests::full);
        due.is("full", x.isBalanced(), 1);
        for (int i = 100; i < 130; i++) {
            x.take(0, i);
            due.is("after take(0, " + i + ")", x.isBalanced(), 1);
        }
        x.pour(1, 2);
        due.is("after pour(1, 2)", x.isBalanced(), 1);
        x.undo();
        due.is("after undo()", x.isBalanced(), 1);
        balancedHoweverItLeans();
        asksOnly("isBalanced", y -> y.isBalanced());
    }

    private static void balancedHoweverItLeans() {
        due.part("isBalanced: however it leans");
        for (int limit = 55; limit <= 90; limit += 7) {
            LeaningRicks x = new LeaningRicks();
            x.limit(limit);
            for (int i = 0; i < 30; i++) {
                x.put(0, i, 99);
                x.put(1, 29 - i, 1 + i);
                x.put(2, i * 7 % 30, 99 - i);
                due.is("with " + (i + 1) + " in each, limit " + limit, x.isBalanced(), 1);
            }
            for (int i = 0; i < 30; i++) {
                x.take(0, 29 - i);
                x.take(1, i);
                x.take(2, i * 11 % 30);
                due.is("with " + (29 - i) + " in each, limit " + limit, x.isBalanced(), 1);
            }
        }
    }

    private static void promise28() {
        due.part("undo: how many can still be undone");
        LeaningRicks x = Calls.with(0, 1, 2);
        due.is("undo()", x.undo(), 1);
        due.is("undo(), the last", x.undo(), 0);
        due.part("undo: NOTHING");
        unchanged("undo()", LeaningRicks::save, y -> y.undo(), NOTHING);
        unchanged("undo(), beyond the latest 8", y -> {
            Calls.putRow(y, 0, 1, 12);
            y.save();
            for (int i = 0; i < 8; i++) {
                y.undo();
            }
            return y.tell(0);
        }, y -> y.undo(), NOTHING);
        unchanged("undo(), after restore()", y -> {
            some(y);
            return y.restore();
        }, y -> y.undo(), NOTHING);
        undoLeavesTheSnapshot();
    }

    private static void undoLeavesTheSnapshot() {
        due.part("undo: the snapshot stays");
        LeaningRicks x = Calls.with(0, 1, 2);
        due.is("save()", x.save(), 2);
        x.undo();
        x.undo();
        due.is("account(0)", x.account(0), 0);
        due.is("restore()", x.restore(), 2);
    }

    private static void promise29() {
        due.part("save: the sheaves of all ricks");
        LeaningRicks x = new LeaningRicks();
        due.is("save(), without sheaves", x.save(), 0);
        x.put(0, 1, 1);
        x.put(2, 1, 1);
        due.is("save(), in place of it", x.save(), 2);
        due.is("account(10)", x.account(10), 2);
        x.take(0, 1);
        due.is("restore()", x.restore(), 2);
        LeaningRicks full = new LeaningRicks();
        for (int i = 0; i < 90; i++) {
            full.put(i % 3, i, 1);
        }
        due.is("save(), ninety", full.save(), 90);
        full.take(0, 0);
        due.is("restore(), ninety", full.restore(), 90);
        allThatChangesCanChange();
    }

    // "Saves all that changes can change"
    private static void allThatChangesCanChange() {
        due.part("save: all that changes can change");
        LeaningRicks x = Calls.after(EdgeTests::some);
        String before = Calls.state(x);
        x.save();
        Calls.Call[] changes = {y -> y.put(2, 0, 1), y -> y.take(0, 50), y -> y.build(0),
            y -> y.pour(1, 0), y -> y.limit(55), y -> Calls.runText(y, "1;=0;>02")};
        for (int i = 0; i < changes.length; i++) {
            due.is("the change " + i + " is a code", changes[i].on(x) < 0 ? 1 : 0, 0);
            due.is("account(10)", x.account(10), i == 0 ? 8 : 1);
            due.is("restore()", x.restore(), 4);
            due.isText("the state after the change " + i, Calls.state(x), before);
            due.is("account(10), restored", x.account(10), 0);
        }
    }

    private static void promise30() {
        due.part("restore: NOTHING without a snapshot");
        unchanged("restore()", y -> {
            Calls.putRow(y, 0, 1, 3);
            y.build(2);
            Calls.append(y, "%6");
            return y.tell(0);
        }, y -> y.restore(), NOTHING);
        due.is("restore(), a new object", new LeaningRicks().restore(), NOTHING);
        due.part("restore: nothing can be undone then");
        LeaningRicks x = Calls.with(0, 1, 2, 3);
        x.save();
        due.is("restore(), of what is there", x.restore(), 3);
        due.is("account(10)", x.account(10), 0);
        due.is("undo()", x.undo(), NOTHING);
        due.is("rickOf(0, 0)", x.rickOf(0, 0), 3);
        Calls.putRow(x, 0, 10, 10);
        due.is("account(10), after ten more", x.account(10), 8);
        due.part("restore: the snapshot stays");
        due.is("restore()", x.restore(), 3);
        due.is("restore() again", x.restore(), 3);
        x.put(0, 9, 1);
        due.is("undo(), of what came after it", x.undo(), 0);
        due.is("undo()", x.undo(), NOTHING);
        due.part("restore: of an object without sheaves");
        LeaningRicks y = new LeaningRicks();
        y.save();
        y.put(0, 1, 1);
        due.is("restore()", y.restore(), 0);
        due.isText("state", Calls.state(y), Calls.state(new LeaningRicks()));
    }
}
