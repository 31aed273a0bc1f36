/**
 * One test for each sentence ahead of the promises that names a boundary case: of the heads
 * "What it is", "Terms" and "In doubt", and of the constants. The sentence stands above its test.
 */
public final class TermsTests {
    private static final int NONE = LeaningRicks.NONE;
    private static final int BAD = LeaningRicks.BAD;
    private static final int FULL = LeaningRicks.FULL;
    private static final int REFUSED = LeaningRicks.REFUSED;
    private static final int NOTHING = LeaningRicks.NOTHING;
    private static final int MIN = Integer.MIN_VALUE;
    private static final int MAX = Integer.MAX_VALUE;
    private static final Due due = new Due("TermsTests");

    public static void main(String[] args) {
        theFiveHundredAndTwelfthCall();
        sheaves();
        leaning();
        putting();
        taking();
        pouring();
        carts();
        bits();
        texts();
        reasons();
        changes();
        codes();
        inDoubt();
        constants();
        due.end();
    }

    // "An object is used for at most 512 calls after it has been made"
    private static void theFiveHundredAndTwelfthCall() {
        due.part("the 512th call");
        LeaningRicks x = new LeaningRicks();
        for (int call = 1; call <= 510; call += 2) {
            due.is("call " + call + ", put(0, 5, 9)", x.put(0, 5, 9), 0);
            due.is("call " + (call + 1) + ", take(0, 5)", x.take(0, 5), 9);
        }
        due.is("call 511, account(3)", x.account(3), 255);
        due.is("call 512, undo()", x.undo(), 7);
    }

    private static void sheaves() {
        wholeNumbersRoundedDown();
        ricksZeroToTwo();
        atMostThirty();
        weightsToNineHundredAndNinetyNine();
        noTwoTheSame();
        loadsToNinetyNine();
        lighterToTheLeft();
        partAndDepth();
    }

    // "All numbers are whole, but where bits of others are told, and are rounded down"
    private static void wholeNumbersRoundedDown() {
        due.part("rounded down");
        LeaningRicks x = Calls.with(0, 1, 2, 3);
        // 3 * 66 = 198, by 100: 1 (2 if rounded up or to the nearest); then 0
        x.limit(66);
        due.is("rickOf(0, 4)", x.rickOf(0, 4), 1);
        // 3 * 67 = 201, by 100: 2; then 1; then 0
        x.limit(67);
        due.is("rickOf(0, 4)", x.rickOf(0, 4), 2);
    }

    // "There are the ricks 0 to 2."
    private static void ricksZeroToTwo() {
        due.part("ricks 0 to 2");
        for (int rick : new int[] {MIN, -1, 3, MAX}) {
            LeaningRicks x = Calls.with(0, 1);
            due.is("put(" + rick + ", 1, 1)", x.put(rick, 1, 1), NONE);
            due.is("rickOf(" + rick + ", 0)", x.rickOf(rick, 0), NONE);
        }
        LeaningRicks x = new LeaningRicks();
        for (int rick = 0; rick <= 2; rick++) {
            due.is("put(" + rick + ", 1, 1)", x.put(rick, 1, 1), 0);
            due.is("rickOf(" + rick + ", 0)", x.rickOf(rick, 0), 1);
        }
        due.is("account(0)", x.account(0), 3);
    }

    // "In each are at most 30 sheaves"
    private static void atMostThirty() {
        due.part("at most 30 sheaves");
        LeaningRicks x = new LeaningRicks();
        for (int rick = 0; rick <= 2; rick++) {
            Calls.putRow(x, rick, 100, 29);
            due.is("rickOf(" + rick + ", 0)", x.rickOf(rick, 0), 29);
            due.is("the 30th is put", x.put(rick, 5, 1) >= 0 ? 1 : 0, 1);
            due.is("the 31st", x.put(rick, 6, 1), REFUSED);
            due.is("rickOf(" + rick + ", 0)", x.rickOf(rick, 0), 30);
        }
        due.is("account(0)", x.account(0), 90);
    }

    // "each with a weight from 0 to 999"
    private static void weightsToNineHundredAndNinetyNine() {
        due.part("weights from 0 to 999");
        LeaningRicks x = new LeaningRicks();
        for (int weight : new int[] {MIN, -1, 1000, MAX}) {
            due.is("put(0, " + weight + ", 1)", x.put(0, weight, 1), BAD);
        }
        due.is("put(0, 0, 1)", x.put(0, 0, 1), 0);
        due.is("put(0, 999, 1)", x.put(0, 999, 1), 0);
        due.is("at(0, 0)", x.at(0, 0), 0);
        due.is("at(0, 1)", x.at(0, 1), 999);
    }

    // "no two of one rick with the same"
    private static void noTwoTheSame() {
        due.part("no two with the same weight");
        for (int weight : new int[] {0, 500, 999}) {
            LeaningRicks x = Calls.with(1, weight);
            due.is("put(1, " + weight + ", 1)", x.put(1, weight, 1), REFUSED);
            due.is("put(0, " + weight + ", 1)", x.put(0, weight, 1), 0);
            due.is("put(2, " + weight + ", 1)", x.put(2, weight, 1), 0);
            due.is("account(0)", x.account(0), 3);
        }
    }

    // "and a load from 1 to 99"
    private static void loadsToNinetyNine() {
        due.part("loads from 1 to 99");
        LeaningRicks x = new LeaningRicks();
        for (int load : new int[] {MIN, -1, 0, 100, MAX}) {
            due.is("put(0, 5, " + load + ")", x.put(0, 5, load), BAD);
        }
        due.is("put(0, 5, 1)", x.put(0, 5, 1), 0);
        due.is("put(0, 6, 99)", x.put(0, 6, 99), 0);
        due.is("rickOf(0, 1)", x.rickOf(0, 1), 100);
    }

    // "to the left below a sheaf are only lighter ones, to the right below it only heavier ones"
    private static void lighterToTheLeft() {
        due.part("lighter ones to the left");
        LeaningRicks x = Calls.with(0, 500, 0, 999, 499, 501);
        due.tells(x, 0, "((0(499))500((501)999))");
        x.take(0, 500);
        due.tells(x, 0, "((0(499))501(999))");
    }

    // "The part of a sheaf is this one and all that are below it. The depth of a sheaf is how many
    // sheaves are above it."
    private static void partAndDepth() {
        due.part("parts and depths");
        LeaningRicks x = Calls.with(0, 500);
        due.is("the part of the only one", x.sheafOf(0, 500, 2), 1);
        due.is("the depth of the only one", x.sheafOf(0, 500, 1), 0);
        Calls.putAll(x, 0, 400, 300);
        due.is("the part of the top", x.sheafOf(0, 500, 2), 3);
        due.is("the part of the middle one", x.sheafOf(0, 400, 2), 2);
        due.is("the part of the lowest", x.sheafOf(0, 300, 2), 1);
        due.is("the depth of the top", x.sheafOf(0, 500, 1), 0);
        due.is("the depth of the lowest", x.sheafOf(0, 300, 1), 2);
    }

    private static void leaning() {
        limitFromFiftyFiveToNinety();
        limitAtFirstSeventy();
        moreThanTheLimit();
        moreThanTheLowestAndTheHighestLimit();
        noneBelowDoesNotLean();
        builtAnewInTheMiddle();
        depthThatSheavesMayHave();
    }

    // "There is a limit from 55 to 90"
    private static void limitFromFiftyFiveToNinety() {
        due.part("a limit from 55 to 90");
        LeaningRicks x = new LeaningRicks();
        for (int limit : new int[] {MIN, -70, 0, 54, 91, MAX}) {
            due.is("limit(" + limit + ")", x.limit(limit), BAD);
        }
        due.is("limit(55)", x.limit(55), 70);
        due.is("limit(90)", x.limit(90), 55);
        due.is("account(8)", x.account(8), 90);
    }

    // "at first 70"
    private static void limitAtFirstSeventy() {
        due.part("at first 70");
        due.is("account(8)", new LeaningRicks().account(8), 70);
        due.is("limit(71)", new LeaningRicks().limit(71), 70);
    }

    // "A sheaf leans if 100 times the sheaves of the part of one just below it are more than the
    // limit times the sheaves of its own part."
    private static void moreThanTheLimit() {
        due.part("more than the limit");
        for (int[] weights : new int[][] {{10, 30, 20, 40}, {30, 10, 20, 5}}) {
            LeaningRicks x = Calls.with(0, weights);
            // 3 of 4: 300 is not more than 75 * 4, but more than 74 * 4
            x.limit(75);
            due.is("sheafOf(0, top, 4), limit 75", x.sheafOf(0, weights[0], 4), 0);
            due.is("rickOf(0, 6), limit 75", x.rickOf(0, 6), 0);
            x.limit(74);
            due.is("sheafOf(0, top, 4), limit 74", x.sheafOf(0, weights[0], 4), 1);
            due.is("rickOf(0, 6), limit 74", x.rickOf(0, 6), 1);
        }
    }

    // the same sentence at both ends of the limit
    private static void moreThanTheLowestAndTheHighestLimit() {
        due.part("more than the lowest and the highest limit");
        LeaningRicks x = Calls.with(0, 1, 2);
        // 1 of 2: 100 is not more than 55 * 2
        x.limit(55);
        due.is("sheafOf(0, 1, 4)", x.sheafOf(0, 1, 4), 0);
        // 2 of 3: 200 is more than 55 * 3
        x.put(0, 3, 1);
        due.is("sheafOf(0, 2, 4), with both sides", x.sheafOf(0, 2, 4), 0);
        LeaningRicks y = new LeaningRicks();
        y.limit(90);
        Calls.putRow(y, 0, 1, 10);
        // 9 of 10: 900 is not more than 90 * 10, but more than 89 * 10
        due.is("sheafOf(0, 1, 2)", y.sheafOf(0, 1, 2), 10);
        due.is("sheafOf(0, 1, 4), limit 90", y.sheafOf(0, 1, 4), 0);
        y.limit(89);
        due.is("sheafOf(0, 1, 4), limit 89", y.sheafOf(0, 1, 4), 1);
        y.limit(55);
        // 2 of 3: 200 is more than 165; 1 of 2 is not, and the lowest has none below it
        due.is("sheafOf(0, 8, 4), limit 55", y.sheafOf(0, 8, 4), 1);
        due.is("sheafOf(0, 9, 4), limit 55", y.sheafOf(0, 9, 4), 0);
        due.is("rickOf(0, 6), limit 55", y.rickOf(0, 6), 8);
    }

    // the same sentence where none is just below
    private static void noneBelowDoesNotLean() {
        due.part("none below does not lean");
        LeaningRicks x = Calls.with(0, 7);
        x.limit(55);
        due.is("sheafOf(0, 7, 4)", x.sheafOf(0, 7, 4), 0);
        due.is("rickOf(0, 6)", x.rickOf(0, 6), 0);
        due.is("rickOf(1, 6), without sheaves", x.rickOf(1, 6), 0);
    }

    // "of some sheaves the one in the middle, of two in the middle the lighter one, is on top, and
    // those that are lighter and those that are heavier are below it, made likewise"
    private static void builtAnewInTheMiddle() {
        due.part("built anew in the middle");
        String[] made = {"(1)", "(1(2))", "((1)2(3))", "((1)2(3(4)))", "((1(2))3(4(5)))",
            "((1(2))3((4)5(6)))", "(((1)2(3))4((5)6(7)))", "(((1)2(3))4((5)6(7(8))))"};
        for (int sheaves = 1; sheaves <= made.length; sheaves++) {
            LeaningRicks x = new LeaningRicks();
            Calls.putRow(x, 0, 1, sheaves);
            x.build(0);
            due.tells(x, 0, made[sheaves - 1]);
        }
        LeaningRicks x = new LeaningRicks();
        Calls.putRow(x, 2, 900, 30);
        x.build(2);
        due.is("shape of 30", x.shape(2), Long.parseLong(halves(30), 2));
    }

    private static String halves(int sheaves) {
        int lighter = (sheaves - 1) / 2;
        return sheaves == 0 ? "0" : "1" + halves(lighter) + halves(sheaves - 1 - lighter);
    }

    // "The depth that sheaves may have is how often their number can be multiplied with the limit,
    // and divided by 100, until it would be 0."
    private static void depthThatSheavesMayHave() {
        due.part("the depth that sheaves may have");
        // for 1, 2, 3, 4, .. sheaves with the limits 55, 70 and 90
        int[][] depths = {{55, 0, 1, 1, 2, 2, 2, 2, 3}, {70, 0, 1, 2, 2, 3, 3, 3, 4},
            {90, 0, 1, 2, 3, 4, 5, 6, 7}};
        for (int[] row : depths) {
            LeaningRicks x = new LeaningRicks();
            x.limit(row[0]);
            for (int sheaves = 1; sheaves < row.length; sheaves++) {
                x.put(0, sheaves, 1);
                due.is("rickOf(0, 4) of " + sheaves + ", limit " + row[0], x.rickOf(0, 4),
                        row[sheaves]);
            }
        }
        // 30, 16, 8, 4, 2, 1; 30, 21, 14, 9, 6, 4, 2, 1; 30, 27, 24, 21, 18, 16, 14, 12, 10, 9, ..
        int[][] ofThirty = {{55, 5}, {70, 7}, {90, 17}};
        for (int[] row : ofThirty) {
            LeaningRicks x = new LeaningRicks();
            Calls.putRow(x, 0, 1, 30);
            x.limit(row[0]);
            due.is("rickOf(0, 4) of 30, limit " + row[0], x.rickOf(0, 4), row[1]);
        }
    }

    private static void putting() {
        whereNoneIsYet();
        noDeeperThanItMayBe();
        firstThatLeansAsOneGoesUp();
        partInTheMiddleOfTheRick();
        noneThatLeans();
    }

    // "A sheaf is put where none is yet, as one goes down from the top, to the left of a heavier
    // one and to the right of a lighter one."
    private static void whereNoneIsYet() {
        due.part("where none is yet");
        LeaningRicks x = new LeaningRicks();
        x.put(0, 50, 1);
        due.tells(x, 0, "(50)");
        x.put(0, 49, 1);
        due.tells(x, 0, "((49)50)");
        x.put(0, 51, 1);
        due.tells(x, 0, "((49)50(51))");
        x.put(0, 0, 1);
        due.tells(x, 0, "(((0)49)50(51))");
        x.put(0, 999, 1);
        due.tells(x, 0, "(((0)49)50(51(999)))");
    }

    // "If its depth is more than the sheaves of the rick may have then, it is too deep"
    private static void noDeeperThanItMayBe() {
        due.part("too deep");
        // three may have the depth 2, and four, too
        LeaningRicks x = Calls.with(0, 1, 2);
        due.is("put(0, 3, 1), as deep as it may be", x.put(0, 3, 1), 0);
        due.is("put(0, 4, 1), one too deep", x.put(0, 4, 1), 4);
        // with the limit 55 three may have 1
        LeaningRicks y = Calls.with(0, 1, 2);
        y.limit(55);
        due.is("put(0, 3, 1), limit 55", y.put(0, 3, 1), 3);
        due.tells(y, 0, "((1)2(3))");
        // with the limit 90 ten may have 9, and eleven (11, 9, 8, .. 1) no more than that
        LeaningRicks z = new LeaningRicks();
        z.limit(90);
        for (int weight = 1; weight <= 10; weight++) {
            due.is("put(0, " + weight + ", 1), limit 90", z.put(0, weight, 1), 0);
        }
        due.is("rickOf(0, 3)", z.rickOf(0, 3), 9);
        // 10 of 11 are below the top: 1000 is more than 990; 9 of 10 below the next are not
        due.is("put(0, 11, 1), limit 90", z.put(0, 11, 1), 11);
    }

    // "then the first sheaf that leans, as one goes up from it, is looked for, and its part is
    // built anew"
    private static void firstThatLeansAsOneGoesUp() {
        due.part("the first that leans");
        LeaningRicks x = new LeaningRicks();
        x.limit(90);
        Calls.putRow(x, 0, 1, 7);
        x.limit(70);
        // 1 to 5 lean, as 300 is more than 70 * 4; 6 (200, 210) and 7 do not once 8 is there
        due.is("put(0, 8, 1)", x.put(0, 8, 1), 4);
        due.tells(x, 0, "(1!(2!(3!(4!((5)6(7(8)))))))");
        due.is("account(4)", x.account(4), 1);
        due.is("account(6)", x.account(6), 4);
    }

    // the same sentence for a part with others on both sides
    private static void partInTheMiddleOfTheRick() {
        due.part("a part in the middle");
        LeaningRicks x = Calls.with(0, 500, 100, 900, 50, 200, 800, 950, 300);
        due.tells(x, 0, "(((50)100(200(300)))500((800)900(950)))");
        // nine may have 4 (9, 6, 4, 2, 1): 400 has 4, and 350 would have 5 of ten (10, 7, 4, 2, 1)
        due.is("put(0, 400, 1)", x.put(0, 400, 1), 0);
        // 400: 1 of 2; 300: 2 of 3; 200: 3 of 4 leans
        due.is("put(0, 350, 1)", x.put(0, 350, 1), 4);
        due.tells(x, 0, "(((50)100((200)300(350(400))))500((800)900(950)))");
        due.is("sheafOf(0, 300, 5)", x.sheafOf(0, 300, 5), 100);
    }

    // "if none leans, nothing is": this cannot come about, as each part that does not lean has at
    // most the limit's share of the one above; so each put builds anew where it is too deep
    private static void noneThatLeans() {
        due.part("none that leans");
        for (int limit = 55; limit <= 90; limit++) {
            LeaningRicks x = new LeaningRicks();
            x.limit(limit);
            for (int i = 0; i < 30; i++) {
                int built = x.put(0, i, 1);
                boolean isTooDeep = x.rickOf(0, 3) > x.rickOf(0, 4);
                due.is("put(0, " + i + ", 1), limit " + limit, built == 0 && isTooDeep ? 1 : 0, 0);
            }
        }
    }

    private static void taking() {
        noneBelow();
        onlyToOneSide();
        lightestToTheRight();
        lightestToTheRightTakenLikewise();
        theMost();
        lessThanTheLimit();
        lessThanTheLowestAndTheHighestLimit();
        builtAnewAsAWholeByTaking();
        wholeSetsTheMost();
        partDoesNotSetTheMost();
    }

    // "A sheaf below which is none .. is taken by letting what is below it take its place"
    private static void noneBelow() {
        due.part("taken, none below");
        LeaningRicks x = Calls.with(0, 50, 20, 80, 10, 30);
        x.limit(55);
        x.take(0, 10);
        due.tells(x, 0, "((20(30))50(80))");
        x.take(0, 30);
        due.tells(x, 0, "((20)50(80))");
        due.is("account(5)", x.account(5), 0);
        LeaningRicks y = Calls.with(0, 50);
        y.take(0, 50);
        due.tells(y, 0, "");
        due.is("rickOf(0, 2)", y.rickOf(0, 2), NOTHING);
    }

    // "or only to one side"
    private static void onlyToOneSide() {
        due.part("taken, only to one side");
        LeaningRicks left = Calls.with(0, 50, 80, 20, 30, 10);
        left.limit(55);
        left.take(0, 80);
        left.take(0, 50);
        due.tells(left, 0, "((10)20(30))");
        due.is("account(5)", left.account(5), 0);
        LeaningRicks right = Calls.with(0, 50, 20, 80, 70, 90);
        right.limit(55);
        right.take(0, 20);
        right.take(0, 50);
        due.tells(right, 0, "((70)80(90))");
        due.is("account(5)", right.account(5), 0);
        LeaningRicks inside = Calls.with(0, 50, 20, 80, 10, 30, 70, 5, 60);
        inside.take(0, 80);
        due.tells(inside, 0, "((((5)10)20(30))50((60)70))");
        due.is("account(5)", inside.account(5), 0);
    }

    // "If there are some to both sides, the lightest one to the right takes its place"
    private static void lightestToTheRight() {
        due.part("taken, some to both sides");
        LeaningRicks next = Calls.with(0, 50, 20, 80);
        next.limit(55);
        next.take(0, 50);
        due.tells(next, 0, "((20)80)");
        due.is("account(5)", next.account(5), 0);
        LeaningRicks deep = Calls.with(0, 50, 20, 80, 10, 30, 70, 90, 60);
        deep.take(0, 50);
        due.tells(deep, 0, "(((10)20(30))60((70)80(90)))");
        deep.take(0, 20);
        due.tells(deep, 0, "(((10)30)60((70)80(90)))");
        due.is("account(5)", deep.account(5), 0);
    }

    // "having been taken from its own likewise"
    private static void lightestToTheRightTakenLikewise() {
        due.part("taken, the heir likewise");
        LeaningRicks x = Calls.with(0, 50, 20, 80, 10, 30, 60, 90, 70);
        due.tells(x, 0, "(((10)20(30))50((60(70))80(90)))");
        x.take(0, 50);
        due.tells(x, 0, "(((10)20(30))60((70)80(90)))");
        LeaningRicks y = Calls.with(0, 50, 20, 60, 10, 30, 80, 70, 90);
        due.tells(y, 0, "(((10)20(30))50(60!((70)80(90))))");
        y.take(0, 50);
        due.tells(y, 0, "(((10)20(30))60((70)80(90)))");
        due.is("account(5)", x.account(5) + y.account(5), 0);
    }

    // "The most of a rick are the most sheaves that it had since it was built anew as a whole the
    // last time, as it was then counted."
    private static void theMost() {
        due.part("the most");
        LeaningRicks x = new LeaningRicks();
        x.limit(55);
        due.is("without sheaves", x.rickOf(0, 5), 0);
        Calls.putRow(x, 0, 1, 5);
        due.is("of 5", x.rickOf(0, 5), 5);
        x.take(0, 1);
        x.take(0, 2);
        due.is("of 3 that were 5", x.rickOf(0, 5), 5);
        x.build(0);
        due.is("of 3, built anew", x.rickOf(0, 5), 3);
        x.put(0, 1, 1);
        due.is("of 4, since then", x.rickOf(0, 5), 4);
        x.take(0, 1);
        due.is("of 3 that were 4 since then", x.rickOf(0, 5), 4);
    }

    // "If 100 times its sheaves are less than the limit times its most then, it is built anew as a
    // whole, and its most are its sheaves."
    private static void lessThanTheLimit() {
        due.part("less than the limit");
        LeaningRicks x = new LeaningRicks();
        Calls.putRow(x, 0, 1, 10);
        x.take(0, 1);
        x.take(0, 2);
        x.take(0, 3);
        due.is("account(5), 700 of 70 * 10", x.account(5), 0);
        due.is("rickOf(0, 5)", x.rickOf(0, 5), 10);
        x.take(0, 10);
        due.is("account(5), 600 of 70 * 10", x.account(5), 1);
        due.is("rickOf(0, 5)", x.rickOf(0, 5), 6);
        due.tells(x, 0, "((4(5))6((7)8(9)))");
        // 67 * 30 are 2010: 2100 are not less, and 2000 only a little
        LeaningRicks y = new LeaningRicks();
        Calls.putRow(y, 0, 1, 30);
        y.limit(67);
        for (int i = 1; i <= 9; i++) {
            y.take(0, i);
        }
        due.is("account(5), 2100 of 67 * 30", y.account(5), 0);
        y.take(0, 10);
        due.is("account(5), 2000 of 67 * 30", y.account(5), 1);
    }

    // the same sentence at both ends of the limit
    private static void lessThanTheLowestAndTheHighestLimit() {
        due.part("less than the lowest and the highest limit");
        LeaningRicks x = new LeaningRicks();
        Calls.putRow(x, 0, 1, 20);
        x.limit(55);
        for (int i = 20; i > 11; i--) {
            x.take(0, i);
        }
        due.is("account(5), 1100 of 55 * 20", x.account(5), 0);
        x.take(0, 11);
        due.is("account(5), 1000 of 55 * 20", x.account(5), 1);
        LeaningRicks y = new LeaningRicks();
        Calls.putRow(y, 0, 1, 10);
        y.limit(90);
        y.take(0, 1);
        due.is("account(5), 900 of 90 * 10", y.account(5), 0);
        y.take(0, 2);
        due.is("account(5), 800 of 90 * 10", y.account(5), 1);
        due.is("rickOf(0, 5)", y.rickOf(0, 5), 8);
    }

    // the same sentence: it is told that the rick is built anew after the sheaf has been taken
    private static void builtAnewAsAWholeByTaking() {
        due.part("built anew as a whole by taking");
        LeaningRicks x = new LeaningRicks();
        x.limit(90);
        Calls.putRow(x, 0, 1, 4);
        due.is("take(0, 1)", x.take(0, 1), 1);
        due.tells(x, 0, "((2)3(4))");
        due.is("account(4)", x.account(4), 0);
        due.is("account(6)", x.account(6), 3);
    }

    // "Being built anew as a whole sets the most, also by build and by pouring"
    private static void wholeSetsTheMost() {
        due.part("a whole sets the most");
        LeaningRicks x = new LeaningRicks();
        x.limit(55);
        Calls.putRow(x, 0, 1, 7);
        x.take(0, 7);
        x.take(0, 6);
        due.is("rickOf(0, 5), ahead of build", x.rickOf(0, 5), 7);
        x.build(0);
        due.is("rickOf(0, 5), by build", x.rickOf(0, 5), 5);
        x.take(0, 5);
        x.take(0, 4);
        x.put(1, 50, 1);
        due.is("rickOf(0, 5), ahead of pour", x.rickOf(0, 5), 5);
        x.pour(1, 0);
        due.is("rickOf(0, 5), by pour", x.rickOf(0, 5), 4);
    }

    // "a part that is the whole does not"
    private static void partDoesNotSetTheMost() {
        due.part("a part does not set the most");
        LeaningRicks x = new LeaningRicks();
        x.limit(90);
        Calls.putRow(x, 0, 1, 7);
        x.limit(55);
        x.take(0, 1);
        x.take(0, 2);
        x.limit(80);
        // 8 is too deep, and the top is the first that leans: 500 is more than 80 * 6
        due.tells(x, 0, "(3(4(5(6(7)))))");
        due.is("put(0, 8, 1), all six", x.put(0, 8, 1), 6);
        due.is("rickOf(0, 0)", x.rickOf(0, 0), 6);
        due.is("rickOf(0, 5)", x.rickOf(0, 5), 7);
        due.is("account(5)", x.account(5), 0);
    }

    private static void pouring() {
        sheavesOfBoth();
        pouredAway();
    }

    // "the other one has the sheaves of both, and is built anew as a whole"
    private static void sheavesOfBoth() {
        due.part("the sheaves of both");
        LeaningRicks x = Calls.with(0, 999, 0);
        Calls.putAll(x, 2, 1, 998);
        due.is("pour(0, 2)", x.pour(0, 2), 4);
        due.tells(x, 2, "((0)1(998(999)))");
        due.is("account(5)", x.account(5), 1);
        LeaningRicks empty = Calls.with(1, 3, 2, 1);
        due.is("pour(1, 0) into one without sheaves", empty.pour(1, 0), 3);
        due.tells(empty, 0, "((1)2(3))");
        LeaningRicks full = new LeaningRicks();
        Calls.putRow(full, 0, 0, 15);
        Calls.putRow(full, 1, 985, 15);
        due.is("pour(0, 1), 30 then", full.pour(0, 1), 30);
        due.is("shape(1)", full.shape(1), Long.parseLong(halves(30), 2));
    }

    // "the first one has none, and its most are 0"
    private static void pouredAway() {
        due.part("poured away");
        LeaningRicks x = Calls.with(0, 1, 2, 3);
        x.pour(0, 1);
        int[] numbers = {0, 0, NOTHING, -1, 0, 0, 0, 0, 0};
        for (int what = 0; what < numbers.length; what++) {
            due.is("rickOf(0, " + what + ")", x.rickOf(0, what), numbers[what]);
        }
        due.is("shape(0)", x.shape(0), 0);
        due.is("put(0, 9, 1)", x.put(0, 9, 1), 0);
        due.is("rickOf(0, 5)", x.rickOf(0, 5), 1);
    }

    // "each on the cart that was loaded last, if its loads are not more than a cart bears then, and
    // on a new one otherwise"
    private static void carts() {
        due.part("carts");
        LeaningRicks x = new LeaningRicks();
        x.put(0, 10, 60);
        x.put(0, 20, 39);
        x.put(0, 30, 1);
        x.put(0, 40, 98);
        x.put(0, 50, 1);
        // 60 + 39 are 99, not more than 99; 1 more is; then 1 + 98 are 99, and 1 more is
        due.is("carts(0, 99)", x.carts(0, 99), 3);
        due.is("cartOf(0, 20, 99)", x.cartOf(0, 20, 99), 0);
        due.is("cartOf(0, 30, 99)", x.cartOf(0, 30, 99), 1);
        due.is("cartOf(0, 40, 99)", x.cartOf(0, 40, 99), 1);
        due.is("cartOf(0, 50, 99)", x.cartOf(0, 50, 99), 2);
        due.is("carts(0, 100)", x.carts(0, 100), 2);
        due.is("carts(0, 198)", x.carts(0, 198), 2);
        due.is("carts(0, 199)", x.carts(0, 199), 1);
        // an earlier cart with room is not loaded again
        LeaningRicks y = new LeaningRicks();
        y.put(0, 10, 50);
        y.put(0, 20, 99);
        y.put(0, 30, 1);
        due.is("carts(0, 99)", y.carts(0, 99), 3);
        due.is("cartOf(0, 30, 99)", y.cartOf(0, 30, 99), 2);
        due.is("cartOf(0, 30, 100)", y.cartOf(0, 30, 100), 1);
    }

    private static void bits() {
        each1And0();
        highestBitFirst();
        shapeWithoutSheaves();
    }

    // "as one goes from the top, each sheaf gives a 1, then comes what is to its left, then what is
    // to its right; where none is, there is a 0"
    private static void each1And0() {
        due.part("each 1 and 0");
        due.is("one", Calls.with(0, 5).shape(0), 0b100);
        due.is("one to the left", Calls.with(0, 5, 4).shape(0), 0b11000);
        due.is("one to the right", Calls.with(0, 5, 6).shape(0), 0b10100);
        due.is("both", Calls.with(0, 5, 4, 6).shape(0), 0b1100100);
        due.is("right, then left", Calls.with(0, 5, 9, 7).shape(0), 0b1011000);
    }

    // "the first bit told is the highest one"
    private static void highestBitFirst() {
        due.part("the highest bit first");
        for (int sheaves = 1; sheaves <= 30; sheaves++) {
            LeaningRicks x = new LeaningRicks();
            Calls.putRow(x, 0, 1, sheaves);
            due.is("highest bit of " + sheaves, Long.highestOneBit(x.shape(0)), 1L << 2 * sheaves);
            due.is("bits of " + sheaves, Long.bitCount(x.shape(0)), sheaves);
            due.is("lowest bits of " + sheaves, x.shape(0) & 3, 0);
        }
    }

    // "A rick without sheaves has the shape 0."
    private static void shapeWithoutSheaves() {
        due.part("the shape without sheaves");
        LeaningRicks x = Calls.with(1, 5);
        due.is("shape(0)", x.shape(0), 0);
        x.take(1, 5);
        due.is("shape(1)", x.shape(1), 0);
    }

    private static void texts() {
        oneOrMoreOrders();
        eachOrder();
        digits();
        faultAtEachCharacter();
        endsTooEarly();
        allOrNone();
    }

    // "A text has one or more orders with ";" between them"
    private static void oneOrMoreOrders() {
        due.part("one or more orders");
        due.is("none", new LeaningRicks().run(), -1000);
        due.is("one", Calls.runText(Calls.with(0, 1), "=0"), 1);
        due.is("two", Calls.runText(Calls.with(0, 1), "=0;=0"), 2);
        due.is("none behind", Calls.runText(Calls.with(0, 1), "=0;"), -1003);
        due.is("none between", Calls.runText(Calls.with(0, 1), "=0;;=0"), -1003);
        due.is("none ahead", Calls.runText(Calls.with(0, 1), ";=0"), -1000);
        due.is("nothing between", Calls.runText(Calls.with(0, 1), "=0=0"), -1002);
        LeaningRicks x = new LeaningRicks();
        due.is("as many as fit", Calls.runText(x, "%55;%56;%57;%58;%59;%60;%61;%62;%63;%64;"
                + "%65;%66;%67;%68;%69"), 15);
        due.is("account(8)", x.account(8), 69);
        due.is("the most of all", Calls.runText(Calls.with(0, 1), "=0;".repeat(19) + "=0"), 20);
    }

    // ""+", a rick, ":", a weight, "*", and a load puts a sheaf; "-", a rick, ":", and a weight takes
    // one; "=" and a rick builds it anew as a whole; ">", a rick, and another one, into which it is
    // poured; or "%" and the limit"
    private static void eachOrder() {
        due.part("each order");
        LeaningRicks x = new LeaningRicks();
        due.is("run of +", Calls.runText(x, "+0:5*7;+0:6*8;+0:7*9"), 3);
        due.tells(x, 0, "(5(6(7)))");
        due.is("sheafOf(0, 6, 0)", x.sheafOf(0, 6, 0), 8);
        due.is("run of =", Calls.runText(x, "=0"), 1);
        due.tells(x, 0, "((5)6(7))");
        due.is("run of -", Calls.runText(x, "-0:6"), 1);
        due.is("rickOf(0, 1)", x.rickOf(0, 1), 16);
        due.is("run of >", Calls.runText(x, ">02"), 1);
        due.is("rickOf(0, 0)", x.rickOf(0, 0), 0);
        due.is("rickOf(2, 0)", x.rickOf(2, 0), 2);
        due.is("run of %", Calls.runText(x, "%55"), 1);
        due.is("account(8)", x.account(8), 55);
    }

    // "Ricks have one digit, weights one to three, loads and limits one or two."
    private static void digits() {
        due.part("digits");
        String[] good = {"+2:0*1", "+2:00*1", "+2:000*1", "+2:999*99", "+2:9*01", "-1:5", "-1:05",
            "-1:005", "=1", ">12", "%55", "%90"};
        for (String text : good) {
            due.is("run of " + text, Calls.runText(Calls.with(1, 5), text), 1);
        }
        String[] tooMany = {"+22:1*1", "+2:1111*1", "+2:1*111", "-11:5", "-1:0005", "=11", ">122",
            "%055"};
        int[] faults = {2, 6, 7, 2, 6, 2, 3, 3};
        for (int i = 0; i < tooMany.length; i++) {
            due.is("run of " + tooMany[i], Calls.runText(Calls.with(1, 5), tooMany[i]),
                    -1000 - faults[i]);
        }
        String[] tooFew = {"+:1*1", "+2:*1", "+2:1*;", "-:5", "-1:;", "=;", ">;", ">1;", "%;"};
        int[] gaps = {1, 3, 5, 1, 3, 1, 1, 2, 1};
        for (int i = 0; i < tooFew.length; i++) {
            due.is("run of " + tooFew[i], Calls.runText(Calls.with(1, 5), tooFew[i]),
                    -1000 - gaps[i]);
        }
    }

    private static final String DIGITS = "0123456789";
    /** How a text can begin, and the characters with which it can go on then. */
    private static final String[][] BEGINNINGS = {
        {"", "+-=>%"}, {"+", DIGITS}, {"+0", ":"}, {"+0:", DIGITS}, {"+0:1", DIGITS + "*"},
        {"+0:12", DIGITS + "*"}, {"+0:123", "*"}, {"+0:1*", DIGITS}, {"+0:123*", DIGITS},
        {"+0:123*4", DIGITS + ";"}, {"+0:123*45", ";"}, {"-", DIGITS}, {"-0", ":"},
        {"-0:", DIGITS}, {"-0:1", DIGITS + ";"}, {"-0:12", DIGITS + ";"}, {"-0:123", ";"},
        {"=", DIGITS}, {"=0", ";"}, {">", DIGITS}, {">0", DIGITS}, {">01", ";"}, {"%", DIGITS},
        {"%5", DIGITS + ";"}, {"%55", ";"}, {"%55;", "+-=>%"}, {"-0:1;+9", ":"}};

    // "The fault position of a text is the index of its first character with which no such text can
    // continue"
    private static void faultAtEachCharacter() {
        due.part("the fault position");
        for (String[] row : BEGINNINGS) {
            int fault = -1000 - row[0].length();
            for (char code = 32; code <= 126; code++) {
                boolean goesOn = row[1].indexOf(code) >= 0;
                int answer = Calls.runText(new LeaningRicks(), row[0] + code);
                due.is("run of " + row[0] + code + ", faulty there", answer == fault ? 1 : 0,
                        goesOn ? 0 : 1);
                due.is("run of " + row[0] + code + "~~", Calls.runText(new LeaningRicks(),
                        row[0] + code + "~~"), goesOn ? fault - 1 : fault);
            }
        }
    }

    // "or its length if it ends too early"
    private static void endsTooEarly() {
        due.part("ends too early");
        String[] early = {"", "+", "+0", "+0:", "+0:1", "+0:12", "+0:123", "+0:1*", "-", "-0", "-0:",
            "=", ">", ">0", "%", "%60;", "=0;=0;", "%60;+0:1*"};
        for (String text : early) {
            due.is("run of " + text, Calls.runText(Calls.with(0, 1), text), -1000 - text.length());
        }
        String full = "%60;".repeat(14) + "%61;";
        due.is("run of 60 characters", Calls.runText(new LeaningRicks(), full), -1060);
        due.is("run of 59 characters and a fault",
                Calls.runText(new LeaningRicks(), full.substring(0, 59) + "1"), -1059);
    }

    // "The orders are carried out one after the other, all or none."
    private static void allOrNone() {
        due.part("all or none");
        LeaningRicks x = Calls.with(0, 5);
        due.is("each after the other", Calls.runText(x, "-0:5;+0:5*9;+1:6*1;>10;%80"), 5);
        due.is("sheafOf(0, 5, 0)", x.sheafOf(0, 5, 0), 9);
        due.is("rickOf(0, 0)", x.rickOf(0, 0), 2);
        String before = Calls.state(x);
        due.is("all but the last", Calls.runText(x, "-0:5;+0:7*9;+1:6*1;=0;%70;>12;%70"), REFUSED);
        due.isText("the state", Calls.state(x), before);
        due.is("a wrong text", Calls.runText(x, "-0:5;+0:7*9;x"), -1012);
        due.isText("the state", Calls.state(x), before);
    }

    private static void reasons() {
        reason1();
        reason2();
        reason3();
        reason4();
        reason5();
        reason6();
        firstOfTheReasons();
    }

    // "1, there are 30 sheaves, or would be more: how many there are, or would be"
    private static void reason1() {
        due.part("reason 1");
        LeaningRicks x = new LeaningRicks();
        Calls.putRow(x, 0, 1, 30);
        due.refused(x, "put(0, 31, 1)", x.put(0, 31, 1), 1, 30);
        Calls.putRow(x, 1, 101, 1);
        due.refused(x, "pour(1, 0)", x.pour(1, 0), 1, 31);
        Calls.putRow(x, 1, 102, 29);
        due.refused(x, "pour(0, 1)", x.pour(0, 1), 1, 60);
    }

    // "2, there is a sheaf with this weight: the weight, the lowest such one of several"
    private static void reason2() {
        due.part("reason 2");
        LeaningRicks x = Calls.with(0, 0, 999, 7, 8);
        due.refused(x, "put(0, 0, 1)", x.put(0, 0, 1), 2, 0);
        due.refused(x, "put(0, 999, 1)", x.put(0, 999, 1), 2, 999);
        Calls.putAll(x, 1, 999, 8, 7, 1);
        due.refused(x, "pour(1, 0)", x.pour(1, 0), 2, 7);
        due.refused(x, "pour(0, 1)", x.pour(0, 1), 2, 7);
        x.take(0, 7);
        due.refused(x, "pour(0, 1)", x.pour(0, 1), 2, 8);
        x.put(1, 0, 1);
        due.refused(x, "pour(0, 1)", x.pour(0, 1), 2, 0);
    }

    // "3, both ricks are one: the rick"
    private static void reason3() {
        due.part("reason 3");
        for (int rick = 0; rick <= 2; rick++) {
            LeaningRicks x = Calls.with(rick, 5);
            due.refused(x, "pour", x.pour(rick, rick), 3, rick);
        }
    }

    // "4, it is so already: the limit"
    private static void reason4() {
        due.part("reason 4");
        LeaningRicks x = new LeaningRicks();
        due.refused(x, "limit(70)", x.limit(70), 4, 70);
        x.limit(55);
        due.refused(x, "limit(55)", x.limit(55), 4, 55);
        x.limit(90);
        due.refused(x, "limit(90)", x.limit(90), 4, 90);
        x.undo();
        due.refused(x, "limit(55)", x.limit(55), 4, 55);
    }

    // "5, the rick has no sheaves: the rick"
    private static void reason5() {
        due.part("reason 5");
        for (int rick = 0; rick <= 2; rick++) {
            LeaningRicks x = Calls.with((rick + 1) % 3, 5);
            due.refused(x, "build", x.build(rick), 5, rick);
            due.refused(x, "pour", x.pour(rick, (rick + 1) % 3), 5, rick);
        }
    }

    // "6, an order cannot be carried out: its number, from 0"
    private static void reason6() {
        due.part("reason 6");
        LeaningRicks x = Calls.with(0, 5);
        due.refused(x, "the first", Calls.runText(x, "=1;=0"), 6, 0);
        due.refused(x, "the second", Calls.runText(x, "=0;=1;=0"), 6, 1);
        String twenty = "=0;".repeat(19) + "=1";
        due.refused(x, "the twentieth", Calls.runText(x, twenty), 6, 19);
        due.refused(x, "the first of two", Calls.runText(x, "=0;=1;=2"), 6, 1);
        // an order that could have been carried out without the one ahead of it
        due.refused(x, "because of another", Calls.runText(x, "-0:5;-0:5"), 6, 1);
        due.refused(x, "a sheaf that is not there", Calls.runText(x, "-0:6"), 6, 0);
        due.refused(x, "a rick that is not there", Calls.runText(x, ">03"), 6, 0);
    }

    // "Something is refused for the first of the reasons that its method names, in the order in
    // which it names them"
    private static void firstOfTheReasons() {
        due.part("the first of the reasons");
        LeaningRicks x = new LeaningRicks();
        Calls.putRow(x, 0, 1, 30);
        due.refused(x, "put, 2 ahead of 1", x.put(0, 30, 1), 2, 30);
        due.refused(x, "pour, 3 ahead of 5", x.pour(1, 1), 3, 1);
        due.refused(x, "pour, 3 ahead of 1 and 2", x.pour(0, 0), 3, 0);
        due.refused(x, "pour, 5 ahead of 1", x.pour(1, 0), 5, 1);
        x.put(1, 30, 1);
        due.refused(x, "pour, 1 ahead of 2", x.pour(1, 0), 1, 31);
    }

    private static void changes() {
        successfulCalls();
        codesAreNoChanges();
        nothingDifferent();
        theLatestEight();
        roundAndRound();
    }

    // "The changes are the successful calls of put, take, build, pour, limit and run"
    private static void successfulCalls() {
        due.part("successful calls");
        LeaningRicks x = new LeaningRicks();
        due.is("account(10)", x.account(10), 0);
        x.put(0, 1, 1);
        due.is("account(10), put", x.account(10), 1);
        x.put(0, 2, 1);
        x.take(0, 1);
        due.is("account(10), take", x.account(10), 3);
        x.build(0);
        due.is("account(10), build", x.account(10), 4);
        x.pour(0, 1);
        due.is("account(10), pour", x.account(10), 5);
        x.limit(71);
        due.is("account(10), limit", x.account(10), 6);
        Calls.runText(x, "=1;=1");
        due.is("account(10), run", x.account(10), 7);
        x.tell(1);
        x.save();
        x.append('5');
        due.is("account(10), no changes", x.account(10), 7);
    }

    // the same sentence for calls that are not successful
    private static void codesAreNoChanges() {
        due.part("codes are no changes");
        LeaningRicks x = Calls.with(0, 1);
        x.put(0, 1000, 1);
        x.put(0, 1, 1);
        x.take(0, 2);
        x.build(1);
        x.pour(0, 0);
        x.pour(0, 3);
        x.limit(91);
        x.limit(70);
        x.run();
        Calls.runText(x, "=0;=1");
        due.is("account(10)", x.account(10), 1);
        due.is("undo()", x.undo(), 0);
        due.is("account(0)", x.account(0), 0);
    }

    // "also those by which nothing is different"
    private static void nothingDifferent() {
        due.part("nothing different");
        LeaningRicks x = Calls.with(0, 1);
        due.is("build(0)", x.build(0), 0);
        due.is("account(10)", x.account(10), 2);
        Calls.runText(x, "%71;%70");
        due.is("account(10)", x.account(10), 3);
        due.is("undo()", x.undo(), 2);
        due.is("undo()", x.undo(), 1);
        due.is("account(0)", x.account(0), 1);
    }

    // "The latest 8 can be undone."
    private static void theLatestEight() {
        due.part("the latest 8");
        for (int changes = 7; changes <= 19; changes++) {
            LeaningRicks x = new LeaningRicks();
            Calls.putRow(x, 0, 1, changes);
            int kept = Math.min(changes, 8);
            due.is("account(10) of " + changes, x.account(10), kept);
            for (int i = 1; i <= kept; i++) {
                due.is("undo() " + i + " of " + changes, x.undo(), kept - i);
                due.is("rickOf(0, 0)", x.rickOf(0, 0), changes - i);
                due.is("at(0, last)", x.at(0, changes - i - 1), changes - i > 0 ? changes - i : NONE);
            }
            due.is("undo() beyond them", x.undo(), NOTHING);
            due.is("rickOf(0, 0), beyond them", x.rickOf(0, 0), changes - kept);
        }
    }

    // the same sentence where changes follow what was undone
    private static void roundAndRound() {
        due.part("round and round");
        for (int back = 1; back <= 8; back++) {
            LeaningRicks x = new LeaningRicks();
            Calls.putRow(x, 0, 1, 10);
            for (int round = 0; round < 5; round++) {
                for (int i = 1; i <= back; i++) {
                    due.is("undo()", x.undo(), 8 - i);
                }
                due.is("rickOf(0, 0)", x.rickOf(0, 0), 10 - back);
                for (int i = 1; i <= back; i++) {
                    x.put(0, 500 + i, 9);
                    due.is("account(10)", x.account(10), 8 - back + i);
                }
            }
            for (int i = 7; i >= 0; i--) {
                due.is("undo()", x.undo(), i);
                due.is("rickOf(0, 0)", x.rickOf(0, 0), i + 2);
            }
            due.is("rickOf(0, 1)", x.rickOf(0, 1), 2);
        }
    }

    private static void codes() {
        runEmptiesTheText();
        reasonsAreKept();
        theFirstCode();
        textLineAndReasonStay();
    }

    // "A call that returns a code leaves everything unchanged, except that run empties the text":
    // what each call leaves unchanged is asked in EdgeTests, promise by promise
    private static void runEmptiesTheText() {
        due.part("run empties the text");
        LeaningRicks x = new LeaningRicks();
        Calls.runText(x, "=0;;");
        due.is("account(9), wrong text", x.account(9), 0);
        Calls.runText(x, "=0");
        due.is("account(9), refused", x.account(9), 0);
        due.is("run()", x.run(), -1000);
        Calls.runText(x, "%71");
        due.is("account(9), carried out", x.account(9), 0);
        Calls.append(x, "0".repeat(60));
        x.run();
        due.is("append(48), after a full text", x.append(48), 1);
    }

    // "and that reasons are kept"
    private static void reasonsAreKept() {
        due.part("reasons are kept");
        LeaningRicks x = Calls.with(0, 1);
        due.refused(x, "put(0, 1, 1)", x.put(0, 1, 1), 2, 1);
        due.refused(x, "build(1)", x.build(1), 5, 1);
        due.refused(x, "pour(2, 2)", x.pour(2, 2), 3, 2);
        due.refused(x, "limit(70)", x.limit(70), 4, 70);
        due.refused(x, "run()", Calls.runText(x, "=0;=2"), 6, 1);
    }

    // "If several codes apply, the one that is listed first is returned."
    private static void theFirstCode() {
        due.part("the first code");
        LeaningRicks x = new LeaningRicks();
        Calls.putRow(x, 0, 1, 30);
        due.is("put, NONE and BAD", x.put(3, 1000, 0), NONE);
        due.is("put, BAD and REFUSED", x.put(0, 30, 100), BAD);
        due.is("put, BAD and REFUSED for 1", x.put(0, 50, 0), BAD);
        due.is("pour, NONE and REFUSED for 3", x.pour(3, 3), NONE);
        due.is("pour, NONE and REFUSED for 5", x.pour(1, 3), NONE);
        due.is("sheafOf, NONE and BAD", x.sheafOf(3, 1, 8), NONE);
        due.is("sheafOf, NONE of the sheaf and BAD", x.sheafOf(0, 31, 8), NONE);
        due.is("rickOf, NONE and BAD", x.rickOf(3, 9), NONE);
        due.is("carts, NONE and BAD", x.carts(3, 98), NONE);
        due.is("cartOf, NONE and BAD", x.cartOf(3, 1, 98), NONE);
        due.is("cartOf, NONE of the sheaf and BAD", x.cartOf(0, 31, 1000), NONE);
        due.is("reason(false)", x.reason(false), NOTHING);
        Calls.append(x, " ".repeat(60));
        due.is("append, BAD and FULL", x.append(127), BAD);
        due.is("append, FULL", x.append(126), FULL);
    }

    // "The text, the line, the reason and its detail are neither undone nor saved, and stay."
    private static void textLineAndReasonStay() {
        due.part("text, line and reason stay");
        LeaningRicks x = Calls.with(0, 1, 2);
        Calls.append(x, "=");
        x.tell(1);
        x.build(1);
        x.save();
        x.take(0, 2);
        Calls.append(x, "0");
        x.tell(0);
        x.limit(70);
        String before = Calls.besides(x);
        due.isText("all of them", before, "text 2 line (1) reason 4 70");
        x.undo();
        due.isText("undone", Calls.besides(x), before);
        x.restore();
        due.isText("restored", Calls.besides(x), before);
        due.is("run(), of the text that stayed", x.run(), 1);
    }

    private static void inDoubt() {
        askedWithTheSheaf();
        depthOfNone();
        mostAsOneIsPut();
        countedByTaking();
        lastOneTaken();
        pouredNeitherPutNorTaken();
        limitAndAccountsOfPouredAway();
        anyNumbersForRanks();
        lowAboveHigh();
        thoseThatStayedCount();
        zerosAhead();
        rangeAheadOfReasons();
    }

    // "The depth that sheaves may have is asked with the sheaf that was put"
    private static void askedWithTheSheaf() {
        due.part("asked with the sheaf");
        // two may have the depth 1, three with the limit 67 the depth 2, with 66 only 1
        LeaningRicks x = Calls.with(0, 1, 2);
        x.limit(67);
        due.is("put(0, 3, 1), 2 of three", x.put(0, 3, 1), 0);
        LeaningRicks y = Calls.with(0, 1);
        due.is("put(0, 2, 1), 1 of two", y.put(0, 2, 1), 0);
    }

    // "a number of 0 may have the depth 0"
    private static void depthOfNone() {
        due.part("the depth of none");
        LeaningRicks x = Calls.with(0, 1);
        due.is("rickOf(1, 4)", x.rickOf(1, 4), 0);
        x.limit(90);
        x.take(0, 1);
        due.is("rickOf(0, 4)", x.rickOf(0, 4), 0);
    }

    // "The most of a rick become its sheaves as one is put, if these are more."
    private static void mostAsOneIsPut() {
        due.part("the most as one is put");
        LeaningRicks x = Calls.with(0, 1, 2, 3, 4);
        due.is("rickOf(0, 5)", x.rickOf(0, 5), 4);
        x.take(0, 4);
        due.is("rickOf(0, 5), one taken", x.rickOf(0, 5), 4);
        x.put(0, 4, 1);
        due.is("rickOf(0, 5), as many", x.rickOf(0, 5), 4);
        x.put(0, 5, 1);
        due.is("rickOf(0, 5), more", x.rickOf(0, 5), 5);
    }

    // "If a rick is built anew as a whole by taking, its sheaves count among those built anew, and
    // it counts among the ricks."
    private static void countedByTaking() {
        due.part("counted by taking");
        LeaningRicks x = Calls.with(0, 1, 2, 3);
        due.is("account(6)", x.account(6), 0);
        x.take(0, 2);
        due.is("account(5), 200 is less than 210", x.account(5), 1);
        due.is("account(6)", x.account(6), 2);
        due.is("account(4)", x.account(4), 0);
    }

    // "A rick of which the last sheaf is taken is built anew as a whole, too, with none."
    private static void lastOneTaken() {
        due.part("the last one taken");
        LeaningRicks x = Calls.with(0, 1);
        x.limit(55);
        x.take(0, 1);
        due.is("account(5)", x.account(5), 1);
        due.is("account(6)", x.account(6), 0);
        due.is("rickOf(0, 5)", x.rickOf(0, 5), 0);
    }

    // "Sheaves that are poured are neither put nor taken."
    private static void pouredNeitherPutNorTaken() {
        due.part("poured");
        LeaningRicks x = Calls.with(0, 1, 2);
        Calls.putAll(x, 1, 3);
        x.pour(0, 1);
        due.is("account(2)", x.account(2), 3);
        due.is("account(3)", x.account(3), 0);
        due.is("isBalanced()", x.isBalanced(), 1);
    }

    // "Of a rick that is poured away, the limit and accounts stay."
    private static void limitAndAccountsOfPouredAway() {
        due.part("poured away, limit and accounts");
        LeaningRicks x = Calls.with(0, 1, 2, 3, 4);
        x.take(0, 4);
        x.limit(80);
        x.pour(0, 1);
        int[] accounts = {3, 3, 4, 1, 1, 1, 7, 1, 80, 0, 7};
        for (int what = 0; what < accounts.length; what++) {
            due.is("account(" + what + ")", x.account(what), accounts[what]);
        }
    }

    // "Weights that are asked for ranks and loads can be any numbers"
    private static void anyNumbersForRanks() {
        due.part("any numbers");
        LeaningRicks x = Calls.with(0, 0, 999);
        int[][] ranks = {{MIN, 0}, {-1, 0}, {0, 0}, {1, 1}, {999, 1}, {1000, 2}, {MAX, 2}};
        for (int[] row : ranks) {
            due.is("rank(0, " + row[0] + ")", x.rank(0, row[0]), row[1]);
            due.is("rankAgain(0, " + row[0] + ")", x.rankAgain(0, row[0]), row[1]);
            due.is("between(0, MIN, " + row[0] + ")", x.between(0, MIN, row[0]),
                    row[1] + (row[0] == 0 || row[0] == 999 ? 1 : 0));
            due.is("betweenAgain(0, MIN, " + row[0] + ")", x.betweenAgain(0, MIN, row[0]),
                    row[1] + (row[0] == 0 || row[0] == 999 ? 1 : 0));
            due.is("between(0, .., MAX)", x.between(0, row[0], MAX), 2 - row[1]);
            due.is("betweenAgain(0, .., MAX)", x.betweenAgain(0, row[0], MAX), 2 - row[1]);
        }
    }

    // "if the low one is above the high one, the loads are 0"
    private static void lowAboveHigh() {
        due.part("the low one above the high one");
        LeaningRicks x = Calls.with(0, 10, 20, 30);
        int[][] asked = {{30, 10}, {20, 19}, {21, 20}, {MAX, MIN}, {MAX, MAX - 1}, {MIN + 1, MIN}};
        for (int[] row : asked) {
            due.is("between", x.between(0, row[0], row[1]), 0);
            due.is("betweenAgain", x.betweenAgain(0, row[0], row[1]), 0);
        }
        due.is("between, both one", x.between(0, 20, 20), 1);
        due.is("betweenAgain, both one", x.betweenAgain(0, 20, 20), 1);
    }

    // "Sheaves of a part that is built anew count as such, also those that stay where they were."
    private static void thoseThatStayedCount() {
        due.part("those that stayed");
        LeaningRicks x = Calls.with(0, 2, 1, 3);
        due.is("build(0), all stay", x.build(0), 0);
        due.is("account(6)", x.account(6), 3);
        LeaningRicks y = Calls.with(0, 10, 0, 50, 60, 40, 30);
        due.tells(y, 0, "((0)10(((30)40)50(60)))");
        // 20 is too deep, and the top is the first that leans: 50 and 60 are where they were then
        due.is("put(0, 20, 1)", y.put(0, 20, 1), 7);
        due.tells(y, 0, "(((0)10(20))30((40)50(60)))");
        due.is("account(6), seven built anew", y.account(6), 7);
    }

    // "A weight that is told as a number of a text can have zeros ahead."
    private static void zerosAhead() {
        due.part("zeros ahead");
        LeaningRicks x = new LeaningRicks();
        due.is("run of +", Calls.runText(x, "+0:007*1;+0:07*1"), REFUSED);
        due.is("run of +", Calls.runText(x, "+0:007*1;+0:08*1;+0:000*1;+0:010*1"), 4);
        due.tells(x, 0, "((0)7(8(10)))");
        int[] order = {0, 7, 8, 10};
        for (int place = 0; place < order.length; place++) {
            due.is("at(0, " + place + ")", x.at(0, place), order[place]);
        }
        due.is("run of -", Calls.runText(x, "-0:00;-0:08;-0:007"), 3);
        due.is("at(0, 0)", x.at(0, 0), 10);
    }

    // "Orders ask for numbers out of range ahead of reasons.": each order by itself, so an order
    // with such a number cannot be carried out, whatever else there is about it
    private static void rangeAheadOfReasons() {
        due.part("numbers out of range");
        String[] texts = {"+3:1*1", "+9:1*1", "+0:1*0", "+0:1*00", "+0:5*0", "-3:5", "=3", "=9",
            ">03", ">30", ">33", "%54", "%91", "%0", "%99", "%9"};
        for (String text : texts) {
            LeaningRicks x = Calls.with(0, 5);
            due.refused(x, "run of " + text, Calls.runText(x, text), 6, 0);
            due.refused(x, "run of =0;" + text, Calls.runText(x, "=0;" + text), 6, 1);
            due.refused(x, "run of =1;" + text, Calls.runText(x, "=1;" + text), 6, 0);
        }
    }

    private static void constants() {
        due.part("constants");
        due.is("NONE", NONE, -11);
        due.is("BAD", BAD, -12);
        due.is("FULL", FULL, -13);
        due.is("REFUSED", REFUSED, -14);
        due.is("NOTHING", NOTHING, -15);
    }
}
