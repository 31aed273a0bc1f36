/** Each promise of the document by answers that were worked out from its words by hand. */
public final class PromiseTests {
    private static final int NONE = LeaningRicks.NONE;
    private static final int BAD = LeaningRicks.BAD;
    private static final int FULL = LeaningRicks.FULL;
    private static final int REFUSED = LeaningRicks.REFUSED;
    private static final int NOTHING = LeaningRicks.NOTHING;
    private static final Due due = new Due("PromiseTests");

    public static void main(String[] args) {
        theConstants();
        promise1();
        promise2Codes();
        promise2Building();
        promise2OtherLimit();
        promise3Places();
        promise3Building();
        promise3OtherLimit();
        promise4();
        promise5();
        promise5Reasons();
        promise6();
        promise7();
        promise8();
        promise9And10();
        promise11();
        promise12And13();
        promise14();
        promise15And16();
        promise17();
        promise18();
        promise19And20();
        promise21();
        promise22Orders();
        promise22Faults();
        promise22Refused();
        promise22Longest();
        promise23And24();
        promise25();
        promise26();
        promise27();
        promise28();
        promise28Kept();
        promise29And30();
        due.end();
    }

    private static void theConstants() {
        due.part("constants");
        due.is("NONE", NONE, -11);
        due.is("BAD", BAD, -12);
        due.is("FULL", FULL, -13);
        due.is("REFUSED", REFUSED, -14);
        due.is("NOTHING", NOTHING, -15);
    }

    private static void promise1() {
        due.part("promise 1");
        LeaningRicks x = new LeaningRicks();
        int[] empty = {0, 0, NOTHING, -1, 0, 0, 0, 0, 0};
        for (int rick = 0; rick < 3; rick++) {
            for (int what = 0; what < empty.length; what++) {
                due.is("rickOf(" + rick + ", " + what + ")", x.rickOf(rick, what), empty[what]);
            }
        }
        int[] accounts = {0, 0, 0, 0, 0, 0, 0, 0, 70, 0, 0};
        for (int what = 0; what < accounts.length; what++) {
            due.is("account(" + what + ")", x.account(what), accounts[what]);
        }
        due.is("reason(false)", x.reason(false), NOTHING);
        due.is("reason(true)", x.reason(true), NOTHING);
        due.is("character(0)", x.character(0), NONE);
        due.is("undo()", x.undo(), NOTHING);
        due.is("restore()", x.restore(), NOTHING);
        due.is("isBalanced()", x.isBalanced(), 1);
    }

    private static void promise2Codes() {
        due.part("promise 2, codes");
        LeaningRicks x = new LeaningRicks();
        due.is("put(-1, 1000, 0)", x.put(-1, 1000, 0), NONE);
        due.is("put(3, 1, 1)", x.put(3, 1, 1), NONE);
        due.is("put(0, -1, 1)", x.put(0, -1, 1), BAD);
        due.is("put(0, 1000, 1)", x.put(0, 1000, 1), BAD);
        due.is("put(0, 1, 0)", x.put(0, 1, 0), BAD);
        due.is("put(0, 1, 100)", x.put(0, 1, 100), BAD);
        due.is("put(0, MIN, MAX)", x.put(0, Integer.MIN_VALUE, Integer.MAX_VALUE), BAD);
        due.is("put(0, 0, 1)", x.put(0, 0, 1), 0);
        due.is("put(0, 999, 99)", x.put(0, 999, 99), 0);
        due.is("put(0, 999, 0)", x.put(0, 999, 0), BAD);
        due.refused(x, "put(0, 999, 5)", x.put(0, 999, 5), 2, 999);
        due.is("put(2, 999, 5)", x.put(2, 999, 5), 0);
        due.is("sheafOf(0, 999, 0)", x.sheafOf(0, 999, 0), 99);
        for (int i = 1; i <= 28; i++) {
            x.put(0, i * 7, 2);
        }
        due.is("rickOf(0, 0)", x.rickOf(0, 0), 30);
        due.refused(x, "put(0, 500, 1)", x.put(0, 500, 1), 1, 30);
        // the same weight is asked ahead of the room
        due.refused(x, "put(0, 7, 1)", x.put(0, 7, 1), 2, 7);
        due.is("rickOf(0, 0)", x.rickOf(0, 0), 30);
        due.is("account(2)", x.account(2), 31);
    }

    private static void promise2Building() {
        due.part("promise 2, building");
        LeaningRicks x = new LeaningRicks();
        due.is("put 1st", x.put(0, 100, 1), 0);
        due.is("put 2nd", x.put(0, 110, 1), 0);
        due.is("put 3rd", x.put(0, 120, 1), 0);
        due.tells(x, 0, "(100(110(120)))");
        due.is("rickOf(0, 4), from 3 to 2 to 1", x.rickOf(0, 4), 2);
        // four sheaves may have the depth 2 (4, 2, 1): 130 has 3; 120 has a part of 2 with 1
        // below it (100 is not more than 140), 110 one of 3 with 2 below it (200 is not more
        // than 210), 100 one of 4 with 3 (300 is more than 280)
        due.is("put 4th", x.put(0, 130, 1), 4);
        due.tells(x, 0, "((100)110(120(130)))");
        due.is("account(4)", x.account(4), 1);
        due.is("account(6)", x.account(6), 4);
        due.is("account(5)", x.account(5), 0);
        // a part that is not the whole
        due.is("put 5th", x.put(0, 140, 1), 0);
        due.is("put 6th", x.put(0, 150, 1), 4);
        due.tells(x, 0, "((100)110((120)130(140(150))))");
        due.is("account(4)", x.account(4), 2);
        due.is("account(6)", x.account(6), 8);
    }

    // That none leans above a sheaf that is too deep cannot be: if none did, each part would be at
    // most the limit of the one above, and so the sheaf no deeper than it may be.
    private static void promise2OtherLimit() {
        due.part("promise 2, other limit");
        LeaningRicks x = new LeaningRicks();
        // with the limit 55 two sheaves may have the depth 1 (2, 1), three, too (3, 1): the third
        // one is too deep; the part just above it has 2 with 1 below (100 is not more than 110),
        // the next one 3 with 2 below (200 is more than 165)
        x.limit(55);
        due.is("put 1st", x.put(1, 5, 1), 0);
        due.is("put 2nd", x.put(1, 6, 1), 0);
        due.tells(x, 1, "(5(6))");
        due.is("put 3rd", x.put(1, 7, 1), 3);
        due.tells(x, 1, "((5)6(7))");
        due.is("account(4)", x.account(4), 1);
        due.is("account(5)", x.account(5), 0);
        due.is("rickOf(1, 5)", x.rickOf(1, 5), 3);
    }

    private static void promise3Places() {
        due.part("promise 3, places");
        LeaningRicks x = Calls.with(0, 50, 25, 75, 60, 90, 55);
        due.is("take(-1, 50)", x.take(-1, 50), NONE);
        due.is("take(3, 50)", x.take(3, 50), NONE);
        due.is("take(0, 51)", x.take(0, 51), NONE);
        due.is("take(0, -15)", x.take(0, -15), NONE);
        due.is("take(0, MAX)", x.take(0, Integer.MAX_VALUE), NONE);
        due.is("take(1, 50)", x.take(1, 50), NONE);
        x.put(1, 50, 77);
        due.is("take(1, 50)", x.take(1, 50), 77);
        x.undo();
        due.is("take(1, 50) again", x.take(1, 50), 77);
        x.put(1, 51, 8);
        x.put(1, 49, 9);
        due.is("take(1, 49)", x.take(1, 49), 9);
        due.is("take(1, 51)", x.take(1, 51), 8);
        due.tells(x, 0, "((25)50(((55)60)75(90)))");
        x.take(0, 50);
        due.tells(x, 0, "((25)55((60)75(90)))");
        // none to the left of it: what is to the right takes its place, as it is
        LeaningRicks y = Calls.with(0, 10, 30, 20, 40);
        due.tells(y, 0, "(10!((20)30(40)))");
        y.take(0, 10);
        due.tells(y, 0, "((20)30(40))");
        due.is("sheafOf(0, 30, 1)", y.sheafOf(0, 30, 1), 0);
        due.is("rickOf(0, 7)", y.rickOf(0, 7), 2);
        // none to the right of it
        LeaningRicks z = Calls.with(0, 50, 30, 60, 40, 20);
        z.take(0, 60);
        due.tells(z, 0, "(((20)30(40))50!)");
        z.take(0, 50);
        due.tells(z, 0, "((20)30(40))");
        // the lightest one to the right has one to its own right, and is not just below
        LeaningRicks u = Calls.with(2, 50, 20, 80, 60, 90, 70);
        due.tells(u, 2, "((20)50((60(70))80(90)))");
        u.take(2, 50);
        due.tells(u, 2, "((20)60((70)80(90)))");
        due.is("sheafOf(2, 60, 1)", u.sheafOf(2, 60, 1), 0);
        due.is("sheafOf(2, 70, 1)", u.sheafOf(2, 70, 1), 2);
        due.is("rickOf(2, 7)", u.rickOf(2, 7), 6);
        // the lightest one to the right is just below, with some to its right
        LeaningRicks v = Calls.with(2, 50, 20, 80, 90);
        v.take(2, 50);
        due.tells(v, 2, "((20)80(90))");
        due.is("rickOf(2, 7)", v.rickOf(2, 7), 2);
        due.is("account(3)", v.account(3), 1);
        due.is("account(5)", v.account(5), 0);
        // its account and the most stay as they were
        due.is("rickOf(2, 5)", v.rickOf(2, 5), 4);
    }

    private static void promise3Building() {
        due.part("promise 3, building");
        LeaningRicks x = Calls.with(1, 500, 400, 600, 300, 350, 700, 800, 200, 450, 550);
        due.is("rickOf(1, 5)", x.rickOf(1, 5), 10);
        int parts = x.account(4);
        int before = x.account(6);
        x.take(1, 500);
        x.take(1, 400);
        x.take(1, 600);
        // 700 is not less than 700
        due.is("account(5) with 7 of 10", x.account(5), 0);
        due.is("rickOf(1, 5) with 7 of 10", x.rickOf(1, 5), 10);
        x.take(1, 300);
        due.is("account(5) with 6 of 10", x.account(5), 1);
        due.is("rickOf(1, 5) with 6 of 10", x.rickOf(1, 5), 6);
        due.is("account(6)", x.account(6), before + 6);
        due.is("account(4)", x.account(4), parts);
        due.tells(x, 1, "((200(350))450((550)700(800)))");
        LeaningRicks y = Calls.with(0, 4);
        due.is("take of the last", y.take(0, 4), 1);
        due.is("account(5)", y.account(5), 1);
        due.is("account(6)", y.account(6), 0);
        due.is("rickOf(0, 5)", y.rickOf(0, 5), 0);
    }

    private static void promise3OtherLimit() {
        due.part("promise 3, other limit");
        LeaningRicks x = Calls.with(0, 5, 3, 7, 2);
        x.limit(75);
        x.take(0, 2);
        due.is("account(5), 300 is not less than 75 * 4", x.account(5), 0);
        LeaningRicks y = Calls.with(0, 5, 3, 7, 2);
        y.limit(76);
        y.take(0, 2);
        due.is("account(5), 300 is less than 76 * 4", y.account(5), 1);
        // a part built anew that is the whole does not set the most: with the limit 80 the sheaf
        // 8 is too deep, and the first one that leans is the top (500 is more than 480)
        LeaningRicks z = new LeaningRicks();
        z.limit(90);
        Calls.putAll(z, 0, 1, 2, 3, 4, 5, 6, 7);
        z.limit(55);
        z.take(0, 1);
        z.take(0, 2);
        z.limit(80);
        due.tells(z, 0, "(3(4(5(6(7)))))");
        due.is("put that builds all anew", z.put(0, 8, 1), 6);
        due.is("rickOf(0, 5)", z.rickOf(0, 5), 7);
        due.is("account(4)", z.account(4), 1);
        due.is("account(5)", z.account(5), 0);
    }

    private static void promise4() {
        due.part("promise 4");
        LeaningRicks x = Calls.with(0, 10, 20, 30);
        due.is("build(-1)", x.build(-1), NONE);
        due.is("build(3)", x.build(3), NONE);
        due.refused(x, "build(2)", x.build(2), 5, 2);
        due.is("build(0)", x.build(0), 3);
        due.tells(x, 0, "((10)20(30))");
        due.is("build(0)", x.build(0), 0);
        due.is("account(5)", x.account(5), 2);
        due.is("account(6)", x.account(6), 6);
        due.is("account(4)", x.account(4), 0);
        due.is("account(10)", x.account(10), 5);
        x.put(0, 40, 1);
        due.is("build(0), of two in the middle the lighter one", x.build(0), 0);
        due.tells(x, 0, "((10)20(30(40)))");
        x.take(0, 10);
        due.is("rickOf(0, 5)", x.rickOf(0, 5), 4);
        due.is("build(0)", x.build(0), 3);
        due.tells(x, 0, "((20)30(40))");
        due.is("rickOf(0, 5)", x.rickOf(0, 5), 3);
        x.undo();
        due.tells(x, 0, "(20(30(40)))");
        due.is("rickOf(0, 5)", x.rickOf(0, 5), 4);
    }

    private static void promise5() {
        due.part("promise 5");
        LeaningRicks x = Calls.with(0, 10, 40, 20);
        Calls.putAll(x, 1, 50, 30);
        x.put(1, 35, 9);
        due.is("pour(1, 0)", x.pour(1, 0), 6);
        due.tells(x, 0, "((10(20))30((35)40(50)))");
        due.tells(x, 1, "");
        due.is("sheafOf(0, 35, 0)", x.sheafOf(0, 35, 0), 9);
        due.is("rickOf(0, 5)", x.rickOf(0, 5), 6);
        due.is("rickOf(1, 5)", x.rickOf(1, 5), 0);
        due.is("rickOf(1, 0)", x.rickOf(1, 0), 0);
        int[] accounts = {6, 14, 6, 0, 0, 1, 6, 1, 70, 0, 7};
        for (int what = 0; what < accounts.length; what++) {
            due.is("account(" + what + ")", x.account(what), accounts[what]);
        }
        due.is("pour(0, 2) into one without sheaves", x.pour(0, 2), 6);
        due.tells(x, 2, "((10(20))30((35)40(50)))");
        due.is("account(5)", x.account(5), 2);
        due.is("account(6)", x.account(6), 12);
        due.is("account(7)", x.account(7), 2);
        due.is("isBalanced()", x.isBalanced(), 1);
        x.undo();
        due.tells(x, 0, "((10(20))30((35)40(50)))");
        x.undo();
        due.tells(x, 0, "(10((20)40))");
        due.tells(x, 1, "((30(35))50)");
        // the most become the sheaves, also if they were more
        LeaningRicks y = Calls.with(0, 1, 2, 3, 4, 5);
        y.limit(55);
        y.take(0, 1);
        y.take(0, 5);
        y.put(1, 1, 1);
        due.is("rickOf(0, 5)", y.rickOf(0, 5), 5);
        due.is("pour(1, 0)", y.pour(1, 0), 4);
        due.is("rickOf(0, 5)", y.rickOf(0, 5), 4);
    }

    private static void promise5Reasons() {
        due.part("promise 5, reasons");
        LeaningRicks x = Calls.with(0, 10, 20, 30);
        due.is("pour(-1, 0)", x.pour(-1, 0), NONE);
        due.is("pour(0, 3)", x.pour(0, 3), NONE);
        due.is("pour(3, 3)", x.pour(3, 3), NONE);
        due.refused(x, "pour(0, 0)", x.pour(0, 0), 3, 0);
        // both are one: asked ahead of having no sheaves
        due.refused(x, "pour(2, 2)", x.pour(2, 2), 3, 2);
        due.refused(x, "pour(2, 0)", x.pour(2, 0), 5, 2);
        Calls.putAll(x, 1, 30, 5, 20, 40);
        due.refused(x, "pour(1, 0), the lowest same weight", x.pour(1, 0), 2, 20);
        for (int i = 0; i < 26; i++) {
            x.put(1, 500 + i, 1);
        }
        due.is("rickOf(1, 0)", x.rickOf(1, 0), 30);
        // too many: asked ahead of the same weight
        due.refused(x, "pour(1, 0)", x.pour(1, 0), 1, 33);
        due.refused(x, "pour(0, 1)", x.pour(0, 1), 1, 33);
        for (int i = 0; i < 3; i++) {
            x.take(1, 500 + i);
        }
        due.refused(x, "pour(0, 1)", x.pour(0, 1), 2, 20);
        x.take(1, 20);
        x.take(1, 30);
        x.put(1, 500, 1);
        x.put(1, 501, 1);
        due.is("pour(0, 1)", x.pour(0, 1), 30);
        due.is("account(7)", x.account(7), 1);
    }

    private static void promise6() {
        due.part("promise 6");
        LeaningRicks x = Calls.with(0, 10, 20, 30, 5, 6);
        due.is("limit(54)", x.limit(54), BAD);
        due.is("limit(91)", x.limit(91), BAD);
        due.is("limit(MIN)", x.limit(Integer.MIN_VALUE), BAD);
        due.refused(x, "limit(70)", x.limit(70), 4, 70);
        long shape = x.shape(0);
        due.is("limit(55)", x.limit(55), 70);
        due.is("shape(0)", x.shape(0), shape);
        due.is("limit(90)", x.limit(90), 55);
        due.is("shape(0)", x.shape(0), shape);
        due.is("account(8)", x.account(8), 90);
        due.is("account(10)", x.account(10), 7);
        due.is("undo()", x.undo(), 6);
        due.is("account(8)", x.account(8), 55);
    }

    private static void promise7() {
        due.part("promise 7");
        LeaningRicks x = new LeaningRicks();
        x.put(0, 50, 1);
        x.put(0, 20, 2);
        x.put(0, 80, 4);
        x.put(0, 60, 8);
        x.put(0, 90, 16);
        x.put(0, 55, 32);
        // the six sheaves: ((20)50(((55)60)80(90)))
        int[][] numbers = {
            {50, 1, 0, 6, 63, 0, NOTHING, 20, 80},
            {20, 2, 1, 1, 2, 0, 50, NOTHING, NOTHING},
            {80, 4, 1, 4, 60, 0, 50, 60, 90},
            {60, 8, 2, 2, 40, 0, 80, 55, NOTHING},
            {90, 16, 2, 1, 16, 0, 80, NOTHING, NOTHING},
            {55, 32, 3, 1, 32, 0, 60, NOTHING, NOTHING},
        };
        for (int[] row : numbers) {
            for (int what = 0; what <= 7; what++) {
                due.is("sheafOf(0, " + row[0] + ", " + what + ")", x.sheafOf(0, row[0], what),
                        row[what + 1]);
            }
        }
        due.is("sheafOf(0, 50, 8)", x.sheafOf(0, 50, 8), BAD);
        due.is("sheafOf(0, 50, -1)", x.sheafOf(0, 50, -1), BAD);
        due.is("sheafOf(0, 51, 8)", x.sheafOf(0, 51, 8), NONE);
        due.is("sheafOf(1, 50, 0)", x.sheafOf(1, 50, 0), NONE);
        due.is("sheafOf(3, 50, 0)", x.sheafOf(3, 50, 0), NONE);
        due.is("sheafOf(-1, 50, 8)", x.sheafOf(-1, 50, 8), NONE);
        due.is("sheafOf(0, -15, 0)", x.sheafOf(0, -15, 0), NONE);
        // 400 is more than 66 * 6, but not than 67 * 6; to the left, too
        x.limit(66);
        due.is("sheafOf(0, 50, 4)", x.sheafOf(0, 50, 4), 1);
        x.limit(67);
        due.is("sheafOf(0, 50, 4)", x.sheafOf(0, 50, 4), 0);
        LeaningRicks y = Calls.with(1, 9, 8, 7);
        due.is("sheafOf(1, 9, 4), 200 is not more than 210", y.sheafOf(1, 9, 4), 0);
        y.limit(66);
        due.is("sheafOf(1, 9, 4), 200 is more than 198", y.sheafOf(1, 9, 4), 1);
        due.is("sheafOf(1, 8, 4), 100 is not more than 132", y.sheafOf(1, 8, 4), 0);
    }

    private static void promise8() {
        due.part("promise 8");
        LeaningRicks x = new LeaningRicks();
        x.put(2, 50, 1);
        x.put(2, 20, 2);
        x.put(2, 80, 4);
        x.put(2, 60, 8);
        x.put(2, 90, 16);
        x.put(2, 55, 32);
        int[] numbers = {6, 63, 50, 3, 3, 6, 0, 9, 3};
        for (int what = 0; what < numbers.length; what++) {
            due.is("rickOf(2, " + what + ")", x.rickOf(2, what), numbers[what]);
        }
        due.is("rickOf(2, 9)", x.rickOf(2, 9), BAD);
        due.is("rickOf(2, -1)", x.rickOf(2, -1), BAD);
        due.is("rickOf(3, 9)", x.rickOf(3, 9), NONE);
        due.is("rickOf(-1, 0)", x.rickOf(-1, 0), NONE);
        x.limit(66);
        due.is("rickOf(2, 6)", x.rickOf(2, 6), 1);
        // 6 may have: 3, 1, 0 with 55; 5, 4, 3, 2, 1, 0 with 90
        x.limit(55);
        due.is("rickOf(2, 4)", x.rickOf(2, 4), 2);
        due.is("rickOf(2, 6)", x.rickOf(2, 6), 1);
        x.limit(90);
        due.is("rickOf(2, 4)", x.rickOf(2, 4), 5);
        due.is("rickOf(2, 6)", x.rickOf(2, 6), 0);
        x.take(2, 55);
        due.is("rickOf(2, 5), 500 is less than 90 * 6", x.rickOf(2, 5), 5);
        x.put(1, 7, 1);
        due.is("rickOf(1, 4), of one sheaf", x.rickOf(1, 4), 0);
        due.is("rickOf(1, 3), of one sheaf", x.rickOf(1, 3), 0);
        due.is("rickOf(1, 8), of one sheaf", x.rickOf(1, 8), 1);
    }

    private static void promise9And10() {
        due.part("promises 9 and 10");
        LeaningRicks x = Calls.with(0, 50, 20, 80, 60, 90, 55, 0, 999);
        int[][] ranks = {{Integer.MIN_VALUE, 0}, {-1, 0}, {0, 0}, {1, 1}, {20, 1}, {21, 2},
            {50, 2}, {55, 3}, {56, 4}, {80, 5}, {81, 6}, {999, 7}, {1000, 8},
            {Integer.MAX_VALUE, 8}};
        for (int[] row : ranks) {
            due.is("rank(0, " + row[0] + ")", x.rank(0, row[0]), row[1]);
            due.is("rankAgain(0, " + row[0] + ")", x.rankAgain(0, row[0]), row[1]);
        }
        due.is("rank(1, 5)", x.rank(1, 5), 0);
        due.is("rankAgain(1, 5)", x.rankAgain(1, 5), 0);
        due.is("rank(3, 5)", x.rank(3, 5), NONE);
        due.is("rank(-1, 5)", x.rank(-1, 5), NONE);
        due.is("rankAgain(3, 5)", x.rankAgain(3, 5), NONE);
        due.is("rankAgain(-1, 5)", x.rankAgain(-1, 5), NONE);
    }

    private static void promise11() {
        due.part("promise 11");
        LeaningRicks x = Calls.with(1, 50, 20, 80, 0);
        int[] order = {0, 20, 50, 80};
        for (int place = 0; place < order.length; place++) {
            due.is("at(1, " + place + ")", x.at(1, place), order[place]);
        }
        due.is("at(1, 4)", x.at(1, 4), NONE);
        due.is("at(1, -1)", x.at(1, -1), NONE);
        due.is("at(1, MAX)", x.at(1, Integer.MAX_VALUE), NONE);
        due.is("at(0, 0)", x.at(0, 0), NONE);
        due.is("at(3, 0)", x.at(3, 0), NONE);
        due.is("at(-1, 0)", x.at(-1, 0), NONE);
    }

    private static void promise12And13() {
        due.part("promises 12 and 13");
        LeaningRicks x = new LeaningRicks();
        x.put(0, 50, 1);
        x.put(0, 20, 2);
        x.put(0, 80, 4);
        x.put(0, 60, 8);
        x.put(0, 999, 16);
        x.put(0, 0, 32);
        int min = Integer.MIN_VALUE;
        int max = Integer.MAX_VALUE;
        int[][] loads = {{min, max, 63}, {0, 999, 63}, {1, 998, 15}, {20, 60, 11}, {21, 60, 9},
            {20, 59, 3}, {50, 50, 1}, {51, 51, 0}, {80, 20, 0}, {max, min, 0}, {max, max, 0},
            {min, min, 0}, {999, max, 16}, {min, 0, 32}, {50, 49, 0}};
        for (int[] row : loads) {
            String asked = "(0, " + row[0] + ", " + row[1] + ")";
            due.is("between" + asked, x.between(0, row[0], row[1]), row[2]);
            due.is("betweenAgain" + asked, x.betweenAgain(0, row[0], row[1]), row[2]);
        }
        due.is("between(1, 0, 9)", x.between(1, 0, 9), 0);
        due.is("betweenAgain(1, 0, 9)", x.betweenAgain(1, 0, 9), 0);
        due.is("between(3, 9, 0)", x.between(3, 9, 0), NONE);
        due.is("between(-1, 0, 9)", x.between(-1, 0, 9), NONE);
        due.is("betweenAgain(3, 9, 0)", x.betweenAgain(3, 9, 0), NONE);
        due.is("betweenAgain(-1, 0, 9)", x.betweenAgain(-1, 0, 9), NONE);
    }

    private static void promise14() {
        due.part("promise 14");
        LeaningRicks x = new LeaningRicks();
        due.is("heaviest(0)", x.heaviest(0), NONE);
        x.put(2, 7, 50);
        x.put(0, 7, 50);
        x.put(1, 6, 50);
        x.put(2, 999, 99);
        x.put(1, 0, 1);
        x.put(0, 8, 51);
        int[] order = {2999, 8, 1006, 7, 2007, 1000};
        for (int place = 0; place < order.length; place++) {
            due.is("heaviest(" + place + ")", x.heaviest(place), order[place]);
        }
        due.is("heaviest(6)", x.heaviest(6), NONE);
        due.is("heaviest(-1)", x.heaviest(-1), NONE);
        due.is("heaviest(MAX)", x.heaviest(Integer.MAX_VALUE), NONE);
    }

    private static void promise15And16() {
        due.part("promises 15 and 16");
        LeaningRicks x = new LeaningRicks();
        int[][] sheaves = {{30, 60}, {10, 50}, {40, 40}, {20, 49}, {50, 99}, {60, 1}};
        for (int[] sheaf : sheaves) {
            x.put(0, sheaf[0], sheaf[1]);
        }
        // 50 and 49, 60, 40, 99, 1: the loads in the order of the weights are 50 49 60 40 99 1
        int[][] on99 = {{10, 0}, {20, 0}, {30, 1}, {40, 2}, {50, 3}, {60, 4}};
        for (int[] row : on99) {
            due.is("cartOf(0, " + row[0] + ", 99)", x.cartOf(0, row[0], 99), row[1]);
        }
        due.is("carts(0, 99)", x.carts(0, 99), 5);
        due.is("carts(0, 100)", x.carts(0, 100), 3);
        due.is("carts(0, 999)", x.carts(0, 999), 1);
        due.is("cartOf(0, 60, 100)", x.cartOf(0, 60, 100), 2);
        due.is("carts(1, 99)", x.carts(1, 99), 0);
        due.is("carts(0, 98)", x.carts(0, 98), BAD);
        due.is("carts(0, 1000)", x.carts(0, 1000), BAD);
        due.is("carts(3, 98)", x.carts(3, 98), NONE);
        due.is("carts(-1, 99)", x.carts(-1, 99), NONE);
        due.is("cartOf(0, 60, 98)", x.cartOf(0, 60, 98), BAD);
        due.is("cartOf(0, 60, 1000)", x.cartOf(0, 60, 1000), BAD);
        due.is("cartOf(0, 61, 1000)", x.cartOf(0, 61, 1000), NONE);
        due.is("cartOf(3, 60, 99)", x.cartOf(3, 60, 99), NONE);
        due.is("cartOf(-1, 60, 99)", x.cartOf(-1, 60, 99), NONE);
    }

    private static void promise17() {
        due.part("promise 17");
        LeaningRicks x = Calls.with(0, 50, 20, 80, 60);
        // 1 (20: 1 0 0) (80: 1 (60: 1 0 0) 0)
        due.is("shape(0)", x.shape(0), 0b110011000L);
        due.is("shape(1)", x.shape(1), 0);
        due.is("shape(3)", x.shape(3), NONE);
        due.is("shape(-1)", x.shape(-1), NONE);
        x.put(1, 5, 5);
        due.is("shape(1)", x.shape(1), 0b100L);
        x.limit(90);
        for (int i = 0; i < 30; i++) {
            x.put(2, 900 - i, 1);
        }
        due.is("bits of shape(2)", Long.bitCount(x.shape(2)), 30);
        due.is("highest bit of shape(2)", Long.highestOneBit(x.shape(2)), 1L << 60);
    }

    private static void promise18() {
        due.part("promise 18");
        LeaningRicks x = Calls.with(1, 936, 999, 0, 63, 64, 100);
        due.is("weights(1, 936)", x.weights(1, 936), 1L | 1L << 63);
        due.is("weights(1, 937)", x.weights(1, 937), 0);
        due.is("weights(1, -1)", x.weights(1, -1), 0);
        due.is("weights(1, 0)", x.weights(1, 0), 1L | 1L << 63);
        due.is("weights(1, 1)", x.weights(1, 1), 1L << 62 | 1L << 63);
        due.is("weights(1, 100)", x.weights(1, 100), 1L);
        due.is("weights(1, 101)", x.weights(1, 101), 0);
        due.is("weights(1, 36)", x.weights(1, 36), 1L << 27 | 1L << 28);
        due.is("weights(0, 0)", x.weights(0, 0), 0);
        due.is("weights(3, 0)", x.weights(3, 0), 0);
        due.is("weights(-1, 0)", x.weights(-1, 0), 0);
        due.is("weights(1, MIN)", x.weights(1, Integer.MIN_VALUE), 0);
    }

    private static void promise19And20() {
        due.part("promises 19 and 20");
        LeaningRicks x = Calls.with(0, 50, 20, 80, 60, 90, 55);
        due.is("leaningShare(0)", x.leaningShare(0), 0);
        x.limit(66);
        due.is("leaningShare(0)", x.leaningShare(0), Float.floatToIntBits(1f / 6f));
        due.is("meanDepth(0)", x.meanDepth(0), Double.doubleToLongBits(9.0 / 6.0));
        due.is("leaningShare(1)", x.leaningShare(1), NOTHING);
        due.is("meanDepth(1)", x.meanDepth(1), NOTHING);
        due.is("leaningShare(3)", x.leaningShare(3), NONE);
        due.is("meanDepth(3)", x.meanDepth(3), NONE);
        due.is("leaningShare(-1)", x.leaningShare(-1), NONE);
        due.is("meanDepth(-1)", x.meanDepth(-1), NONE);
        x.put(1, 5, 5);
        due.is("meanDepth(1), of one sheaf", x.meanDepth(1), 0);
        x.put(1, 6, 5);
        x.put(1, 4, 5);
        due.is("meanDepth(1), of three", x.meanDepth(1), Double.doubleToLongBits(2.0 / 3.0));
    }

    private static void promise21() {
        due.part("promise 21");
        LeaningRicks x = new LeaningRicks();
        due.is("append(31)", x.append(31), BAD);
        due.is("append(127)", x.append(127), BAD);
        due.is("append(MIN)", x.append(Integer.MIN_VALUE), BAD);
        due.is("append(32)", x.append(32), 1);
        due.is("append(126)", x.append(126), 2);
        for (int i = 3; i <= 60; i++) {
            due.is("append(48)", x.append(48), i);
        }
        due.is("account(9)", x.account(9), 60);
        due.is("append(48)", x.append(48), FULL);
        due.is("append(31)", x.append(31), BAD);
        due.is("account(9)", x.account(9), 60);
        due.is("run()", x.run(), -1000);
        due.is("account(9)", x.account(9), 0);
        due.is("append(48)", x.append(48), 1);
    }

    private static void promise22Orders() {
        due.part("promise 22, orders");
        LeaningRicks x = new LeaningRicks();
        due.is("run of one", Calls.runText(x, "+2:007*09"), 1);
        due.is("sheafOf(2, 7, 0)", x.sheafOf(2, 7, 0), 9);
        due.is("run of five", Calls.runText(x, "+0:5*1;+0:4*2;+0:6*3;-0:4;=0"), 5);
        due.tells(x, 0, "(5(6))");
        due.is("account(2)", x.account(2), 4);
        due.is("account(3)", x.account(3), 1);
        due.is("account(5)", x.account(5), 2);
        due.is("account(10), a text is one change", x.account(10), 2);
        due.is("run of two", Calls.runText(x, ">02;%55"), 2);
        due.tells(x, 2, "((5)6(7))");
        due.is("account(8)", x.account(8), 55);
        due.is("account(7)", x.account(7), 1);
        due.is("account(9)", x.account(9), 0);
        due.is("undo()", x.undo(), 2);
        due.tells(x, 0, "(5(6))");
        due.is("account(8)", x.account(8), 70);
        due.is("undo()", x.undo(), 1);
        due.is("rickOf(0, 0)", x.rickOf(0, 0), 0);
        // a text by which nothing is different in the end is a change, too
        due.is("run of two", Calls.runText(x, "%71;%70"), 2);
        due.is("account(10)", x.account(10), 2);
    }

    private static void promise22Faults() {
        due.part("promise 22, faults");
        LeaningRicks x = new LeaningRicks();
        Object[][] faults = {{"", 0}, {"x", 0}, {" +0:1*1", 0}, {";", 0}, {"1", 0}, {"+", 1},
            {"+:", 1}, {"+0", 2}, {"+00", 2}, {"+0:", 3}, {"+0:*", 3}, {"+0:1", 4},
            {"+0:12;", 5}, {"+0:123", 6}, {"+0:1234", 6}, {"+0:1*", 5}, {"+0:1*x", 5},
            {"+0:1*123", 7}, {"+0:1*1;", 7}, {"+0:1*1;;", 7}, {"+0:1*1 ", 6}, {"-0:", 3},
            {"-0:1234", 6}, {"-0:1*", 4}, {"-;", 1}, {"=", 1}, {"=00", 2}, {"=0;=", 4},
            {">", 1}, {">0", 2}, {">0;", 2}, {">012", 3}, {">0:1", 2}, {"%", 1}, {"%;", 1},
            {"%123", 3}, {"%7 ", 2}, {"=0;x", 3}, {"=0=", 2}, {"+-1", 1}};
        for (Object[] row : faults) {
            due.is("run of " + row[0], Calls.runText(x, (String) row[0]), -1000 - (Integer) row[1]);
            due.is("account(9)", x.account(9), 0);
        }
        due.is("reason(false)", x.reason(false), NOTHING);
        due.is("account(10)", x.account(10), 0);
        due.is("account(2)", x.account(2), 0);
    }

    private static void promise22Refused() {
        due.part("promise 22, refused");
        LeaningRicks x = Calls.with(1, 5, 4);
        Object[][] bad = {{"+3:1*1", 0}, {"+0:1*0", 0}, {"+0:1*00", 0}, {"%54", 0}, {"%5", 0},
            {"%91", 0}, {"%70", 0}, {"=0", 0}, {"=9", 0}, {"-0:1", 0}, {"-7:1", 0}, {">11", 0},
            {">01", 0}, {">13", 0}, {">31", 0}, {"+1:5*1", 0}, {"+0:1*1;+0:1*1", 1},
            {"+0:1*1;%60;-1:5;>10;-0:5", 4}, {"%60;%60", 1}, {"-1:5;-1:4;=1", 2},
            {"-0:5;+3:1*1", 0}};
        for (Object[] row : bad) {
            due.refused(x, "run of " + row[0], Calls.runText(x, (String) row[0]), 6, (Integer) row[1]);
            due.tells(x, 1, "((4)5)");
            due.is("account(0)", x.account(0), 2);
            due.is("account(2)", x.account(2), 2);
            due.is("account(3)", x.account(3), 0);
            due.is("account(5)", x.account(5), 0);
            due.is("account(8)", x.account(8), 70);
            due.is("account(9)", x.account(9), 0);
            due.is("account(10)", x.account(10), 2);
        }
        due.is("undo()", x.undo(), 1);
        due.tells(x, 1, "(5)");
    }

    private static void promise22Longest() {
        due.part("promise 22, longest");
        LeaningRicks x = Calls.with(0, 1);
        String twenty = "=0;=0;=0;=0;=0;=0;=0;=0;=0;=0;=0;=0;=0;=0;=0;=0;=0;=0;=0;=0";
        due.is("run of twenty", Calls.runText(x, twenty), 20);
        due.is("account(5)", x.account(5), 20);
        due.is("run that ends too early", Calls.runText(x, twenty + ";"), -1060);
        due.is("account(5)", x.account(5), 20);
        due.is("account(10)", x.account(10), 2);
    }

    private static void promise23And24() {
        due.part("promises 23 and 24");
        LeaningRicks x = Calls.with(0, 7, 3, 9);
        due.tells(x, 0, "((3)7(9))");
        due.is("character(0)", x.character(0), '(');
        due.is("character(2)", x.character(2), '3');
        due.is("character(9)", x.character(9), NONE);
        due.is("character(-1)", x.character(-1), NONE);
        due.is("character(MAX)", x.character(Integer.MAX_VALUE), NONE);
        due.is("tell(3)", x.tell(3), NONE);
        due.is("tell(-1)", x.tell(-1), NONE);
        due.is("character(8), as it was", x.character(8), ')');
        x.undo();
        x.limit(66);
        x.put(0, 10, 1);
        due.is("the line stays", x.character(4), '7');
        x.put(0, 100, 1);
        due.tells(x, 0, "((3)7(10(100)))");
        x.limit(55);
        x.put(1, 999, 1);
        x.put(1, 0, 1);
        due.tells(x, 1, "((0)999)");
        x.limit(90);
        x.put(1, 55, 1);
        x.limit(60);
        due.tells(x, 1, "((0(55))999!)");
        due.is("tell(2)", x.tell(2), 0);
        due.is("character(0) of the empty line", x.character(0), NONE);
        LeaningRicks y = new LeaningRicks();
        for (int i = 0; i < 12; i++) {
            y.put(0, 100 + i, 1);
        }
        y.build(0);
        due.is("tell(0), 60 characters", y.tell(0), 60);
        due.is("character(59)", y.character(59), ')');
        due.is("character(60)", y.character(60), NONE);
        y.put(0, 5, 1);
        due.is("tell(0), the first 60", y.tell(0), 60);
        due.is("character(60)", y.character(60), NONE);
    }

    private static void promise25() {
        due.part("promise 25");
        LeaningRicks x = Calls.with(0, 7);
        x.put(0, 7, 1);
        x.limit(70);
        due.is("reason(false)", x.reason(false), 4);
        due.is("reason(true)", x.reason(true), 70);
        // other codes, successful calls and undo leave the reason
        x.put(0, 1000, 1);
        x.put(9, 1, 1);
        x.take(0, 8);
        x.put(0, 8, 1);
        x.save();
        x.undo();
        x.restore();
        due.is("reason(false)", x.reason(false), 4);
        due.is("reason(true)", x.reason(true), 70);
    }

    private static void promise26() {
        due.part("promise 26");
        LeaningRicks x = new LeaningRicks();
        x.put(0, 1, 10);
        x.put(0, 2, 20);
        x.put(0, 3, 30);
        x.put(0, 4, 40);
        x.put(1, 4, 50);
        x.take(1, 4);
        x.put(1, 9, 60);
        x.pour(1, 0);
        x.build(0);
        x.append('=');
        x.limit(80);
        int[] accounts = {5, 160, 6, 1, 1, 3, 14, 1, 80, 1, 8};
        for (int what = 0; what < accounts.length; what++) {
            due.is("account(" + what + ")", x.account(what), accounts[what]);
        }
        due.is("account(11)", x.account(11), BAD);
        due.is("account(-1)", x.account(-1), BAD);
    }

    private static void promise27() {
        due.part("promise 27");
        LeaningRicks x = Calls.with(0, 1, 2, 3, 4, 5, 6, 7);
        due.is("isBalanced()", x.isBalanced(), 1);
        x.take(0, 4);
        due.is("isBalanced()", x.isBalanced(), 1);
        x.pour(0, 1);
        due.is("isBalanced()", x.isBalanced(), 1);
        x.undo();
        x.undo();
        due.is("isBalanced()", x.isBalanced(), 1);
        x.save();
        x.take(0, 1);
        x.restore();
        due.is("isBalanced()", x.isBalanced(), 1);
    }

    private static void promise28() {
        due.part("promise 28");
        LeaningRicks x = Calls.with(0, 1, 2, 3, 4);
        due.is("account(6)", x.account(6), 4);
        due.is("undo()", x.undo(), 3);
        due.tells(x, 0, "(1(2(3)))");
        due.is("account(2)", x.account(2), 3);
        due.is("account(4)", x.account(4), 0);
        due.is("account(6)", x.account(6), 0);
        due.is("rickOf(0, 5)", x.rickOf(0, 5), 3);
        x.take(0, 3);
        due.is("undo()", x.undo(), 3);
        due.is("account(3)", x.account(3), 0);
        x.build(0);
        x.undo();
        due.tells(x, 0, "(1(2(3)))");
        due.is("account(5)", x.account(5), 0);
        x.pour(0, 2);
        x.undo();
        due.is("account(7)", x.account(7), 0);
        due.is("rickOf(0, 0)", x.rickOf(0, 0), 3);
        due.is("rickOf(2, 0)", x.rickOf(2, 0), 0);
        due.is("undo()", x.undo(), 2);
        due.is("undo()", x.undo(), 1);
        due.is("undo()", x.undo(), 0);
        due.is("undo()", x.undo(), NOTHING);
        due.is("account(0)", x.account(0), 0);
    }

    private static void promise28Kept() {
        due.part("promise 28, the latest 8");
        LeaningRicks x = Calls.with(0, 10, 20, 30, 40, 50, 60, 70, 80, 90, 100);
        due.is("account(10)", x.account(10), 8);
        // what is refused or answered with a code takes no room
        x.put(0, 10, 1);
        x.put(0, 10, 0);
        x.take(0, 11);
        x.limit(70);
        Calls.runText(x, "=0;=1");
        x.append('+');
        due.is("account(10)", x.account(10), 8);
        for (int i = 7; i >= 0; i--) {
            due.is("undo()", x.undo(), i);
            due.is("rickOf(0, 0)", x.rickOf(0, 0), i + 2);
        }
        due.is("undo()", x.undo(), NOTHING);
        due.is("rickOf(0, 0)", x.rickOf(0, 0), 2);
        due.is("the text stays", x.account(9), 1);
        due.tells(x, 0, "(10(20))");
    }

    private static void promise29And30() {
        due.part("promises 29 and 30");
        LeaningRicks x = Calls.with(0, 10, 20);
        x.put(2, 5, 50);
        due.is("restore()", x.restore(), NOTHING);
        due.is("account(10)", x.account(10), 3);
        x.limit(60);
        due.is("save()", x.save(), 3);
        due.is("account(10), save is no change", x.account(10), 4);
        x.take(0, 10);
        x.build(0);
        x.limit(90);
        x.pour(0, 2);
        x.append('-');
        x.tell(2);
        due.is("restore()", x.restore(), 3);
        due.is("account(10)", x.account(10), 0);
        due.is("undo()", x.undo(), NOTHING);
        due.tells(x, 0, "(10(20))");
        due.tells(x, 2, "(5)");
        int[] accounts = {3, 52, 3, 0, 0, 0, 0, 0, 60, 1, 0};
        for (int what = 0; what < accounts.length; what++) {
            due.is("account(" + what + ")", x.account(what), accounts[what]);
        }
        x.take(0, 10);
        due.is("undo() of a change after it", x.undo(), 0);
        x.take(0, 20);
        x.take(0, 10);
        due.is("restore() again", x.restore(), 3);
        due.is("rickOf(0, 0)", x.rickOf(0, 0), 2);
        x.take(0, 20);
        due.is("save() in place of it", x.save(), 2);
        x.undo();
        due.is("account(0)", x.account(0), 3);
        due.is("restore()", x.restore(), 2);
        due.is("rickOf(0, 0)", x.rickOf(0, 0), 1);
    }
}
