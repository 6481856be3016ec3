/** Promises 31 to 34, and what the Terms say of rows and of their reader. */
public final class BoundsOfRows {
    public static void main(String[] args) {
        Tests.run(BoundsOfRows.class);
    }

    /** Claims 0, 1 and 2 are the lot: 0 and 1 tied by 5, 1 and 2 by 5, 0 and 2 not; claim 3 is tied with none. */
    private static void three(CrashTies x) {
        Scenes.people(x, 2);
        Scenes.claims(x, 4);
        x.set(0, 5);
        x.seat(0, 0, 0);
        x.seat(1, 0, 0);
        x.seat(1, 1, 1);
        x.seat(2, 1, 1);
    }

    private static CrashTies proved() {
        CrashTies x = Tests.made(BoundsOfRows::three);
        Tests.due("lot(0)", x.lot(0), 7);
        Tests.due("prove()", x.prove(), 2);
        return x;
    }

    private static void rowIs(CrashTies x, int i, int lesser, int greater, int strength) {
        Tests.due("row(" + i + ", 0)", x.row(i, 0), lesser);
        Tests.due("row(" + i + ", 1)", x.row(i, 1), greater);
        Tests.due("row(" + i + ", 2)", x.row(i, 2), strength);
    }

    /** Two rows are there, and no claims any more. */
    private static void rowsWithoutLot(CrashTies x) {
        x.keep();
        three(x);
        x.prove();
        x.again();
    }

    // ---- promise 31

    static void promise31NoLot() {
        for (int n = 0; n < 2; n++) {
            int claims = n;
            Tests.refused("prove() of " + n, -3, x -> Scenes.claims(x, claims), x -> x.prove());
        }
        Tests.refused("prove() of no claims, where there are rows", -3, BoundsOfRows::rowsWithoutLot, x -> x.prove());
        Tests.due("many(5) of rows that stay", Tests.made(BoundsOfRows::rowsWithoutLot).many(5), 2);
    }

    static void promise31NoRows() {
        CrashTies x = Scenes.with(0, 2);
        Tests.due("prove() of two that are not tied", x.prove(), 0);
        Tests.due("many(5)", x.many(5), 0);
        Tests.due("row(0, 0)", x.row(0, 0), -9);
    }

    static void promise31NoRowsAnyMore() {
        CrashTies x = proved();
        x.seat(1, 0, -1);
        x.seat(1, 1, -1);
        Tests.due("prove()", x.prove(), 0);
        for (int i = 0; i < 2; i++) Tests.due("row(" + i + ", 2)", x.row(i, 2), -9);
    }

    static void promise31TermsRowsOfThoseTiedInTheLot() {
        CrashTies x = proved();
        rowIs(x, 0, 0, 1, 5);
        rowIs(x, 1, 1, 2, 5);
    }

    static void promise31TermsRowsOfStrengthOne() {
        CrashTies x = Tests.made(BoundsOfRows::three);
        x.set(0, 1);
        x.set(4, 0);
        Tests.due("prove()", x.prove(), 2);
        rowIs(x, 1, 1, 2, 1);
    }

    /** A claim beside the lot has no row, though it is tied with one of it. */
    static void promise31TermsRowsOfTheLotAlone() {
        CrashTies x = Tests.made(BoundsOfRows::three);
        x.set(2, 1);
        x.seat(3, 2, 1);
        Tests.due("tie(2, 3)", x.tie(2, 3), 1);
        Tests.due("lot(0)", x.lot(0), 7);
        Tests.due("prove()", x.prove(), 2);
        rowIs(x, 1, 1, 2, 5);
    }

    static void promise31TermsRowsOfTheLotAloneWithoutALesserClaim() {
        CrashTies x = Scenes.with(2, 4);
        x.set(0, 5);
        x.seat(1, 0, 0);
        x.seat(2, 0, 0);
        x.seat(2, 1, 1);
        x.seat(3, 1, 1);
        x.seat(0, 2, 0);
        Tests.due("tie(0, 1)", x.tie(0, 1), 1);
        Tests.due("lot(0)", x.lot(0), 14);
        Tests.due("prove()", x.prove(), 2);
        rowIs(x, 0, 1, 2, 5);
        rowIs(x, 1, 2, 3, 5);
        Tests.due("judge()", x.judge(), 0);
    }

    static void promise31MostRows() {
        CrashTies x = Tests.made(y -> Scenes.woven(y, 3, 0));
        Tests.due("prove()", x.prove(), 36);
        Tests.due("many(5)", x.many(5), 36);
        int i = 0;
        for (int a = 0; a < 9; a++) {
            for (int b = a + 1; b < 9; b++) rowIs(x, i++, a, b, 618);
        }
        Tests.due("judge()", x.judge(), 0);
    }

    static void promise31WrittenAnew() {
        CrashTies x = proved();
        x.alterRow(0, 0, 7);
        x.alterRow(1, 2, 7);
        Tests.due("prove()", x.prove(), 2);
        rowIs(x, 0, 0, 1, 5);
        rowIs(x, 1, 1, 2, 5);
    }

    // ---- promise 32

    static void promise32Rows() {
        CrashTies x = proved();
        for (int i : new int[] {-1, 2, 3, 36, Tests.MIN, Tests.MAX}) {
            for (int what = 0; what < 3; what++) Tests.due("row(" + i + ", " + what + ")", x.row(i, what), -9);
        }
        Tests.due("row(1, 2), the last one", x.row(1, 2), 5);
        CrashTies most = Tests.made(y -> Scenes.woven(y, 0, 0));
        most.prove();
        Tests.due("row(35, 1), the last one", most.row(35, 1), 8);
        Tests.due("row(36, 1)", most.row(36, 1), -9);
        Tests.due("row(0, 0) of a new object", new CrashTies().row(0, 0), -9);
        Tests.due("row(0, 0) ahead of prove()", Tests.made(BoundsOfRows::three).row(0, 0), -9);
    }

    static void promise32What() {
        CrashTies x = proved();
        for (int what : new int[] {-1, 3, 4, Tests.MIN, Tests.MAX}) {
            for (int i = 0; i < 2; i++) Tests.due("row(" + i + ", " + what + ")", x.row(i, what), -9);
        }
    }

    // ---- promise 33

    private static void notAltered(int i, int what) {
        Tests.refused("alterRow(" + i + ", " + what + ", 6)", -9, BoundsOfRows::rowsWithoutLot, x -> x.alterRow(i, what, 6));
        Tests.refused("alterRow(" + i + ", " + what + ", 6)", -9, x -> {
            three(x);
            x.prove();
        }, x -> x.alterRow(i, what, 6));
    }

    static void promise33Rows() {
        for (int i : new int[] {-1, 2, 36, Tests.MIN, Tests.MAX}) {
            for (int what = 0; what < 3; what++) notAltered(i, what);
        }
        Tests.refused("alterRow(0, 0, 6) of no rows", -9, BoundsOfRows::three, x -> x.alterRow(0, 0, 6));
    }

    static void promise33What() {
        for (int what : new int[] {-1, 3, Tests.MIN, Tests.MAX}) {
            for (int i = 0; i < 2; i++) notAltered(i, what);
        }
    }

    static void promise33WhatItWas() {
        CrashTies x = proved();
        int was = 5;
        for (int v : new int[] {Tests.MIN, Tests.MAX, -9, 0, 5}) {
            Tests.due("alterRow(1, 2, " + v + ")", x.alterRow(1, 2, v), was);
            Tests.due("row(1, 2)", x.row(1, 2), v);
            was = v;
        }
        rowIs(x, 0, 0, 1, 5);
        rowIs(x, 1, 1, 2, 5);
    }

    // ---- promise 34

    static void promise34NoLot() {
        for (int n = 0; n < 2; n++) {
            int claims = n;
            Tests.refused("judge() of " + n, -3, x -> Scenes.claims(x, claims), x -> x.judge());
        }
        Tests.refused("judge() of no claims, where there are rows", -3, BoundsOfRows::rowsWithoutLot, x -> x.judge());
    }

    static void promise34AllIsRight() {
        Tests.due("judge()", proved().judge(), 0);
        Tests.due("judge() of no rows where none are due", Scenes.with(0, 2).judge(), 0);
    }

    static void promise34FirstRowThatIsNot() {
        for (int i = 0; i < 2; i++) {
            for (int what = 0; what < 3; what++) {
                CrashTies x = proved();
                x.alterRow(i, what, -1);
                Tests.due("judge(), row " + i + " wrong in " + what, x.judge(), i + 1);
                x.alterRow(1, 0, -1);
                Tests.due("judge(), row 1 wrong, too", x.judge(), i + 1);
            }
        }
        CrashTies most = Tests.made(y -> Scenes.woven(y, 0, 0));
        most.prove();
        most.alterRow(35, 2, 1);
        Tests.due("judge(), the last of 36 wrong", most.judge(), 36);
        most.alterRow(0, 1, 2);
        Tests.due("judge(), the first of 36 wrong, too", most.judge(), 1);
    }

    /** A row that stands in another row's place isn't as it must be. */
    static void promise34RowsInAnotherOrder() {
        CrashTies x = proved();
        int[] first = {0, 1, 5};
        int[] second = {1, 2, 5};
        for (int what = 0; what < 3; what++) {
            x.alterRow(0, what, second[what]);
            x.alterRow(1, what, first[what]);
        }
        Tests.due("judge()", x.judge(), 1);
    }

    static void promise34TermsFewerRows() {
        Tests.due("judge() of no rows", Tests.made(BoundsOfRows::three).judge(), 222);
        CrashTies x = Tests.made(BoundsOfRows::three);
        x.seat(2, 1, -1);
        Tests.due("prove()", x.prove(), 1);
        Tests.due("judge()", x.judge(), 0);
        x.seat(2, 1, 1);
        Tests.due("judge() of one of two rows", x.judge(), 222);
        x.alterRow(0, 2, 4);
        Tests.due("judge() of one of two rows, which is wrong", x.judge(), 1);
    }

    static void promise34TermsMoreRows() {
        CrashTies x = proved();
        x.seat(2, 1, -1);
        Tests.due("judge() of two rows where one is due", x.judge(), 2);
        x.seat(0, 0, -1);
        Tests.due("judge() of two rows where none are due", x.judge(), 1);
    }

    /** What row() answers for a row that isn't there makes no row right. */
    static void promise34TermsMoreRowsOfMinusNine() {
        CrashTies x = proved();
        x.seat(2, 1, -1);
        for (int what = 0; what < 3; what++) x.alterRow(1, what, -9);
        Tests.due("judge()", x.judge(), 2);
    }

    static void promise32And34ChangeNothing() {
        Tests.changesNothing("row(0, 2)", x -> x.row(0, 2));
        Tests.changesNothing("judge()", x -> x.judge());
        Tests.refused("judge() of fewer rows", 222, BoundsOfRows::three, x -> x.judge());
    }

    static void promise31ChangesRowsAlone() {
        CrashTies x = Tests.made(BoundsOfRows::three);
        x.prove();
        CrashTies twin = Tests.made(BoundsOfRows::three);
        twin.prove();
        twin.prove();
        Tests.alike("after prove() once more", twin, x);
    }
}
