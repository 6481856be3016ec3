/** Promises 35 to 41, and what the Terms say of sheets, shelves, acts and their trace. */
public final class BoundsOfHost {
    private static final int CLAIM = 0, BUMP = 1, GLASS = 2, NECK = 3, THEFT = 4, FIRE = 5;
    private static final int HITS = 0, PAYS = 1, SHARES = 2, TELLS = 3;

    public static void main(String[] args) {
        Tests.run(BoundsOfHost.class);
    }

    private static CrashTies row(int sort, int n) {
        CrashTies x = new CrashTies();
        Tests.due("sheet(2, " + sort + ", " + n + ")", x.sheet(2, sort, n), 1);
        return x;
    }

    // ---- promise 35

    static void promise35Sheets() {
        CrashTies x = new CrashTies();
        for (int sheet = 0; sheet < 4; sheet++) Tests.due("sheet(" + sheet + ", 2, 1)", x.sheet(sheet, 2, 1), 1);
        for (int sheet : new int[] {-1, 4, Tests.MIN, Tests.MAX}) {
            for (int sort = -1; sort < 4; sort++) {
                int of = sort;
                Tests.refused("sheet(" + sheet + ", " + sort + ", 1)", -1, y -> y.sheet(sheet, of, 1));
            }
        }
    }

    static void promise35Sorts() {
        for (int sort = 0; sort < 4; sort++) {
            CrashTies x = row(sort, 1);
            for (int as = 0; as < 4; as++) Tests.due("item(2, " + as + ", 0) of sort " + sort, x.item(2, as, 0), as == sort ? 0 : -13);
        }
        for (int sort : new int[] {-2, 4, 10, Tests.MIN, Tests.MAX}) {
            for (int n : new int[] {0, 1, 40}) Tests.refused("sheet(0, " + sort + ", " + n + ")", -1, x -> x.sheet(0, sort, n));
        }
    }

    static void promise35FortyItems() {
        for (int sort = 0; sort < 4; sort++) {
            CrashTies x = row(sort, 40);
            for (int i = 0; i < 40; i++) {
                Tests.due("item(2, .., " + i + ")", x.item(2, sort, i), 0);
                Tests.due("put(2, " + i + ", ..)", x.put(2, i, i + 1), 1);
            }
            for (int i = 0; i < 40; i++) Tests.due("item(2, .., " + i + ")", x.item(2, sort, i), i + 1);
            int of = sort;
            for (int n : new int[] {41, 80, Tests.MAX}) Tests.refused("sheet(0, " + sort + ", " + n + ")", -1, y -> y.sheet(0, of, n));
        }
    }

    static void promise35NoItems() {
        for (int sort = 0; sort < 4; sort++) {
            CrashTies x = row(sort, 0);
            Tests.due("item(2, .., 0)", x.item(2, sort, 0), -12);
            Tests.due("put(2, 0, 1)", x.put(2, 0, 1), -12);
            x.shelf(0, 1, 2);
            Tests.due("taken(0, ..)", x.taken(0, 10 + sort), 0);
        }
    }

    static void promise35BelowZero() {
        for (int sort = 0; sort < 4; sort++) {
            int of = sort;
            for (int n : new int[] {-1, -40, Tests.MIN}) Tests.refused("sheet(0, " + sort + ", " + n + ")", -14, x -> x.sheet(0, of, n));
        }
    }

    static void promise35BadAheadOfBelowZero() {
        for (int sheet : new int[] {-1, 4}) Tests.refused("sheet(" + sheet + ", 0, -1)", -1, x -> x.sheet(sheet, 0, -1));
        for (int sort : new int[] {-2, 4}) Tests.refused("sheet(0, " + sort + ", -1)", -1, x -> x.sheet(0, sort, -1));
    }

    static void promise35Missing() {
        for (int n : new int[] {0, 5, 41, -1, Tests.MIN, Tests.MAX}) {
            CrashTies x = row(0, 3);
            Tests.due("sheet(2, -1, " + n + ")", x.sheet(2, -1, n), 1);
            Tests.due("item(2, 0, 0)", x.item(2, 0, 0), -11);
            Tests.due("put(2, 0, 0)", x.put(2, 0, 0), -11);
            Tests.due("sheet(2, -1, " + n + ") of what is missing", x.sheet(2, -1, n), 1);
        }
        for (int sheet : new int[] {-1, 4}) Tests.refused("sheet(" + sheet + ", -1, 0)", -1, x -> x.sheet(sheet, -1, 0));
    }

    static void promise35TermsMissingAtFirst() {
        CrashTies x = new CrashTies();
        for (int sheet = 0; sheet < 4; sheet++) {
            Tests.due("put(" + sheet + ", 0, 0)", x.put(sheet, 0, 0), -11);
            for (int sort = 0; sort < 4; sort++) Tests.due("item(" + sheet + ", " + sort + ", 0)", x.item(sheet, sort, 0), -11);
        }
    }

    static void promise35AllZeroAnew() {
        for (int sort = 0; sort < 4; sort++) {
            CrashTies x = row(sort, 40);
            for (int i = 0; i < 40; i++) x.put(2, i, 7);
            x.sheet(2, sort, 2);
            Tests.due("item(2, .., 2) of a shorter row", x.item(2, sort, 2), -12);
            x.sheet(2, sort, 40);
            for (int i = 0; i < 40; i++) Tests.due("item(2, .., " + i + ")", x.item(2, sort, i), 0);
        }
    }

    static void promise35SheetsAreApart() {
        CrashTies x = new CrashTies();
        for (int sheet = 0; sheet < 4; sheet++) {
            x.sheet(sheet, 2, 40);
            x.put(sheet, 0, 10 + sheet);
            x.put(sheet, 39, 20 + sheet);
        }
        x.sheet(1, -1, 0);
        for (int sheet : new int[] {0, 2, 3}) {
            Tests.due("item(" + sheet + ", 2, 0)", x.item(sheet, 2, 0), 10 + sheet);
            Tests.due("item(" + sheet + ", 2, 39)", x.item(sheet, 2, 39), 20 + sheet);
        }
    }

    // ---- promise 36

    static void promise36Sheets() {
        for (int sheet : new int[] {-1, 4, Tests.MIN, Tests.MAX}) Tests.refused("put(" + sheet + ", 0, 1)", -1, x -> x.put(sheet, 0, 1));
    }

    static void promise36Missing() {
        for (int i : new int[] {0, -1, 40, Tests.MIN, Tests.MAX}) Tests.refused("put(3, " + i + ", 1)", -11, x -> x.put(3, i, 1));
    }

    static void promise36Places() {
        CrashTies x = row(2, 3);
        Tests.due("put(2, 0, 5)", x.put(2, 0, 5), 1);
        Tests.due("put(2, 2, 6)", x.put(2, 2, 6), 1);
        Tests.due("item(2, 2, 0)", x.item(2, 2, 0), 5);
        Tests.due("item(2, 2, 1)", x.item(2, 2, 1), 0);
        Tests.due("item(2, 2, 2)", x.item(2, 2, 2), 6);
        for (int i : new int[] {-1, 3, 40, Tests.MIN, Tests.MAX}) Tests.refused("put(0, " + i + ", 1)", -12, y -> y.put(0, i, 1));
        for (int i : new int[] {-1, 0}) Tests.refused("put(2, " + i + ", 1) of an empty row", -12, y -> y.put(2, i, 1));
        CrashTies most = row(0, 40);
        Tests.due("put(2, 39, 1)", most.put(2, 39, 1), 1);
        Tests.due("put(2, 40, 1)", most.put(2, 40, 1), -12);
    }

    private static void narrowed(int sort, int v, int want) {
        CrashTies x = row(sort, 1);
        Tests.due("put(2, 0, " + v + ")", x.put(2, 0, v), 1);
        Tests.due("item(2, " + sort + ", 0) of " + v, x.item(2, sort, 0), want);
    }

    static void promise36NarrowedToBytes() {
        int[] put = {127, 128, 255, 256, -1, -128, -129, -256, 384, Tests.MIN, Tests.MAX};
        int[] has = {127, -128, -1, 0, -1, -128, 127, 0, -128, 0, -1};
        for (int i = 0; i < put.length; i++) narrowed(0, put[i], has[i]);
    }

    static void promise36NarrowedToShorts() {
        int[] put = {128, 32767, 32768, 65535, 65536, -1, -32768, -32769, Tests.MIN, Tests.MAX};
        int[] has = {128, 32767, -32768, -1, 0, -1, -32768, 32767, 0, -1};
        for (int i = 0; i < put.length; i++) narrowed(1, put[i], has[i]);
    }

    static void promise36IntsAndLongsAsTheyAre() {
        for (int sort = 2; sort < 4; sort++) {
            for (int v : new int[] {0, -1, 32768, 65536, Tests.MIN, Tests.MAX}) narrowed(sort, v, v);
        }
    }

    // ---- promise 37

    static void promise37SheetsAndSorts() {
        for (int sheet : new int[] {-1, 4, Tests.MIN, Tests.MAX}) Tests.refused("item(" + sheet + ", 0, 0)", -1, x -> x.item(sheet, 0, 0));
        for (int sort : new int[] {-1, 4, 10, Tests.MIN, Tests.MAX}) {
            Tests.refused("item(0, " + sort + ", 0)", -1, x -> x.item(0, sort, 0));
            Tests.refused("item(3, " + sort + ", 0) of what is missing", -1, x -> x.item(3, sort, 0));
        }
    }

    static void promise37Missing() {
        for (int sort = 0; sort < 4; sort++) {
            int of = sort;
            for (int i : new int[] {0, -1, 40}) Tests.refused("item(3, " + sort + ", " + i + ")", -11, x -> x.item(3, of, i));
        }
    }

    static void promise37OtherSort() {
        for (int sort = 1; sort < 4; sort++) {
            int of = sort;
            for (int i : new int[] {0, -1, 3, Tests.MAX}) Tests.refused("item(0, " + sort + ", " + i + ")", -13, x -> x.item(0, of, i));
        }
        Tests.refused("item(2, 3, 0) of an empty row", -13, x -> x.item(2, 3, 0));
    }

    static void promise37Places() {
        for (int i : new int[] {-1, 3, 39, 40, Tests.MIN, Tests.MAX}) Tests.refused("item(0, 0, " + i + ")", -12, x -> x.item(0, 0, i));
        Tests.due("item(0, 0, 2), the last one", Tests.made(Scenes::busy).item(0, 0, 2), 0);
        Tests.due("item(0, 0, 1)", Tests.made(Scenes::busy).item(0, 0, 1), -56);
    }

    /** An item may be as low as a refusal. */
    static void promise37ItemsAsLowAsRefusals() {
        for (int sort = 0; sort < 4; sort++) {
            for (int v = -15; v < 0; v++) narrowed(sort, v, v);
        }
    }

    // ---- promise 38

    static void promise38Shelves() {
        CrashTies x = Scenes.with(0, 4);
        for (int shelf = 0; shelf < 4; shelf++) Tests.due("shelf(" + shelf + ", 0, ..)", x.shelf(shelf, 0, 3 - shelf), 1);
        for (int shelf = 0; shelf < 4; shelf++) Tests.due("taken(" + shelf + ", 0)", x.taken(shelf, 0), 3 - shelf);
        for (int shelf : new int[] {-1, 4, Tests.MIN, Tests.MAX}) {
            for (int what = 0; what < 3; what++) {
                int asked = what;
                Tests.refused("shelf(" + shelf + ", " + what + ", 0)", -1, y -> y.shelf(shelf, asked, 0));
            }
        }
    }

    static void promise38What() {
        for (int what : new int[] {-1, 3, Tests.MIN, Tests.MAX}) Tests.refused("shelf(0, " + what + ", 0)", -1, x -> x.shelf(0, what, 0));
    }

    static void promise38Claims() {
        for (int n : new int[] {-1, 5, 9, Tests.MIN, Tests.MAX}) Tests.refused("shelf(0, 0, " + n + ")", -1, x -> x.shelf(0, 0, n));
        CrashTies x = Scenes.with(0, 9);
        Tests.due("shelf(3, 0, 8), the ninth", x.shelf(3, 0, 8), 1);
        Tests.due("taken(3, 0)", x.taken(3, 0), 8);
        Tests.due("shelf(0, 0, 0) of no claims", new CrashTies().shelf(0, 0, 0), -1);
    }

    static void promise38Rows() {
        for (int n : new int[] {-1, 4, Tests.MIN, Tests.MAX}) Tests.refused("shelf(0, 1, " + n + ")", -1, x -> x.shelf(0, 1, n));
        CrashTies x = new CrashTies();
        for (int sheet = 0; sheet < 4; sheet++) {
            x.sheet(sheet, sheet, 10 * sheet);
            Tests.due("shelf(3, 1, " + sheet + ")", x.shelf(3, 1, sheet), 1);
            Tests.due("taken(3, ..)", x.taken(3, 10 + sheet), 10 * sheet);
        }
    }

    static void promise38MissingIsNothing() {
        CrashTies x = Tests.made(Scenes::busy);
        Tests.due("shelf(0, 1, 3) of what is missing", x.shelf(0, 1, 3), 1);
        Tests.due("taken(0, 0)", x.taken(0, 0), -11);
        Tests.due("taken(0, 10)", x.taken(0, 10), -11);
        x.sheet(3, 0, 5);
        Tests.due("taken(0, 10) of the sheet that came later", x.taken(0, 10), -11);
    }

    static void promise38Nothing() {
        for (int n : new int[] {0, -1, 99, Tests.MIN, Tests.MAX}) {
            CrashTies x = Tests.made(Scenes::busy);
            for (int shelf = 0; shelf < 4; shelf++) {
                Tests.due("shelf(" + shelf + ", 2, " + n + ")", x.shelf(shelf, 2, n), 1);
                Tests.due("taken(" + shelf + ", 0)", x.taken(shelf, 0), -11);
            }
        }
    }

    static void promise38TermsNothingAtFirst() {
        CrashTies x = Scenes.with(0, 9);
        for (int shelf = 0; shelf < 4; shelf++) {
            for (int as : new int[] {0, 5, 10, 13}) Tests.due("taken(" + shelf + ", " + as + ")", x.taken(shelf, as), -11);
        }
    }

    /** A shelf holds a claim by its number: nothing while there is none, and the one that has the number later. */
    static void promise38TermsNoSuchClaimAnyMore() {
        CrashTies x = Scenes.with(0, 2);
        x.keep();
        x.claim(BUMP, 0, 0, 0, 50);
        x.shelf(0, 0, 2);
        x.shelf(1, 0, 1);
        Tests.due("act(0, HITS, 5)", x.act(0, HITS, 5), 7);
        x.again();
        Tests.due("taken(0, 0)", x.taken(0, 0), -11);
        Tests.due("taken(0, 10)", x.taken(0, 10), -11);
        Tests.due("taken(1, 0)", x.taken(1, 0), 1);
        Tests.due("act(0, HITS, 5)", x.act(0, HITS, 5), 0);
        Tests.due("many(7)", x.many(7), 0);
        x.claim(NECK, 0, 0, 0, 50);
        Tests.due("taken(0, 3) of the claim that came anew", x.taken(0, NECK), 2);
        Tests.due("act(0, HITS, 5)", x.act(0, HITS, 5), -7);
    }

    static void promise38TermsRowThatIsHeld() {
        CrashTies x = row(0, 5);
        x.shelf(0, 1, 2);
        x.sheet(2, 1, 7);
        Tests.due("taken(0, 10)", x.taken(0, 10), 5);
        Tests.due("taken(0, 11)", x.taken(0, 11), -13);
        x.sheet(2, -1, 0);
        Tests.due("taken(0, 10) where the sheet is missing", x.taken(0, 10), 5);
        x.shelf(0, 1, 2);
        Tests.due("taken(0, 10) of nothing", x.taken(0, 10), -11);
    }

    // ---- promise 39

    static void promise39ShelvesAndAs() {
        for (int shelf : new int[] {-1, 4, Tests.MIN, Tests.MAX}) {
            for (int as : new int[] {0, 5, 10, 13}) Tests.refused("taken(" + shelf + ", " + as + ")", -1, x -> x.taken(shelf, as));
        }
        for (int as : new int[] {-1, 6, 7, 8, 9, 14, Tests.MIN, Tests.MAX}) {
            for (int s = 0; s < 4; s++) {
                int shelf = s;
                Tests.refused("taken(" + s + ", " + as + ")", -1, x -> x.taken(shelf, as));
            }
        }
    }

    static void promise39Nothing() {
        for (int as : new int[] {0, 1, 2, 3, 4, 5, 10, 11, 12, 13}) Tests.refused("taken(3, " + as + ")", -11, x -> x.taken(3, as));
    }

    static void promise39KindsAndThoseUnderThem() {
        String[] under = {" 0 ", " 0 1 ", " 0 2 ", " 0 1 3 ", " 0 2 4 ", " 0 5 "};
        for (int kind = 0; kind < 6; kind++) {
            CrashTies x = new CrashTies();
            x.claim(0, 0, 0, 0, 0);
            x.claim(kind, 0, 0, 0, 0);
            x.shelf(2, 0, 1);
            for (int as = 0; as < 6; as++) Tests.due("taken(kind " + kind + ", " + as + ")", x.taken(2, as), under[kind].contains(" " + as + " ") ? 1 : -13);
            for (int as = 10; as < 14; as++) Tests.due("taken(kind " + kind + ", " + as + ")", x.taken(2, as), -13);
        }
    }

    static void promise39ClaimZero() {
        CrashTies x = Scenes.with(0, 1);
        x.shelf(0, 0, 0);
        Tests.due("taken(0, 0)", x.taken(0, 0), 0);
        Tests.due("taken(0, 1)", x.taken(0, 1), -13);
    }

    static void promise39RowsOfEachSort() {
        for (int sort = 0; sort < 4; sort++) {
            for (int n : new int[] {0, 1, 40}) {
                CrashTies x = row(sort, n);
                x.shelf(1, 1, 2);
                for (int as = 10; as < 14; as++) Tests.due("taken(1, " + as + ") of sort " + sort, x.taken(1, as), as == 10 + sort ? n : -13);
                for (int as = 0; as < 6; as++) Tests.due("taken(1, " + as + ") of a row", x.taken(1, as), -13);
            }
        }
    }

    // ---- promise 40

    /** Claim 3, on shelf 0: of a kind and a coin; three others are ahead of it. */
    private static CrashTies third(int kind, int coin) {
        CrashTies x = Scenes.with(0, 3);
        x.claim(kind, 0, 0, 0, coin);
        x.shelf(0, 0, 3);
        return x;
    }

    private static void acts(int kind, int coin, int act, int x, int want) {
        Tests.due("act " + act + " of kind " + kind + ", coin " + coin + ", with " + x, third(kind, coin).act(0, act, x), want);
    }

    private static void noAct(String call, Tests.Call made) {
        CrashTies x = Tests.made(Scenes::busy);
        Tests.due("many(7) ahead of it", x.many(7) > 0 ? 1 : 0, 1);
        Tests.due(call, made.on(x), 0);
        Tests.due("many(7) after " + call, x.many(7), 0);
        Tests.due("trace(0) after " + call, x.trace(0), -3);
        CrashTies twin = Tests.made(Scenes::busy);
        twin.act(3, 0, 0);
        Tests.alike("after " + call, x, twin);
    }

    static void promise40NoSuchShelf() {
        for (int shelf : new int[] {-1, 4, Tests.MIN, Tests.MAX}) noAct("act(" + shelf + ", 0, 1)", x -> x.act(shelf, 0, 1));
    }

    static void promise40NoSuchAct() {
        for (int act : new int[] {-1, 4, Tests.MIN, Tests.MAX}) noAct("act(0, " + act + ", 1)", x -> x.act(0, act, 1));
    }

    static void promise40Nothing() {
        for (int a = 0; a < 4; a++) {
            int act = a;
            noAct("act(3, " + a + ", 1)", x -> x.act(3, act, 1));
        }
    }

    static void promise40Row() {
        for (int a = 0; a < 4; a++) {
            int act = a;
            noAct("act(1, " + a + ", 1)", x -> x.act(1, act, 1));
        }
    }

    static void promise40ChangesOnlyTheTrace() {
        CrashTies x = Tests.made(Scenes::busy);
        x.act(0, TELLS, 5);
        x.act(9, 9, 9);
        CrashTies twin = Tests.made(Scenes::busy);
        twin.act(9, 9, 9);
        Tests.alike("after act(0, 3, 5)", x, twin);
    }

    static void promise40TermsHitsWrap() {
        acts(CLAIM, 0, HITS, Tests.MAX, Tests.MIN + 2);
        acts(CLAIM, 0, HITS, Tests.MAX - 3, Tests.MAX);
        acts(CLAIM, 0, HITS, -3, 0);
        acts(GLASS, 0, HITS, 715827879, 2147483646);
        acts(GLASS, 0, HITS, 715827880, -2147483647);
        acts(NECK, 0, HITS, Tests.MAX - 2, Tests.MIN);
        acts(NECK, 0, HITS, Tests.MAX - 3, -Tests.MAX);
        acts(THEFT, 0, HITS, Tests.MAX, (Tests.MIN + 2) * 3 - 3);
    }

    static void promise40TermsPaysWrap() {
        acts(CLAIM, 0, PAYS, 1073741820, 2147483646);
        acts(CLAIM, 0, PAYS, 1073741821, Tests.MIN);
        acts(BUMP, 99, PAYS, 1073741821, Tests.MAX - 98);
        acts(BUMP, 0, PAYS, 1073741821, Tests.MIN);
        acts(NECK, 1, PAYS, 1073741821, Tests.MAX - 6);
    }

    static void promise40TermsSharesCutTowardsZero() {
        int[][] shares = {{10, 9, 1}, {10, 6, 0}, {10, -6, 0}, {10, 7, 1}, {10, -7, -1}, {10, -8, -1}, {10, 13, 1}, {10, 14, 2}, {10, -14, -2}};
        for (int[] s : shares) acts(CLAIM, s[0], SHARES, s[1], s[2]);
        acts(CLAIM, 1, SHARES, 5, -2);
        acts(CLAIM, 1, SHARES, -5, 2);
        acts(CLAIM, 4, SHARES, Tests.MIN, Tests.MIN);
        acts(CLAIM, 2, SHARES, Tests.MIN, Tests.MIN);
        acts(CLAIM, 2, SHARES, Tests.MAX, -Tests.MAX);
        acts(THEFT, 10, SHARES, Tests.MAX, (Tests.MIN + 1) / 7 ^ 1);
    }

    static void promise40TermsTellsWrap() {
        acts(FIRE, 0, TELLS, 536870909, Tests.MIN);
        acts(FIRE, 4, SHARES, Tests.MAX, Tests.MIN + 6);
        acts(GLASS, 4, TELLS, 9, (72 ^ 4) + 3);
        acts(THEFT, 5, TELLS, 9, (66 ^ 5) + (5 / 2 ^ 1));
        acts(CLAIM, 99, TELLS, Tests.MAX, 4 ^ 99);
    }

    static void promise40TermsPartedByZero() {
        for (int x : new int[] {0, 1, -1, Tests.MIN, Tests.MAX}) {
            for (int kind : new int[] {CLAIM, BUMP, GLASS, NECK, THEFT, FIRE}) acts(kind, 3, SHARES, x, -15);
            for (int kind : new int[] {GLASS, THEFT}) acts(kind, 3, TELLS, x, -15);
        }
    }

    static void promise40TermsPartedByOneMoreOrLess() {
        for (int coin : new int[] {2, 4}) {
            acts(CLAIM, coin, SHARES, 9, coin == 4 ? 9 : -9);
            acts(FIRE, coin, SHARES, 9, (coin == 4 ? 9 : -9) + coin + 3);
            acts(THEFT, coin, SHARES, 9, (coin == 4 ? 11 : -11) ^ 1);
        }
    }

    /** An act that is parted leaves nothing to the next one. */
    static void promise40TermsActAfterOneThatWasParted() {
        CrashTies x = third(FIRE, 3);
        Tests.due("act(0, 2, 9)", x.act(0, SHARES, 9), -15);
        Tests.due("act(0, 0, 9)", x.act(0, HITS, 9), 12);
        trace(x, 10);
        Tests.due("act(0, 2, 9)", x.act(0, SHARES, 9), -15);
        trace(x, 61, 12);
    }

    /** Acts that don't share part nothing, though the number and the coin are the same. */
    static void promise40TermsNotParted() {
        for (int kind : new int[] {CLAIM, BUMP, NECK, FIRE}) Tests.due("act 3 of kind " + kind, third(kind, 3).act(0, TELLS, 9) == -15 ? 1 : 0, 0);
        acts(CLAIM, 3, TELLS, 9, 24 ^ 3);
        acts(BUMP, 3, TELLS, 9, 21 ^ 3);
        acts(FIRE, 3, TELLS, 9, (24 ^ 3) * 2);
        acts(NECK, 3, TELLS, 9, (-24 - 3 - 6) ^ 3);
    }

    /** That is all that act() answers then, and all that it changes is the trace. */
    static void promise40PartedChangesOnlyTheTrace() {
        Tests.Scene scene = y -> {
            Scenes.busy(y);
            y.claim(THEFT, 0, 0, 0, 5);
            y.shelf(0, 0, 5);
        };
        CrashTies x = Tests.made(scene);
        Tests.due("act(0, 3, 7)", x.act(0, TELLS, 7), -15);
        x.act(9, 9, 9);
        CrashTies twin = Tests.made(scene);
        twin.act(9, 9, 9);
        Tests.alike("after an act parted by 0", x, twin);
    }

    // ---- promise 41

    private static void trace(CrashTies x, int... bodies) {
        Tests.due("many(7)", x.many(7), bodies.length);
        for (int i = 0; i < bodies.length; i++) Tests.due("trace(" + i + ")", x.trace(i), bodies[i]);
        for (int i : new int[] {-1, bodies.length, bodies.length + 1, 29, 30, 31, Tests.MIN, Tests.MAX}) Tests.due("trace(" + i + ")", x.trace(i), -3);
    }

    static void promise41NoTrace() {
        trace(new CrashTies());
        trace(third(CLAIM, 0));
        for (int i : new int[] {-1, 8, 30, Tests.MIN, Tests.MAX}) Tests.refused("trace(" + i + ")", -3, x -> x.trace(i));
        Tests.changesNothing("trace(0)", x -> x.trace(0));
    }

    /** Of hits, pays, shares and tells of each kind; none has more than eight, so that the thirty kept are never full. */
    static void promise41TermsBodiesAsTheyBegan() {
        int[][][] bodies = {
            {{10}, {11, 10}, {12}, {13, 11, 10}},
            {{10}, {20, 11, 10}, {12}, {13, 20, 11, 10}},
            {{30, 10}, {11, 30, 10}, {12}, {31, 13, 11, 30, 10, 12}},
            {{40, 10}, {41, 20, 11, 40, 10, 40, 10}, {12}, {13, 41, 20, 11, 40, 10, 40, 10}},
            {{51, 30, 10}, {11, 51, 30, 10}, {50, 12}, {31, 13, 11, 51, 30, 10, 50, 12}},
            {{10}, {11, 10}, {61, 12, 10}, {60, 13, 11, 10}},
        };
        for (int kind = 0; kind < 6; kind++) {
            for (int act = 0; act < 4; act++) {
                CrashTies x = third(kind, 40);
                x.act(0, act, 9);
                trace(x, bodies[kind][act]);
            }
        }
    }

    static void promise41TermsTraceOfTheLatestAct() {
        CrashTies x = third(NECK, 40);
        x.act(0, TELLS, 1);
        x.act(0, HITS, 1);
        trace(x, 40, 10);
        x.act(0, PAYS, 1);
        trace(x, 41, 20, 11, 40, 10, 40, 10);
        x.act(0, 4, 1);
        trace(x);
    }

    /** A choice of this project: what ran until the parting is the trace of that act. */
    static void promise41TermsTraceOfAnActParted() {
        CrashTies x = third(FIRE, 3);
        x.act(0, SHARES, 9);
        trace(x, 61, 12);
        CrashTies theft = third(THEFT, 3);
        theft.act(0, TELLS, 9);
        trace(theft, 31, 13, 11, 51, 30, 10, 50, 12);
        CrashTies glass = third(GLASS, 3);
        glass.act(0, TELLS, 9);
        trace(glass, 31, 13, 11, 30, 10, 12);
    }

    static void promise37And39ChangeNothing() {
        Tests.changesNothing("item(0, 0, 1)", x -> x.item(0, 0, 1));
        Tests.changesNothing("taken(0, 1)", x -> x.taken(0, 1));
        Tests.changesNothing("taken(1, 10)", x -> x.taken(1, 10));
    }
}
