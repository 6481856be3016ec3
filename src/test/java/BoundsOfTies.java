/** Promises 12 to 16, and what the Terms say of strength, hanging together and steps. */
public final class BoundsOfTies {
    public static void main(String[] args) {
        Tests.run(BoundsOfTies.class);
    }

    /** Claims 0 and 1 of two kinds that nothing but their words ties, which count v. */
    private static CrashTies worded(int kind, int other, int v, int coin) {
        CrashTies x = new CrashTies();
        x.claim(kind, 0, 0, 1, coin);
        x.claim(other, 0, 0, 1, coin);
        x.set(3, v);
        return x;
    }

    private static void weighs(int kind, int coin, int v, int want) {
        Tests.due("tie(0, 1), the lesser one of kind " + kind + " weighs " + v, worded(kind, 0, v, coin).tie(0, 1), want);
        Tests.due("tie(0, 1), the greater one of kind " + kind + " weighs " + v, worded(0, kind, v, coin).tie(0, 1), want);
    }

    // ---- promise 12

    static void promise12Claims() {
        for (int claim : new int[] {-1, 5, 9, Tests.MIN, Tests.MAX}) {
            Tests.refused("tie(" + claim + ", 0)", -1, x -> x.tie(claim, 0));
            Tests.refused("tie(0, " + claim + ")", -1, x -> x.tie(0, claim));
            Tests.refused("tie(" + claim + ", " + claim + ")", -1, x -> x.tie(claim, claim));
        }
        Tests.due("tie(8, 0), the ninth", Tests.made(Scenes::full).tie(8, 0), 3);
        Tests.due("tie(0, 8), the ninth", Tests.made(Scenes::full).tie(0, 8), 3);
    }

    static void promise12TheSame() {
        for (int c = 0; c < 5; c++) {
            int claim = c;
            Tests.refused("tie(" + c + ", " + c + ")", -1, x -> x.tie(claim, claim));
        }
    }

    static void promise12TermsStrengthOfNothing() {
        CrashTies x = Scenes.with(2, 2);
        x.seat(0, 0, 0);
        x.seat(1, 0, 1);
        Tests.due("tie(0, 1) of two people", x.tie(0, 1), 0);
        Tests.due("tie(0, 1) of nobody", Scenes.with(0, 2).tie(0, 1), 0);
    }

    static void promise12TermsWordsZeroAreNone() {
        CrashTies x = new CrashTies();
        for (int words : new int[] {0, 0, 1, 1, 9, 9, 8}) x.claim(0, 0, 0, words, 0);
        Tests.due("tie(0, 1) of words 0", x.tie(0, 1), 0);
        Tests.due("tie(2, 3) of words 1", x.tie(2, 3), 3);
        Tests.due("tie(4, 5) of words 9", x.tie(4, 5), 3);
        Tests.due("tie(5, 6) of words 9 and 8", x.tie(5, 6), 0);
        Tests.due("tie(0, 2) of words 0 and 1", x.tie(0, 2), 0);
    }

    /** Every two places: the signs count 1, 2 and 4. */
    static void promise12TermsSignsOfPlaces() {
        for (int i = 0; i < 4; i++) {
            for (int j = 0; j < 4; j++) {
                CrashTies x = Scenes.with(1, 2);
                x.set(0, 1);
                x.set(1, 2);
                x.set(2, 4);
                x.seat(0, i, 0);
                x.seat(1, j, 0);
                int want = i == j ? 1 : i == 0 && j == 1 || i == 1 && j == 0 ? 2 : 4;
                Tests.due("tie(0, 1), places " + i + " and " + j, x.tie(0, 1), want);
                Tests.due("tie(1, 0), places " + i + " and " + j, x.tie(1, 0), want);
            }
        }
    }

    /** One in all places of both: 4 pairs of the same place, 2 turned, 10 other. */
    static void promise12TermsOneInAllPlacesOfBoth() {
        int[] want = {4, 2, 10, 1};
        for (int sign = 0; sign < 4; sign++) {
            CrashTies x = Tests.made(y -> Scenes.woven(y, 0, 0));
            for (int law = 0; law < 4; law++) x.set(law, law == sign ? 1 : 0);
            Tests.due("tie(0, 1) by sign " + sign, x.tie(0, 1), want[sign]);
        }
    }

    static void promise12TermsGreatestStrength() {
        Tests.due("tie(0, 8) of kind 0", Tests.made(x -> Scenes.woven(x, 0, 0)).tie(0, 8), 16 * 9 + 9);
        Tests.due("tie(0, 8) of necks", Tests.made(x -> Scenes.woven(x, 3, 0)).tie(0, 8), 2 * (2 * 154 + 1));
        Tests.due("tie(0, 8) of fires", Tests.made(x -> Scenes.woven(x, 5, 99)).tie(0, 8), 153 + 9 + 9);
    }

    static void promise12TermsHubsCountNothing() {
        CrashTies x = new CrashTies();
        x.person(0, true);
        x.person(0, false);
        Scenes.claims(x, 2);
        x.seat(0, 0, 0);
        x.seat(1, 0, 0);
        Tests.due("tie(0, 1) by a hub", x.tie(0, 1), 0);
        x.seat(0, 1, 1);
        x.seat(1, 1, 1);
        Tests.due("tie(0, 1) by one who is none", x.tie(0, 1), 2);
        x.join(0, 1);
        Tests.due("tie(0, 1) by one who came to be a hub", x.tie(0, 1), 0);
    }

    /** A one is a hub by any of those in it, also by one who is not the least and sits in neither claim. */
    static void promise12TermsHubByAnotherOfTheOne() {
        CrashTies x = Scenes.with(2, 2);
        x.person(0, true);
        x.seat(0, 0, 0);
        x.seat(1, 0, 0);
        Tests.due("tie(0, 1)", x.tie(0, 1), 2);
        x.join(2, 0);
        Tests.due("tie(0, 1) by one who came to be a hub", x.tie(0, 1), 0);
        x.seat(0, 0, 1);
        x.seat(1, 0, 1);
        Tests.due("tie(0, 1) by another one", x.tie(0, 1), 2);
    }

    /** Two people who are one tie as one does, whoever of them is the least. */
    static void promise12TermsTheSameOneByTwoPeople() {
        CrashTies x = Scenes.with(3, 2);
        x.seat(0, 0, 2);
        x.seat(1, 1, 1);
        Tests.due("tie(0, 1) by two who are not one", x.tie(0, 1), 0);
        x.join(1, 2);
        Tests.due("tie(0, 1) by two who are one", x.tie(0, 1), 4);
        x.join(0, 2);
        Tests.due("tie(0, 1) by two of three who are one", x.tie(0, 1), 4);
    }

    static void promise12TermsBumpAboveZero() {
        weighs(1, 0, 0, 0);
        weighs(1, 0, 1, 2);
        weighs(1, 0, 9, 10);
    }

    static void promise12TermsNeckAboveZero() {
        weighs(3, 0, 0, 0);
        weighs(3, 0, 1, 4);
        weighs(3, 0, 9, 20);
    }

    static void promise12TermsGlassCut() {
        int[] want = {0, 0, 1, 1, 2, 2, 3, 3, 4, 4};
        for (int v = 0; v < 10; v++) weighs(2, 0, v, want[v]);
    }

    static void promise12TermsTheftZeroAtLeast() {
        int[] want = {0, 0, 0, 0, 1, 1, 2, 2, 3, 3};
        for (int v = 0; v < 10; v++) weighs(4, 0, v, want[v]);
    }

    static void promise12TermsFireCoinCut() {
        int[] coins = {0, 9, 10, 19, 20, 89, 90, 99};
        int[] more = {0, 0, 1, 1, 2, 8, 9, 9};
        for (int i = 0; i < coins.length; i++) {
            weighs(5, coins[i], 0, more[i]);
            weighs(5, coins[i], 9, 9 + more[i]);
        }
    }

    static void promise12TermsFireItsOwnCoin() {
        CrashTies x = new CrashTies();
        x.claim(5, 0, 0, 0, 30);
        x.claim(0, 0, 0, 0, 99);
        x.claim(5, 0, 0, 0, 70);
        Tests.due("tie(0, 1)", x.tie(0, 1), 3);
        Tests.due("tie(1, 2)", x.tie(1, 2), 7);
        Tests.due("tie(0, 2)", x.tie(0, 2), 10);
    }

    static void promise12TermsLesserWeighsFirst() {
        Tests.due("glass, then bump of 1", worded(2, 1, 1, 0).tie(0, 1), 0);
        Tests.due("bump, then glass of 1", worded(1, 2, 1, 0).tie(0, 1), 1);
        Tests.due("bump, then glass of 1, asked the other way", worded(1, 2, 1, 0).tie(1, 0), 1);
        Tests.due("theft, then fire of 3", worded(4, 5, 3, 10).tie(0, 1), 1);
        Tests.due("fire, then theft of 3", worded(5, 4, 3, 10).tie(0, 1), 1);
        Tests.due("fire, then theft of 5", worded(5, 4, 5, 10).tie(0, 1), 2);
        Tests.due("theft, then neck of 3", worded(4, 3, 3, 0).tie(0, 1), 0);
        Tests.due("neck, then theft of 3", worded(3, 4, 3, 0).tie(0, 1), 3);
    }

    // ---- promise 13

    static void promise13Claims() {
        for (int claim : new int[] {-1, 5, 9, Tests.MIN, Tests.MAX}) Tests.refused("tied(" + claim + ")", -1, x -> x.tied(claim));
    }

    static void promise13WithNone() {
        Tests.due("tied(0) of one claim", Scenes.with(0, 1).tied(0), 0);
        Tests.due("tied(8) of nine that nothing ties", Scenes.with(0, 9).tied(8), 0);
    }

    /** A fire is tied with all others by its coin, but not with itself, nor with claims that aren't there. */
    static void promise13FireWithAllThatAreThere() {
        for (int n = 1; n <= 9; n++) {
            CrashTies x = Scenes.with(0, n - 1);
            x.claim(5, 0, 0, 0, 99);
            Tests.due("tied(the fire) of " + n, x.tied(n - 1), (1 << n - 1) - 1);
            Tests.due("hang(the fire) of " + n, x.hang(n - 1), (1 << n) - 1);
            CrashTies first = new CrashTies();
            first.claim(5, 0, 0, 0, 99);
            Scenes.claims(first, n - 1);
            Tests.due("tied(0), a fire of " + n, first.tied(0), (1 << n) - 2);
        }
    }

    static void promise13WithAll() {
        CrashTies x = Tests.made(Scenes::full);
        for (int c = 0; c < 9; c++) Tests.due("tied(" + c + ")", x.tied(c), 511 - (1 << c));
    }

    static void promise13TermsTiedAboveZero() {
        CrashTies x = worded(0, 0, 1, 0);
        Tests.due("tied(0) by 1", x.tied(0), 2);
        x.set(3, 0);
        Tests.due("tied(0) by 0", x.tied(0), 0);
        Tests.due("tied(0) by 1, which a glass makes 0", worded(2, 0, 1, 0).tied(0), 0);
        Tests.due("tied(1) by 3, which a theft makes 0", worded(0, 4, 3, 0).tied(1), 0);
        Tests.due("tied(1) by 4, which a theft makes 1", worded(0, 4, 4, 0).tied(1), 1);
    }

    // ---- promise 14

    static void promise14Claims() {
        for (int claim : new int[] {-1, 5, 9, Tests.MIN, Tests.MAX}) Tests.refused("hang(" + claim + ")", -1, x -> x.hang(claim));
    }

    static void promise14ItselfAlone() {
        CrashTies x = Scenes.with(0, 9);
        for (int c = 0; c < 9; c++) Tests.due("hang(" + c + ")", x.hang(c), 1 << c);
    }

    /** The claims in an order in which the numbers go to and fro, each two next to one another tied. */
    private static CrashTies chain(int links) {
        int[] order = {4, 0, 8, 1, 7, 2, 6, 3, 5};
        CrashTies x = Scenes.with(10, 9);
        for (int i = 0; i < links; i++) {
            x.seat(order[i], 0, i);
            x.seat(order[i + 1], 1, i);
        }
        return x;
    }

    static void promise14LongestWay() {
        CrashTies x = chain(8);
        for (int c = 0; c < 9; c++) Tests.due("hang(" + c + ")", x.hang(c), 511);
        CrashTies less = chain(7);
        for (int c = 0; c < 9; c++) Tests.due("hang(" + c + ") without the last one", less.hang(c), c == 5 ? 32 : 511 - 32);
    }

    static void promise14ByStrengthOne() {
        CrashTies x = worded(0, 0, 1, 0);
        Tests.due("hang(1) by 1", x.hang(1), 3);
        x.set(3, 0);
        Tests.due("hang(1) by 0", x.hang(1), 2);
    }

    static void promise14TwoThatHangApart() {
        CrashTies x = Scenes.with(2, 4);
        for (int c = 0; c < 4; c++) x.seat(c, 0, c % 2);
        for (int c = 0; c < 4; c++) Tests.due("hang(" + c + ")", x.hang(c), c % 2 == 0 ? 5 : 10);
    }

    /** Nobody hangs by a hub: he ties nothing. */
    static void promise14HubsTieNothing() {
        CrashTies x = new CrashTies();
        x.person(0, true);
        Scenes.claims(x, 3);
        for (int c = 0; c < 3; c++) x.seat(c, c, 0);
        for (int c = 0; c < 3; c++) Tests.due("hang(" + c + ")", x.hang(c), 1 << c);
    }

    // ---- promise 15

    static void promise15People() {
        for (int p : new int[] {-1, 6, 10, Tests.MIN, Tests.MAX}) {
            Tests.refused("steps(" + p + ", 0)", -1, x -> x.steps(p, 0));
            Tests.refused("steps(0, " + p + ")", -1, x -> x.steps(0, p));
            Tests.refused("steps(" + p + ", " + p + ")", -1, x -> x.steps(p, p));
        }
        Tests.due("steps(9, 9), the tenth", Scenes.with(10, 0).steps(9, 9), 0);
    }

    static void promise15NoWay() {
        Tests.refused("steps(0, 2)", -3, x -> x.steps(0, 2));
        Tests.due("steps(0, 1) of no claims", Scenes.with(2, 0).steps(0, 1), -3);
        CrashTies x = Scenes.with(2, 1);
        x.seat(0, 0, 0);
        Tests.due("steps(0, 1) where one sits in no claim", x.steps(0, 1), -3);
        Tests.due("steps(1, 0) where one sits in no claim", x.steps(1, 0), -3);
    }

    static void promise15NoneWhereOnlyPeopleAreMissingIsBad() {
        Tests.due("steps(0, 2) of two people", Scenes.with(2, 0).steps(0, 2), -1);
        Tests.due("steps(0, 0) of no people", new CrashTies().steps(0, 0), -1);
    }

    static void promise15OfOneOneZero() {
        CrashTies x = Scenes.with(3, 0);
        for (int p = 0; p < 3; p++) Tests.due("steps(" + p + ", " + p + ")", x.steps(p, p), 0);
        x.join(0, 2);
        Tests.due("steps(0, 2) of one", x.steps(0, 2), 0);
        Tests.due("steps(2, 0) of one", x.steps(2, 0), 0);
        CrashTies hubs = new CrashTies();
        hubs.person(0, true);
        Tests.due("steps(0, 0) of a hub", hubs.steps(0, 0), 0);
    }

    /** Person i and person i + 1 sit in claim i. */
    private static CrashTies line(int hub) {
        CrashTies x = new CrashTies();
        for (int p = 0; p < 10; p++) x.person(0, p == hub);
        Scenes.claims(x, 9);
        for (int c = 0; c < 9; c++) {
            x.seat(c, c % 4, c);
            x.seat(c, (c + 1) % 4, c + 1);
        }
        return x;
    }

    static void promise15TermsStepsOneToNine() {
        CrashTies x = line(-1);
        for (int p = 0; p < 10; p++) {
            for (int q = 0; q < 10; q++) Tests.due("steps(" + p + ", " + q + ")", x.steps(p, q), Math.abs(p - q));
        }
    }

    static void promise15TermsHubsArePassedByNone() {
        CrashTies x = line(5);
        Tests.due("steps(4, 6) past a hub", x.steps(4, 6), -3);
        Tests.due("steps(6, 4) past a hub", x.steps(6, 4), -3);
        Tests.due("steps(0, 4) beside a hub", x.steps(0, 4), 4);
        Tests.due("steps(6, 9) beside a hub", x.steps(6, 9), 3);
    }

    static void promise15TermsHubsAtTheEnds() {
        CrashTies x = line(5);
        Tests.due("steps(0, 5) to a hub", x.steps(0, 5), 5);
        Tests.due("steps(5, 0) from a hub", x.steps(5, 0), 5);
        Tests.due("steps(5, 9) from a hub", x.steps(5, 9), 4);
        CrashTies two = line(0);
        two.join(0, 9);
        Tests.due("steps(0, 9) of one hub", two.steps(0, 9), 0);
        CrashTies both = new CrashTies();
        for (int p = 0; p < 3; p++) both.person(0, p != 1);
        Scenes.claims(both, 2);
        both.seat(0, 0, 0);
        both.seat(0, 1, 1);
        both.seat(1, 0, 1);
        both.seat(1, 1, 2);
        Tests.due("steps(0, 2) from a hub to a hub", both.steps(0, 2), 2);
    }

    /** A one whom nobody passes is a hub by any of those in it. */
    static void promise15TermsHubByAnotherOfTheOne() {
        CrashTies x = line(9);
        Tests.due("steps(4, 6)", x.steps(4, 6), 2);
        x.seat(8, 1, -1);
        x.join(5, 9);
        Tests.due("steps(4, 6) past one who came to be a hub", x.steps(4, 6), -3);
        Tests.due("steps(4, 5) to him", x.steps(4, 5), 1);
        Tests.due("steps(9, 6) from him", x.steps(9, 6), 1);
    }

    /** One goes on from the claims of all who are one. */
    static void promise15TermsWayByTwoWhoAreOne() {
        CrashTies x = Scenes.with(4, 2);
        x.seat(0, 0, 0);
        x.seat(0, 1, 1);
        x.seat(1, 2, 2);
        x.seat(1, 3, 3);
        Tests.due("steps(0, 3)", x.steps(0, 3), -3);
        x.join(2, 1);
        Tests.due("steps(0, 3) by way of two who are one", x.steps(0, 3), 2);
        Tests.due("steps(3, 0)", x.steps(3, 0), 2);
        Tests.due("steps(2, 0)", x.steps(2, 0), 1);
        Tests.due("steps(1, 3)", x.steps(1, 3), 1);
    }

    /** A claim is a step, of whatever kind, and though nothing ties it with others. */
    static void promise15TermsClaimsOfEachKind() {
        for (int kind = 0; kind < 6; kind++) {
            CrashTies x = Scenes.with(3, 0);
            x.claim(kind, 99, 3, 0, 0);
            x.claim(kind, 0, 0, 9, 99);
            x.set(0, 0);
            x.set(2, 0);
            x.seat(0, 0, 0);
            x.seat(0, 3, 1);
            x.seat(1, 3, 1);
            x.seat(1, 1, 2);
            Tests.due("steps(0, 1) by kind " + kind, x.steps(0, 1), 1);
            Tests.due("steps(0, 2) by kind " + kind, x.steps(0, 2), 2);
        }
    }

    static void promise15TermsWayAroundAHub() {
        CrashTies x = new CrashTies();
        for (int p = 0; p < 5; p++) x.person(0, p == 1);
        Scenes.claims(x, 5);
        int[][] sit = {{0, 1}, {1, 2}, {0, 3}, {3, 4}, {4, 2}};
        for (int c = 0; c < 5; c++) {
            x.seat(c, 0, sit[c][0]);
            x.seat(c, 1, sit[c][1]);
        }
        Tests.due("steps(0, 2)", x.steps(0, 2), 3);
    }

    // ---- promise 16

    static void promise16People() {
        for (int p : new int[] {-1, 6, 10, Tests.MIN, Tests.MAX}) Tests.refused("turned(" + p + ")", -1, x -> x.turned(p));
        Tests.due("turned(9), the tenth", Scenes.with(10, 0).turned(9), 0);
    }

    static void promise16InNone() {
        CrashTies x = Scenes.with(1, 9);
        Tests.due("turned(0) of one who sits nowhere", x.turned(0), 0);
        for (int c = 0; c < 9; c++) x.seat(c, 0, 0);
        Tests.due("turned(0) of one who is always in front", x.turned(0), 0);
        for (int c = 0; c < 9; c++) {
            x.seat(c, 0, -1);
            x.seat(c, c % 2 == 0 ? 2 : 3, 0);
        }
        Tests.due("turned(0) of one in the other places", x.turned(0), 0);
    }

    static void promise16FourByFive() {
        CrashTies x = Scenes.with(1, 9);
        for (int c = 0; c < 9; c++) x.seat(c, c % 2, 0);
        Tests.due("turned(0)", x.turned(0), 20);
    }

    /** A hub is turned as anyone is. */
    static void promise16HubsToo() {
        CrashTies x = new CrashTies();
        x.person(0, true);
        Scenes.claims(x, 3);
        for (int c = 0; c < 3; c++) x.seat(c, c % 2, 0);
        Tests.due("turned(0) of a hub", x.turned(0), 2);
    }

    /** In front is one, behind another of whom he is one. */
    static void promise16HisOneInBothPlaces() {
        CrashTies x = Scenes.with(3, 2);
        x.seat(0, 0, 2);
        x.seat(1, 1, 1);
        for (int p = 0; p < 3; p++) Tests.due("turned(" + p + ") ahead of it", x.turned(p), 0);
        x.join(2, 1);
        Tests.due("turned(1)", x.turned(1), 1);
        Tests.due("turned(2)", x.turned(2), 1);
        Tests.due("turned(0)", x.turned(0), 0);
        x.join(0, 1);
        Tests.due("turned(0) who sits nowhere himself", x.turned(0), 1);
    }

    static void promise16OneClaimIsNoPair() {
        CrashTies x = Scenes.with(2, 1);
        x.seat(0, 0, 0);
        x.seat(0, 1, 1);
        x.join(0, 1);
        Tests.due("turned(0) of one in both places of one claim", x.turned(0), 0);
    }

    static void promise16EachPairOnce() {
        CrashTies x = Tests.made(y -> Scenes.woven(y, 0, 0));
        for (int p = 0; p < 4; p++) Tests.due("turned(" + p + ")", x.turned(p), 36);
    }

    static void promise16BothWays() {
        for (int first = 0; first < 2; first++) {
            CrashTies x = Scenes.with(1, 2);
            x.seat(0, first, 0);
            x.seat(1, 1 - first, 0);
            Tests.due("turned(0), place " + first + " first", x.turned(0), 1);
        }
    }

    /** In front behind nobody: a place where nobody is turns with nothing. */
    static void promise16NobodyIsNoOne() {
        CrashTies x = Scenes.with(2, 3);
        x.seat(0, 0, 0);
        x.seat(1, 0, 1);
        Tests.due("turned(0)", x.turned(0), 0);
        Tests.due("turned(1)", x.turned(1), 0);
    }

    static void promise12To16ChangeNothing() {
        Tests.changesNothing("tie(0, 1)", x -> x.tie(0, 1));
        Tests.changesNothing("tied(1)", x -> x.tied(1));
        Tests.changesNothing("hang(1)", x -> x.hang(1));
        Tests.changesNothing("steps(0, 1)", x -> x.steps(0, 1));
        Tests.changesNothing("turned(0)", x -> x.turned(0));
    }
}
