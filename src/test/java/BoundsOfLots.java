/** Promises 17 to 24, and part 2 of the Terms. */
public final class BoundsOfLots {
    public static void main(String[] args) {
        Tests.run(BoundsOfLots.class);
    }

    private static CrashTies claims(int n) {
        return Scenes.with(10, n);
    }

    /** Claims that nothing but alike words ties, which count v; each of a day and a coin. */
    private static CrashTies worded(int n, int v, int day, int coin) {
        CrashTies x = new CrashTies();
        for (int c = 0; c < n; c++) x.claim(0, day, 0, 1, coin);
        x.set(3, v);
        return x;
    }

    // ---- promise 17

    static void promise17OthersInIt() {
        for (int set : new int[] {32, 33, 63, 512, -1, -32, 1 << 30, Tests.MIN, Tests.MAX}) {
            Tests.refused("score(" + set + ")", -1, x -> x.score(set));
        }
        Tests.due("score(1) of no claims", new CrashTies().score(1), -1);
        Tests.due("score(-1) of no claims", new CrashTies().score(-1), -1);
        CrashTies x = claims(9);
        for (int set : new int[] {512, 1023, -1, -512}) Tests.due("score(" + set + ") of nine", x.score(set), -1);
        for (int c = 0; c < 9; c++) Tests.due("score(the next one)", claims(c).score(1 << c), -1);
    }

    static void promise17EmptySet() {
        Tests.due("score(0) of no claims", new CrashTies().score(0), 100000);
        Tests.due("score(0) of nine", claims(9).score(0), 100000);
    }

    static void promise17OneClaim() {
        for (int c = 0; c < 9; c++) Tests.due("score(claim " + c + ")", claims(9).score(1 << c), 99997);
    }

    static void promise17AllClaims() {
        CrashTies x = claims(9);
        Tests.due("score(511)", x.score(511), 100000 - 27);
        x.seat(0, 0, 0);
        x.seat(8, 0, 0);
        Tests.due("score(511), the first and the last tied", x.score(511), 100000 - 27 + 2);
        Tests.due("score(257)", x.score(257), 100000 - 6 + 2);
        Tests.due("score(255)", x.score(255), 100000 - 24);
    }

    static void promise17TermsCostLeastAndMost() {
        CrashTies x = claims(9);
        x.set(4, 0);
        Tests.due("score(511) of cost 0", x.score(511), 100000);
        x.set(4, 20);
        Tests.due("score(511) of cost 20", x.score(511), 99820);
    }

    static void promise17Greatest() {
        CrashTies x = Tests.made(y -> Scenes.woven(y, 3, 0));
        x.set(4, 0);
        Tests.due("score(511)", x.score(511), 100000 + 36 * 618);
        Tests.due("score(384)", x.score(384), 100000 + 618);
    }

    // ---- promise 18

    static void promise18What() {
        for (int what : new int[] {-1, 2, Tests.MIN, Tests.MAX}) Tests.refused("lot(" + what + ")", -1, x -> x.lot(what));
        CrashTies x = claims(2);
        Tests.due("lot(0)", x.lot(0), 3);
        Tests.due("lot(1)", x.lot(1), 99994);
    }

    static void promise18NoTwoClaims() {
        for (int n = 0; n < 2; n++) {
            int claims = n;
            for (int what = 0; what < 2; what++) {
                int asked = what;
                Tests.refused("lot(" + what + ") of " + n, -3, x -> Scenes.claims(x, claims), x -> x.lot(asked));
            }
        }
    }

    static void promise18BadAheadOfNone() {
        for (int what : new int[] {-1, 2}) Tests.due("lot(" + what + ") of no claims", new CrashTies().lot(what), -1);
    }

    /** A lot there is with two claims, however low its score. */
    static void promise18TermsLotBelowZero() {
        CrashTies x = claims(9);
        x.set(4, 20);
        Tests.due("lot(0)", x.lot(0), 3);
        Tests.due("lot(1)", x.lot(1), 99960);
    }

    static void promise18TermsLotOfAll() {
        CrashTies x = Tests.made(y -> Scenes.woven(y, 3, 0));
        x.set(4, 20);
        Tests.due("lot(0)", x.lot(0), 511);
        Tests.due("lot(1)", x.lot(1), 100000 + 36 * 618 - 180);
    }

    static void promise18TermsLotOfTheLast() {
        CrashTies x = claims(9);
        x.seat(7, 0, 0);
        x.seat(8, 0, 0);
        Tests.due("lot(0)", x.lot(0), 384);
        Tests.due("lot(1)", x.lot(1), 99996);
    }

    /** A claim that costs just what it brings is left out. */
    static void promise18TermsLotOfTheFewest() {
        CrashTies x = worded(3, 3, 0, 0);
        x.set(4, 6);
        Tests.due("score(3)", x.score(3), 100000 - 9);
        Tests.due("score(7)", x.score(7), 100000 - 9);
        Tests.due("lot(0)", x.lot(0), 3);
        x.set(4, 5);
        Tests.due("lot(0) of a lower cost", x.lot(0), 7);
    }

    /** Three claims and two claims of one score: the two, though they are greater as bits. */
    static void promise18TermsLotOfTheFewestAheadOfTheLeast() {
        CrashTies x = Scenes.with(1, 3);
        for (int c = 0; c < 3; c++) x.seat(c, 0, 0);
        x.claim(0, 0, 0, 1, 0);
        x.claim(0, 0, 0, 1, 0);
        Tests.due("score(7)", x.score(7), 99997);
        Tests.due("score(24)", x.score(24), 99997);
        Tests.due("lot(0)", x.lot(0), 24);
    }

    static void promise18TermsLotOfTheLeastBits() {
        CrashTies x = claims(6);
        int[][] pairs = {{0, 5}, {1, 4}, {2, 3}};
        for (int p = 0; p < 3; p++) {
            x.seat(pairs[p][0], 0, p);
            x.seat(pairs[p][1], 0, p);
        }
        Tests.due("lot(0)", x.lot(0), 12);
        x.seat(3, 0, -1);
        Tests.due("lot(0) of the two others", x.lot(0), 18);
    }

    // ---- promise 19

    static void promise19Levels() {
        for (int level : new int[] {-1001, 1001, Tests.MIN, Tests.MAX}) {
            Tests.refused("seen(" + level + ")", -1, x -> x.seen(level));
            Tests.due("seen(" + level + ") of no claims", new CrashTies().seen(level), -1);
        }
        Tests.due("seen(-1000)", claims(2).seen(-1000), 0);
        Tests.refused("seen(1000)", -3, x -> x.seen(1000));
    }

    static void promise19LevelThousand() {
        CrashTies x = Tests.made(y -> Scenes.woven(y, 3, 0));
        x.set(4, 0);
        Tests.due("seen(618) of two", x.seen(618), 11);
        Tests.due("seen(619) of three", x.seen(619), 22);
        Tests.due("seen(1000) of three", x.seen(1000), 22);
    }

    static void promise19NoTwoClaims() {
        for (int n = 0; n < 2; n++) {
            int claims = n;
            Tests.refused("seen(-1000) of " + n, -3, x -> Scenes.claims(x, claims), x -> x.seen(-1000));
        }
    }

    static void promise19JustThatLevel() {
        CrashTies x = worded(2, 9, 40, 0);
        Tests.due("seen(3), the score", x.seen(3), 40);
        Tests.due("seen(4), 1 more", x.seen(4), -3);
        Tests.due("seen(2)", x.seen(2), 40);
    }

    /** Neither the empty set nor one claim is seen, though their scores are higher. */
    static void promise19SetsOfTwoOrMore() {
        CrashTies x = claims(2);
        Tests.due("seen(0)", x.seen(0), -3);
        Tests.due("seen(-3)", x.seen(-3), -3);
        Tests.due("seen(-5)", x.seen(-5), -3);
        Tests.due("seen(-6)", x.seen(-6), 0);
    }

    static void promise19FirstAndLastDay() {
        CrashTies x = new CrashTies();
        x.claim(0, 99, 0, 1, 0);
        x.claim(0, 0, 0, 2, 0);
        Tests.due("seen(-6) of days 99 and 0", x.seen(-6), 99);
        x.claim(0, 0, 0, 2, 0);
        Tests.due("seen(-3) of day 0", x.seen(-3), 0);
        Tests.due("seen(-2)", x.seen(-2), -3);
    }

    static void promise19ByDaysNotByNumbers() {
        CrashTies x = new CrashTies();
        for (int day : new int[] {90, 30, 60, 31}) x.claim(0, day, 0, 1, 0);
        Tests.due("seen(-3)", x.seen(-3), 31);
        Tests.due("seen(0)", x.seen(0), 60);
        Tests.due("seen(6)", x.seen(6), 90);
        Tests.due("seen(7)", x.seen(7), -3);
    }

    /** A part of the claims of no later day is enough. */
    static void promise19SomeSetOfThem() {
        CrashTies x = claims(5);
        x.claim(0, 7, 0, 1, 0);
        x.claim(0, 7, 0, 1, 0);
        Tests.due("seen(-3)", x.seen(-3), 7);
    }

    /** Claims of that day all count, those of the next day don't. */
    static void promise19AllOfThatDay() {
        CrashTies x = new CrashTies();
        for (int day : new int[] {51, 50, 50, 50}) x.claim(0, day, 0, 1, 0);
        Tests.due("seen(0), three claims", x.seen(0), 50);
        Tests.due("seen(1), four claims", x.seen(1), 51);
        Tests.due("seen(6), four claims", x.seen(6), 51);
        Tests.due("seen(7)", x.seen(7), -3);
    }

    // ---- promise 20

    static void promise20Signs() {
        for (int sign : new int[] {-1, 4, 5, Tests.MIN, Tests.MAX}) {
            Tests.refused("without(" + sign + ")", -1, x -> x.without(sign));
            Tests.due("without(" + sign + ") of no claims", new CrashTies().without(sign), -1);
        }
        for (int sign = 0; sign < 4; sign++) Tests.due("without(" + sign + ")", claims(2).without(sign), 3);
    }

    static void promise20NoTwoClaims() {
        for (int n = 0; n < 2; n++) {
            for (int s = 0; s < 4; s++) {
                int claims = n;
                int sign = s;
                Tests.refused("without(" + s + ") of " + n, -3, x -> Scenes.claims(x, claims), x -> x.without(sign));
            }
        }
    }

    /** Each sign ties two claims of its own, by more than the first two are tied; without it these are the lot. */
    static void promise20EachSign() {
        int[][] seats = {{3, 3}, {0, 1}, {1, 3}};
        for (int sign = 0; sign < 4; sign++) {
            CrashTies x = claims(2);
            for (int c = 0; c < 2; c++) x.claim(0, 0, 0, sign == 3 ? 5 : 0, 0);
            for (int place = 0; place < 2 && sign < 3; place++) x.seat(2 + place, seats[sign][place], 0);
            for (int law = 0; law < 4; law++) x.set(law, 4);
            Tests.due("lot(0)", x.lot(0), 12);
            for (int without = 0; without < 4; without++) {
                Tests.due("without(" + without + ") of sign " + sign, x.without(without), without == sign ? 3 : 12);
            }
            Tests.due("hold()", x.hold(), 15 - (1 << sign));
        }
    }

    /** A sign that is taken for 0 counts nothing, and no less: what else ties the two keeps them level with the other two. */
    static void promise20SignTakenForZero() {
        int[][] seats = {{3, 3}, {0, 1}, {1, 3}};
        for (int sign = 0; sign < 3; sign++) {
            CrashTies x = Scenes.with(1, 0);
            for (int c = 0; c < 4; c++) x.claim(0, 0, 0, 1 + c / 2, 0);
            for (int c = 0; c < 2; c++) x.seat(2 + c, seats[sign][c], 0);
            Tests.due("lot(0)", x.lot(0), 12);
            Tests.due("without(" + sign + ")", x.without(sign), 3);
            CrashTies y = Scenes.with(1, 0);
            for (int c = 0; c < 4; c++) y.claim(0, 0, 0, 1 + c / 2, 0);
            for (int c = 0; c < 2; c++) y.seat(c, seats[sign][c], 0);
            Tests.due("lot(0)", y.lot(0), 3);
            Tests.due("without(" + sign + ") of two that are level then", y.without(sign), 3);
        }
    }

    // ---- promise 21

    static void promise21NoTwoClaims() {
        for (int n = 0; n < 2; n++) {
            int claims = n;
            Tests.refused("hold() of " + n, -3, x -> Scenes.claims(x, claims), x -> x.hold());
        }
    }

    static void promise21AllHold() {
        Tests.due("hold() of two claims", claims(2).hold(), 15);
        Tests.due("hold() of all tied by all", Tests.made(x -> Scenes.woven(x, 0, 0)).hold(), 15);
    }

    /** Claims 0 and 1 are tied by all four signs, as much as a fire is tied with each of them by its coin. */
    static void promise21NoneHolds() {
        CrashTies x = Scenes.with(3, 0);
        x.claim(0, 0, 0, 1, 0);
        x.claim(0, 0, 0, 1, 0);
        x.claim(5, 0, 0, 0, 90);
        int[][] seats = {{0, 3, 0}, {0, 1, 1}, {0, 2, 2}, {1, 3, 0}, {1, 0, 1}, {1, 1, 2}};
        for (int[] seat : seats) x.seat(seat[0], seat[1], seat[2]);
        int[] laws = {2, 2, 2, 3, 20};
        for (int law = 0; law < 5; law++) x.set(law, laws[law]);
        Tests.due("tie(0, 1)", x.tie(0, 1), 9);
        Tests.due("tie(0, 2)", x.tie(0, 2), 9);
        Tests.due("lot(0)", x.lot(0), 3);
        for (int sign = 0; sign < 4; sign++) Tests.due("without(" + sign + ")", x.without(sign), 5);
        Tests.due("hold()", x.hold(), 0);
        x.set(1, 0);
        Tests.due("hold() where the lot is another one", x.hold(), 15);
    }

    static void promise21SignOfZeroHolds() {
        CrashTies x = worded(3, 0, 0, 0);
        Tests.due("hold()", x.hold(), 15);
    }

    // ---- promise 22

    /** Claims of town 0; person 0, who is of it, sits in so many of them. */
    private static CrashTies town(int size, int claims, int sits) {
        CrashTies x = Scenes.with(1, claims);
        x.size(0, size);
        for (int c = 0; c < sits; c++) x.seat(c, c % 4, 0);
        return x;
    }

    private static void odds(int size, int claims, int sits, long above, long below) {
        String call = " of " + sits + " of " + claims + " by a size of " + size;
        Tests.due("odds(0, 0)" + call, town(size, claims, sits).odds(0, 0), above);
        Tests.due("odds(0, 1)" + call, town(size, claims, sits).odds(0, 1), below);
    }

    static void promise22PeopleAndParts() {
        for (int p : new int[] {-1, 6, 10, Tests.MIN, Tests.MAX}) Tests.refused("odds(" + p + ", 0)", -1, x -> x.odds(p, 0));
        for (int part : new int[] {-1, 2, Tests.MIN, Tests.MAX}) Tests.refused("odds(0, " + part + ")", -1, x -> x.odds(0, part));
        Tests.due("odds(9, 1), the tenth", Scenes.with(10, 0).odds(9, 1), 1);
        Tests.due("odds(0, 0) of no people", new CrashTies().odds(0, 0), -1);
    }

    static void promise22NoClaims() {
        for (int size : new int[] {10, 50, 99}) odds(size, 0, 0, 1, 1);
    }

    static void promise22NoneOrMore() {
        for (int n = 1; n <= 9; n++) odds(99, n, 0, 1, 1);
        odds(10, 9, 0, 1, 1);
    }

    static void promise22All() {
        odds(10, 1, 1, 2, 5);
        odds(99, 1, 1, 4, 99);
        odds(10, 9, 9, 512, 1953125);
        odds(99, 9, 9, 262144L, 913517247483640899L);
    }

    static void promise22OneOrMore() {
        odds(10, 9, 1, 1953125 - 19683, 1953125);
        odds(99, 9, 1, 283267837759031524L, 913517247483640899L);
        odds(50, 2, 1, 96, 625);
    }

    static void promise22TermsPartsWithoutACommonDivisor() {
        odds(12, 1, 1, 1, 3);
        odds(16, 2, 1, 7, 16);
        odds(20, 2, 2, 1, 25);
        odds(97, 1, 1, 4, 97);
    }

    static void promise22OfHisTownAlone() {
        CrashTies x = Scenes.with(2, 2);
        x.claim(0, 0, 1, 0, 0);
        x.seat(2, 0, 0);
        Tests.due("odds(0, 0) of one who sits in another town's claim", x.odds(0, 0), 1);
        Tests.due("odds(0, 1)", x.odds(0, 1), 1);
        x.size(0, 10);
        x.size(1, 11);
        x.seat(0, 3, 0);
        Tests.due("odds(0, 0)", x.odds(0, 0), 16);
        Tests.due("odds(0, 1)", x.odds(0, 1), 25);
    }

    static void promise22HisOneInPlaces() {
        CrashTies x = Scenes.with(3, 2);
        x.size(0, 20);
        x.seat(0, 0, 1);
        x.seat(0, 1, 2);
        x.join(0, 1);
        x.join(1, 2);
        Tests.due("odds(0, 0) of one twice in one claim", x.odds(0, 0), 9);
        Tests.due("odds(0, 1)", x.odds(0, 1), 25);
    }

    /** The town is the one of the person who is asked about, not of the least one whom he is one with. */
    static void promise22TownOfThePersonHimself() {
        CrashTies x = new CrashTies();
        x.person(0, false);
        x.person(1, false);
        x.claim(0, 0, 1, 0, 0);
        x.seat(0, 0, 1);
        x.size(0, 10);
        x.size(1, 12);
        x.join(0, 1);
        Tests.due("odds(1, 0)", x.odds(1, 0), 1);
        Tests.due("odds(1, 1)", x.odds(1, 1), 3);
        Tests.due("odds(0, 0) of the other town, where no claim is", x.odds(0, 0), 1);
        Tests.due("odds(0, 1)", x.odds(0, 1), 1);
    }

    static void promise22HubsToo() {
        CrashTies x = new CrashTies();
        x.person(2, true);
        x.claim(0, 0, 2, 0, 0);
        x.seat(0, 3, 0);
        Tests.due("odds(0, 0) of a hub", x.odds(0, 0), 2);
        Tests.due("odds(0, 1) of a hub", x.odds(0, 1), 25);
    }

    // ---- promise 23

    static void promise23Claims() {
        for (int claim : new int[] {-1, 5, 9, Tests.MIN, Tests.MAX}) Tests.refused("likely(" + claim + ")", -1, x -> x.likely(claim));
        Tests.due("likely(8), the ninth", claims(9).likely(8), 0);
    }

    static void promise23WithNoOthers() {
        CrashTies x = new CrashTies();
        x.claim(5, 0, 0, 1, 99);
        Tests.due("likely(0) of one claim", x.likely(0), 0);
    }

    static void promise23TermsLikelyNineAtMost() {
        for (int v = 0; v < 10; v++) Tests.due("likely(0) by " + v, worded(2, v, 0, 0).likely(0), v);
        int[] three = {0, 2, 4, 6, 8, 9, 9, 9, 9, 9};
        for (int v = 0; v < 10; v++) Tests.due("likely(1) by twice " + v, worded(3, v, 0, 0).likely(1), three[v]);
        CrashTies bump = new CrashTies();
        for (int c = 0; c < 2; c++) bump.claim(c, 0, 0, 1, 0);
        bump.set(3, 8);
        Tests.due("likely(0) by 9", bump.likely(0), 9);
        bump.set(3, 9);
        Tests.due("likely(0) by 10", bump.likely(0), 9);
        Tests.due("likely(8) of the greatest", Tests.made(x -> Scenes.woven(x, 3, 0)).likely(8), 9);
    }

    /** Others of other towns, kinds and days count as well, whether they are in the lot or not. */
    static void promise23WithAllOthers() {
        CrashTies x = new CrashTies();
        x.claim(0, 0, 0, 1, 0);
        x.claim(0, 99, 1, 1, 0);
        x.claim(5, 50, 3, 0, 25);
        x.claim(2, 50, 2, 1, 0);
        Tests.due("likely(0)", x.likely(0), 3 + 2 + 1);
        Tests.due("likely(1)", x.likely(1), 3 + 2 + 1);
        Tests.due("likely(2)", x.likely(2), 2 + 2 + 1);
        Tests.due("likely(3)", x.likely(3), 1 + 1 + 1);
        x.set(4, 20);
        Tests.due("lot(0)", x.lot(0), 3);
        Tests.due("likely(3) of one beside the lot", x.likely(3), 3);
    }

    // ---- promise 24

    private static void best(CrashTies x, int hours, int set, int worth) {
        x.set(5, hours);
        Tests.due("best(0) of " + hours + " hours", x.best(0), set);
        Tests.due("best(1) of " + hours + " hours", x.best(1), 100000 + worth);
    }

    static void promise24What() {
        for (int what : new int[] {-1, 2, Tests.MIN, Tests.MAX}) Tests.refused("best(" + what + ")", -1, x -> x.best(what));
        Tests.due("best(-1) of no claims", new CrashTies().best(-1), -1);
    }

    static void promise24NoClaims() {
        best(new CrashTies(), 0, 0, 0);
        best(new CrashTies(), 30, 0, 0);
    }

    static void promise24TermsHoursOfAClaim() {
        for (int people = 0; people <= 4; people++) {
            CrashTies x = worded(2, 3, 0, 99);
            Scenes.people(x, 4);
            for (int place = 0; place < 4; place++) x.seat(1, place, place);
            for (int place = 0; place < people; place++) x.seat(0, place, place);
            x.set(0, 0);
            x.set(1, 0);
            x.set(2, 0);
            best(x, 1 + people, 1, 3 * 99 - 14);
            best(x, people, 0, 0);
        }
    }

    static void promise24TermsHoursTogether() {
        CrashTies x = Tests.made(y -> Scenes.woven(y, 0, 99));
        best(x, 30, 63, 6 * 889);
        best(x, 29, 31, 5 * 889);
        best(x, 25, 31, 5 * 889);
        best(x, 24, 15, 4 * 889);
        best(x, 5, 1, 889);
        best(x, 4, 0, 0);
        best(x, 0, 0, 0);
    }

    /** Each takes 2 hours; worth 9 times its coin, which is its number, less 2. */
    static void promise24TermsHoursOfNine() {
        CrashTies x = Tests.made(Scenes::full);
        best(x, 30, 510, 9 * 36 - 16);
        best(x, 16, 510, 9 * 36 - 16);
        best(x, 15, 508, 9 * 35 - 14);
        best(x, 2, 256, 70);
        best(x, 1, 0, 0);
    }

    static void promise24TermsWorthZeroAddsNothing() {
        CrashTies x = worded(2, 5, 0, 4);
        x.set(6, 4);
        best(x, 30, 0, 0);
        x.set(6, 3);
        best(x, 30, 3, 10);
        x.set(6, 5);
        best(x, 30, 0, 0);
    }

    static void promise24TermsWaitLeastAndMost() {
        CrashTies x = worded(2, 9, 0, 99);
        x.set(6, 20);
        best(x, 30, 3, 2 * (9 * 99 - 20));
        x.set(6, 0);
        best(x, 30, 3, 2 * 9 * 99);
        CrashTies alone = new CrashTies();
        alone.claim(0, 0, 0, 0, 99);
        alone.set(6, 0);
        best(alone, 30, 0, 0);
    }

    static void promise24TermsWorthOfTheLeastBits() {
        CrashTies x = worded(9, 9, 0, 10);
        best(x, 1, 1, 88);
        best(x, 4, 15, 4 * 88);
        best(x, 8, 255, 8 * 88);
        best(x, 9, 511, 9 * 88);
    }

    static void promise17To24ChangeNothing() {
        Tests.changesNothing("score(7)", x -> x.score(7));
        Tests.changesNothing("lot(0)", x -> x.lot(0));
        Tests.changesNothing("lot(1)", x -> x.lot(1));
        Tests.changesNothing("seen(1)", x -> x.seen(1));
        for (int s = 0; s < 4; s++) {
            int sign = s;
            Tests.changesNothing("without(" + s + ")", x -> x.without(sign));
        }
        Tests.changesNothing("hold()", x -> x.hold());
        Tests.changesNothing("odds(0, 0)", x -> x.odds(0, 0));
        Tests.changesNothing("likely(1)", x -> x.likely(1));
        Tests.changesNothing("best(0)", x -> x.best(0));
        Tests.changesNothing("best(1)", x -> x.best(1));
    }
}
