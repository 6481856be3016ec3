/** Promises 1, 2 and 4 to 11, and part 1 of the Terms: each sentence that names a boundary has a test of its own. */
public final class BoundsOfPeopleAndClaims {
    public static void main(String[] args) {
        Tests.run(BoundsOfPeopleAndClaims.class);
    }

    // ---- promise 1

    static void promise01NoPeople() {
        CrashTies x = new CrashTies();
        Tests.due("many(0)", x.many(0), 0);
        Tests.due("many(3)", x.many(3), 0);
        Tests.due("personOf(0, 0)", x.personOf(0, 0), -1);
        Tests.due("person(0, false)", x.person(0, false), 0);
    }

    static void promise01NoClaims() {
        CrashTies x = new CrashTies();
        Tests.due("many(1)", x.many(1), 0);
        Tests.due("claimOf(0, 0)", x.claimOf(0, 0), -1);
        Tests.due("score(1)", x.score(1), -1);
        Tests.due("lot(0)", x.lot(0), -3);
        Tests.due("claim(0, 0, 0, 0, 0)", x.claim(0, 0, 0, 0, 0), 0);
    }

    static void promise01NoRules() {
        CrashTies x = new CrashTies();
        Tests.due("many(2)", x.many(2), 0);
        Tests.due("many(6)", x.many(6), 0);
        x.claim(0, 0, 0, 0, 0);
        Tests.due("says(0)", x.says(0), 0);
    }

    static void promise01NothingIsKept() {
        Tests.refused("again()", -3, x -> Scenes.claims(x, 2), x -> x.again());
        Tests.due("again() on a new object", new CrashTies().again(), -3);
    }

    static void promise01ObjectsAreApart() {
        CrashTies x = new CrashTies();
        CrashTies other = new CrashTies();
        Scenes.busy(other);
        Tests.alike("beside a busy object", x, new CrashTies());
    }

    static void promise01TermsSizesAtFirst() {
        for (int town = 0; town < 4; town++) Tests.due("size(" + town + ", 10)", new CrashTies().size(town, 10), 50);
    }

    static void promise01TermsLawsAtFirst() {
        int[] first = {2, 4, 1, 3, 3, 5, 2};
        for (int law = 0; law < 7; law++) Tests.due("set(" + law + ", 0)", new CrashTies().set(law, 0), first[law]);
    }

    // ---- promise 2

    static void promise02FewestBytes() {
        Tests.due("feed('!', 1)", new CrashTies().feed('!', 1), 1);
        for (int n : new int[] {0, -1, Tests.MIN}) Tests.refused("feed(1, " + n + ")", -1, x -> x.feed(1, n));
    }

    static void promise02MostBytes() {
        Tests.due("feed(1, 8)", new CrashTies().feed(1, 8), 8);
        for (int n : new int[] {9, 16, 256 + 8, Tests.MAX}) Tests.refused("feed(1, " + n + ")", -1, x -> x.feed(1, n));
    }

    static void promise02LowestByteFirst() {
        CrashTies x = new CrashTies();
        Tests.due("feed(' ! ', 3)", x.feed(0x202120L, 3), 3);
        Tests.due("rules()", x.rules(), -101);
        x.feed(0x2021L, 2);
        Tests.due("rules() of '! '", x.rules(), -100);
    }

    static void promise02OnlySoManyBytes() {
        CrashTies x = new CrashTies();
        Tests.due("feed(.., 4)", x.feed(0x216161613b796170L, 4), 4);
        Tests.due("rules() of the lowest four", x.rules(), 1);
        Tests.due("feed(.., 8)", x.feed(0x2120202020202020L, 8), 8);
        Tests.due("rules() of all eight", x.rules(), -107);
    }

    static void promise02HighestBytes() {
        CrashTies x = new CrashTies();
        Tests.due("feed(-1, 8)", x.feed(-1L, 8), 8);
        Tests.due("rules() of bytes of 255", x.rules(), -100);
        x.feed(0x8020202020202020L, 8);
        Tests.due("rules() of a byte of 128 at the end", x.rules(), -107);
        x.feed(0x2020202020202000L, 8);
        Tests.due("rules() of a byte of 0", x.rules(), -100);
    }

    private static void tape(CrashTies x, int bytes) {
        Scenes.feed(x, " ".repeat(bytes));
    }

    static void promise02TapeFull() {
        for (int n = 1; n <= 8; n++) {
            int last = n;
            CrashTies x = Tests.made(y -> tape(y, 200 - last));
            Tests.due("feed(0, " + n + ") up to 200", x.feed(0, n), 200);
            Tests.refused("feed(0, " + n + ") beyond 200", -2, y -> tape(y, 201 - last), y -> y.feed(0x2121212121212121L, last));
        }
    }

    static void promise02BadAheadOfFull() {
        for (int n : new int[] {-1, 0, 9}) Tests.refused("feed(1, " + n + ") on a full tape", -1, Scenes::full, x -> x.feed(1, n));
        Tests.refused("feed(1, 1) on a full tape", -2, Scenes::full, x -> x.feed(1, 1));
    }

    static void promise02RoomAgainAfterRules() {
        CrashTies x = Tests.made(y -> tape(y, 200));
        Tests.due("rules()", x.rules(), 0);
        Tests.due("feed(.., 8)", x.feed(0, 8), 8);
        Tests.due("many(6)", x.many(6), 8);
    }

    // ---- promise 4

    static void promise04SizeLeast() {
        CrashTies x = new CrashTies();
        Tests.due("size(0, 10)", x.size(0, 10), 50);
        Tests.due("size(0, 11)", x.size(0, 11), 10);
        for (int n : new int[] {9, 0, -1, -10, Tests.MIN}) Tests.refused("size(0, " + n + ")", -1, y -> y.size(0, n));
    }

    static void promise04SizeMost() {
        CrashTies x = new CrashTies();
        Tests.due("size(3, 99)", x.size(3, 99), 50);
        Tests.due("size(3, 98)", x.size(3, 98), 99);
        for (int n : new int[] {100, 256 + 50, Tests.MAX}) Tests.refused("size(3, " + n + ")", -1, y -> y.size(3, n));
    }

    static void promise04Towns() {
        CrashTies x = new CrashTies();
        for (int town = 0; town < 4; town++) Tests.due("size(" + town + ", ..)", x.size(town, 20 + town), 50);
        for (int town = 0; town < 4; town++) Tests.due("size(" + town + ", ..)", x.size(town, 50), 20 + town);
        for (int town : new int[] {-1, 4, Tests.MIN, Tests.MAX}) Tests.refused("size(" + town + ", 50)", -1, y -> y.size(town, 50));
    }

    // ---- promise 5

    static void promise05Towns() {
        CrashTies x = new CrashTies();
        for (int town = 0; town < 4; town++) {
            Tests.due("person(" + town + ", false)", x.person(town, false), town);
            Tests.due("personOf(" + town + ", 0)", x.personOf(town, 0), town);
        }
        for (int town : new int[] {-1, 4, Tests.MIN, Tests.MAX}) Tests.refused("person(" + town + ", true)", -1, y -> y.person(town, true));
    }

    static void promise05TenPeople() {
        CrashTies x = new CrashTies();
        for (int p = 0; p < 10; p++) Tests.due("person(..)", x.person(p % 4, p % 2 == 0), p);
        Tests.due("many(0)", x.many(0), 10);
        for (int p = 0; p < 10; p++) Tests.due("personOf(" + p + ", 2)", x.personOf(p, 2), p % 2 == 0 ? 1 : 0);
        Tests.refused("person(0, false), the eleventh", -2, Scenes::full, y -> y.person(0, false));
    }

    static void promise05BadAheadOfFull() {
        for (int town : new int[] {-1, 4}) Tests.refused("person(" + town + ", false), the eleventh", -1, Scenes::full, x -> x.person(town, false));
    }

    static void promise05FullThoughJoined() {
        CrashTies x = Scenes.with(10, 0);
        for (int p = 1; p < 10; p++) x.join(0, p);
        Tests.due("person(0, false) where ten are one", x.person(0, false), -2);
    }

    // ---- promise 6

    static void promise06People() {
        for (int p : new int[] {-1, 6, 10, Tests.MIN, Tests.MAX}) {
            for (int what = 0; what < 4; what++) {
                int asked = what;
                Tests.refused("personOf(" + p + ", " + what + ")", -1, x -> x.personOf(p, asked));
            }
        }
        Tests.due("personOf(9, 1), the tenth", Scenes.with(10, 0).personOf(9, 1), 9);
        Tests.due("personOf(5, 1), the last one", Tests.made(Scenes::busy).personOf(5, 1), 5);
    }

    static void promise06What() {
        CrashTies x = new CrashTies();
        x.person(3, true);
        int[] answers = {3, 0, 1, 0};
        for (int what = 0; what < 4; what++) Tests.due("personOf(0, " + what + ")", x.personOf(0, what), answers[what]);
        for (int what : new int[] {-1, 4, Tests.MIN, Tests.MAX}) Tests.refused("personOf(0, " + what + ")", -1, y -> y.personOf(0, what));
    }

    static void promise06InNoneAndInAll() {
        CrashTies x = Scenes.with(2, 9);
        for (int c = 0; c < 9; c++) {
            Tests.due("personOf(1, 3)", x.personOf(1, 3), c);
            x.seat(c, c % 4, 1);
        }
        Tests.due("personOf(1, 3) of all", x.personOf(1, 3), 9);
        Tests.due("personOf(0, 3) of none", x.personOf(0, 3), 0);
    }

    static void promise06ClaimWithOneInFourPlacesCountsOnce() {
        CrashTies x = Tests.made(y -> Scenes.woven(y, 0, 0));
        for (int p = 0; p < 4; p++) Tests.due("personOf(" + p + ", 3)", x.personOf(p, 3), 9);
    }

    /** The one is in a claim, if anyone of it is; the one who is asked about need not be there himself. */
    static void promise06InClaimsByHisOne() {
        CrashTies x = Scenes.with(4, 3);
        x.seat(0, 0, 0);
        x.seat(1, 1, 2);
        x.seat(2, 2, 3);
        Tests.due("personOf(1, 3) ahead of it", x.personOf(1, 3), 0);
        x.join(2, 0);
        x.join(1, 2);
        for (int p = 0; p < 3; p++) Tests.due("personOf(" + p + ", 3)", x.personOf(p, 3), 2);
        Tests.due("personOf(3, 3)", x.personOf(3, 3), 1);
        x.seat(1, 1, -1);
        Tests.due("personOf(1, 3) after one left", x.personOf(1, 3), 1);
    }

    // ---- promise 7

    /** Of each person the town stays his own. */
    static void promise07TownsStay() {
        CrashTies x = new CrashTies();
        for (int p = 0; p < 4; p++) x.person(3 - p, false);
        x.join(3, 1);
        x.join(1, 0);
        for (int p = 0; p < 4; p++) Tests.due("personOf(" + p + ", 0)", x.personOf(p, 0), 3 - p);
    }

    /** Who sits where stays as it was, though two of one claim come to be one. */
    static void promise07SeatsStay() {
        CrashTies x = Scenes.with(3, 1);
        for (int p = 0; p < 3; p++) x.seat(0, p, 2 - p);
        Tests.due("join(0, 2)", x.join(0, 2), 1);
        for (int p = 0; p < 3; p++) Tests.due("claimOf(0, 1" + p + ")", x.claimOf(0, 10 + p), 2 - p);
        Tests.due("seat(0, 0, 0)", x.seat(0, 0, 0), -4);
        Tests.due("seat(0, 1, 2)", x.seat(0, 1, 2), -4);
    }

    static void promise07People() {
        for (int p : new int[] {-1, 6, 10, Tests.MIN, Tests.MAX}) {
            Tests.refused("join(" + p + ", 0)", -1, x -> x.join(p, 0));
            Tests.refused("join(0, " + p + ")", -1, x -> x.join(0, p));
        }
        Tests.due("join(0, 9), the tenth", Scenes.with(10, 0).join(0, 9), 1);
        Tests.due("join(0, 0) of no people", new CrashTies().join(0, 0), -1);
    }

    static void promise07NotNew() {
        Tests.refused("join(1, 3), one already", 0, x -> x.join(1, 3));
        Tests.refused("join(3, 1), one already", 0, x -> x.join(3, 1));
        Tests.refused("join(2, 2), himself", 0, x -> x.join(2, 2));
    }

    static void promise07OnesByWayOfOthers() {
        CrashTies x = Scenes.with(4, 0);
        Tests.due("join(2, 3)", x.join(2, 3), 1);
        Tests.due("join(0, 1)", x.join(0, 1), 1);
        Tests.due("join(3, 1)", x.join(3, 1), 1);
        Tests.due("join(2, 0)", x.join(2, 0), 0);
        Tests.due("many(3)", x.many(3), 1);
    }

    static void promise07TermsLeastNumberOfThoseInIt() {
        CrashTies x = Scenes.with(10, 0);
        x.join(9, 8);
        for (int p = 8; p < 10; p++) Tests.due("personOf(" + p + ", 1)", x.personOf(p, 1), 8);
        for (int p = 8; p > 0; p--) x.join(p, p - 1);
        for (int p = 0; p < 10; p++) Tests.due("personOf(" + p + ", 1) of all ten", x.personOf(p, 1), 0);
        Tests.due("many(3)", x.many(3), 1);
        Tests.due("many(0)", x.many(0), 10);
    }

    static void promise07TermsHubIfOneOfTheseIs() {
        for (int hub = 0; hub < 3; hub++) {
            CrashTies x = new CrashTies();
            for (int p = 0; p < 4; p++) x.person(0, p == hub);
            x.join(0, 1);
            x.join(2, 1);
            for (int p = 0; p < 3; p++) Tests.due("personOf(" + p + ", 2), the hub is " + hub, x.personOf(p, 2), 1);
            Tests.due("personOf(3, 2)", x.personOf(3, 2), 0);
        }
    }

    // ---- promise 8

    private static void claimBounds(String what, int place, int most) {
        for (int v : new int[] {0, most}) {
            int[] n = {0, 0, 0, 0, 0};
            n[place] = v;
            CrashTies x = new CrashTies();
            Tests.due("claim with " + what + " " + v, x.claim(n[0], n[1], n[2], n[3], n[4]), 0);
            Tests.due("claimOf of " + what, x.claimOf(0, place), v);
        }
        for (int v : new int[] {-1, most + 1, Tests.MIN, Tests.MAX}) {
            int[] n = {0, 0, 0, 0, 0};
            n[place] = v;
            Tests.refused("claim with " + what + " " + v, -1, x -> x.claim(n[0], n[1], n[2], n[3], n[4]));
            Tests.refused("claim with " + what + " " + v + ", the tenth", -1, Scenes::full, x -> x.claim(n[0], n[1], n[2], n[3], n[4]));
        }
    }

    static void promise08Kinds() {
        claimBounds("kind", 0, 5);
    }

    static void promise08Days() {
        claimBounds("day", 1, 99);
    }

    static void promise08Towns() {
        claimBounds("town", 2, 3);
    }

    static void promise08Words() {
        claimBounds("words", 3, 9);
    }

    static void promise08Coins() {
        claimBounds("coin", 4, 99);
    }

    static void promise08NineClaims() {
        CrashTies x = new CrashTies();
        for (int c = 0; c < 9; c++) Tests.due("claim(..)", x.claim(c % 6, 90 + c, c % 4, c, 10 * c), c);
        Tests.due("many(1)", x.many(1), 9);
        for (int c = 0; c < 9; c++) {
            int[] facts = {c % 6, 90 + c, c % 4, c, 10 * c};
            for (int what = 0; what < 5; what++) Tests.due("claimOf(" + c + ", " + what + ")", x.claimOf(c, what), facts[what]);
        }
        Tests.refused("claim(..), the tenth", -2, Scenes::full, y -> y.claim(0, 0, 0, 0, 0));
    }

    // ---- promise 9

    static void promise09Claims() {
        for (int claim : new int[] {-1, 5, 9, Tests.MIN, Tests.MAX}) {
            Tests.refused("claimOf(" + claim + ", 0)", -1, x -> x.claimOf(claim, 0));
            Tests.refused("claimOf(" + claim + ", 10)", -1, x -> x.claimOf(claim, 10));
        }
        Tests.due("claimOf(8, 4), the ninth", Tests.made(Scenes::full).claimOf(8, 4), 8);
    }

    static void promise09What() {
        CrashTies x = Tests.made(Scenes::busy);
        int[] facts = {1, 11, 1, 1, 31};
        for (int what = 0; what < 5; what++) Tests.due("claimOf(1, " + what + ")", x.claimOf(1, what), facts[what]);
        int[] places = {-9, 0, 3, -9};
        for (int place = 0; place < 4; place++) Tests.due("claimOf(1, 1" + place + ")", x.claimOf(1, 10 + place), places[place]);
        for (int what : new int[] {-1, 5, 9, 14, Tests.MIN, Tests.MAX}) Tests.refused("claimOf(1, " + what + ")", -1, y -> y.claimOf(1, what));
    }

    static void promise09TermsNobodyAtFirst() {
        CrashTies x = Scenes.with(1, 1);
        for (int what = 10; what < 14; what++) Tests.due("claimOf(0, " + what + ")", x.claimOf(0, what), -9);
    }

    // ---- promise 10

    static void promise10Claims() {
        Tests.due("seat(8, 3, 0), the ninth", Tests.made(Scenes::full).seat(8, 3, 0), -9);
        for (int claim : new int[] {-1, 5, 9, Tests.MIN, Tests.MAX}) {
            Tests.refused("seat(" + claim + ", 0, 0)", -1, x -> x.seat(claim, 0, 0));
            Tests.refused("seat(" + claim + ", 0, -1)", -1, x -> x.seat(claim, 0, -1));
        }
    }

    static void promise10Places() {
        CrashTies x = Scenes.with(4, 1);
        for (int place = 0; place < 4; place++) {
            Tests.due("seat(0, " + place + ", ..)", x.seat(0, place, place), -9);
            Tests.due("claimOf(0, 1" + place + ")", x.claimOf(0, 10 + place), place);
        }
        for (int place : new int[] {-1, 4, Tests.MIN, Tests.MAX}) {
            Tests.refused("seat(4, " + place + ", 0)", -1, y -> y.seat(4, place, 0));
            Tests.refused("seat(4, " + place + ", -1)", -1, y -> y.seat(4, place, -1));
        }
    }

    static void promise10People() {
        Tests.due("seat(3, 1, 5), the last one", Tests.made(Scenes::busy).seat(3, 1, 5), -9);
        Tests.due("seat(0, 1, 9), the tenth", Scenes.with(10, 1).seat(0, 1, 9), -9);
        for (int p : new int[] {-2, -9, 6, 10, Tests.MIN, Tests.MAX}) Tests.refused("seat(4, 0, " + p + ")", -1, x -> x.seat(4, 0, p));
    }

    static void promise10Nobody() {
        CrashTies x = Scenes.with(10, 1);
        Tests.due("seat(0, 3, -1) where nobody was", x.seat(0, 3, -1), -9);
        Tests.due("seat(0, 3, 9)", x.seat(0, 3, 9), -9);
        Tests.due("seat(0, 3, -1)", x.seat(0, 3, -1), 9);
        Tests.due("claimOf(0, 13)", x.claimOf(0, 13), -9);
        Tests.refused("seat(4, 0, -1) where nobody was", -9, y -> y.seat(4, 0, -1));
    }

    static void promise10StateInAnotherPlace() {
        for (int there = 0; there < 4; there++) {
            for (int place = 0; place < 4; place++) {
                int first = there;
                int second = place;
                Tests.Scene scene = x -> {
                    Scenes.people(x, 2);
                    Scenes.claims(x, 2);
                    x.seat(1, first, 1);
                };
                if (there != place) Tests.refused("seat(1, " + place + ", 1)", -4, scene, x -> x.seat(1, second, 1));
                else Tests.refused("seat(1, " + place + ", 1) in the place that he has", 1, scene, x -> x.seat(1, second, 1));
                Tests.due("seat(0, " + place + ", 1) of another claim", Tests.made(scene).seat(0, place, 1), -9);
            }
        }
    }

    static void promise10StateByHisOne() {
        Tests.refused("seat(0, 2, 3), his one is in place 1", -4, x -> x.seat(0, 2, 3));
        CrashTies x = Tests.made(Scenes::busy);
        Tests.due("seat(0, 1, 3), his one is in this place", x.seat(0, 1, 3), 1);
        Tests.due("claimOf(0, 11)", x.claimOf(0, 11), 3);
        CrashTies twice = Scenes.with(2, 1);
        twice.seat(0, 0, 0);
        twice.seat(0, 1, 1);
        twice.join(0, 1);
        Tests.due("seat(0, 0, 0) where his one is in two places", twice.seat(0, 0, 0), -4);
        Tests.due("seat(0, 0, -1) where his one is in two places", twice.seat(0, 0, -1), 0);
        Tests.due("seat(0, 1, 0) where his one is in this place alone", twice.seat(0, 1, 0), 1);
    }

    static void promise10StateForHubsToo() {
        Tests.refused("seat(2, 0, 4), a hub", -4, x -> x.seat(2, 0, 4));
    }

    static void promise10BadAheadOfState() {
        Tests.refused("seat(0, 4, 0)", -1, x -> x.seat(0, 4, 0));
        Tests.refused("seat(0, -1, 0)", -1, x -> x.seat(0, -1, 0));
    }

    static void promise10RoomAfterHeLeft() {
        CrashTies x = Scenes.with(2, 1);
        x.seat(0, 2, 1);
        x.seat(0, 2, 0);
        Tests.due("seat(0, 3, 1) after another one took his place", x.seat(0, 3, 1), -9);
        x.seat(0, 3, -1);
        Tests.due("seat(0, 0, 1) after he left", x.seat(0, 0, 1), -9);
    }

    // ---- promise 11

    private static void lawBounds(int law, int most) {
        CrashTies x = new CrashTies();
        x.set(law, most);
        Tests.due("set(" + law + ", 0)", x.set(law, 0), most);
        Tests.due("set(" + law + ", " + most + ")", x.set(law, most), 0);
        for (int v : new int[] {-1, most + 1, Tests.MIN, Tests.MAX}) Tests.refused("set(" + law + ", " + v + ")", -1, y -> y.set(law, v));
    }

    static void promise11Signs() {
        for (int law = 0; law < 4; law++) lawBounds(law, 9);
    }

    static void promise11Cost() {
        lawBounds(4, 20);
    }

    static void promise11Hours() {
        lawBounds(5, 30);
    }

    static void promise11Wait() {
        lawBounds(6, 20);
    }

    static void promise11Laws() {
        CrashTies x = new CrashTies();
        for (int law = 0; law < 7; law++) x.set(law, 1 + law);
        for (int law = 0; law < 7; law++) Tests.due("set(" + law + ", 0)", x.set(law, 0), 1 + law);
        for (int law : new int[] {-1, 7, Tests.MIN, Tests.MAX}) Tests.refused("set(" + law + ", 1)", -1, y -> y.set(law, 1));
    }

    // ---- what an object is used for

    /** The last call for which an object is used answers as the first one does. */
    static void termsCalls512() {
        CrashTies x = new CrashTies();
        for (int i = 0; i < 170; i++) {
            x.feed(0x3b796170L, 4);
            x.rules();
            x.draw();
        }
        Tests.due("feed(..), call 511", x.feed(0x3b6b7361L, 4), 4);
        Tests.due("rules(), call 512", x.rules(), 1);
    }
}
