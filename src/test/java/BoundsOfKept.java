/** Promises 42 to 44, and what the Terms say of what is kept. */
public final class BoundsOfKept {
    public static void main(String[] args) {
        Tests.run(BoundsOfKept.class);
    }

    // ---- promise 42

    static void promise42What() {
        for (int what : new int[] {-1, 8, Tests.MIN, Tests.MAX}) Tests.refused("many(" + what + ")", -1, x -> x.many(what));
        for (int what = 0; what < 8; what++) {
            int asked = what;
            Tests.due("many(" + what + ") of a new object", new CrashTies().many(what), 0);
            Tests.changesNothing("many(" + what + ")", x -> x.many(asked));
        }
        int[] busy = {6, 5, 2, 5, 3, 0, 15, 0};
        CrashTies x = Tests.made(Scenes::busy);
        for (int what : new int[] {0, 1, 2, 3, 4, 6}) Tests.due("many(" + what + ") of much", x.many(what), busy[what]);
    }

    static void promise42AtTheirMost() {
        CrashTies x = Tests.made(Scenes::full);
        int[] most = {10, 9, 0, 10, 9, 0, 200, 0};
        for (int what = 0; what < 8; what++) Tests.due("many(" + what + ") of a full object", x.many(what), most[what]);
        x.rules();
        Scenes.rules(x, "pay;".repeat(8));
        Tests.due("many(2) of eight", x.many(2), 8);
        Tests.due("many(6)", x.many(6), 0);
        for (int p = 0; p < 9; p++) x.join(p, p + 1);
        Tests.due("many(3) of ten who are one", x.many(3), 1);
        Tests.due("many(0) of ten who are one", x.many(0), 10);
    }

    static void promise42RefusedCallsCountNothing() {
        CrashTies x = Tests.made(Scenes::full);
        x.person(0, false);
        x.claim(0, 0, 0, 0, 0);
        x.feed(0, 1);
        int[] most = {10, 9, 0, 10, 9, 0, 200, 0};
        for (int what = 0; what < 8; what++) Tests.due("many(" + what + ")", x.many(what), most[what]);
    }

    // ---- promise 43

    static void promise43OfNothing() {
        CrashTies x = new CrashTies();
        Tests.due("keep()", x.keep(), 1);
        Scenes.people(x, 3);
        Scenes.claims(x, 3);
        Tests.due("again()", x.again(), 0);
        Tests.due("many(0)", x.many(0), 0);
        Tests.due("many(1)", x.many(1), 0);
        Tests.due("person(0, false)", x.person(0, false), 0);
    }

    static void promise43OfAll() {
        CrashTies x = Tests.made(Scenes::full);
        Tests.due("keep()", x.keep(), 1);
        Tests.due("again()", x.again(), 9);
        Tests.due("many(0)", x.many(0), 10);
        Tests.due("claim(..), the tenth", x.claim(0, 0, 0, 0, 0), -2);
    }

    static void promise43ChangesNothingElse() {
        CrashTies x = Tests.made(Scenes::busy);
        x.keep();
        Tests.due("many(1)", x.many(1), 5);
        CrashTies twin = Tests.made(Scenes::busy);
        twin.keep();
        twin.keep();
        Tests.alike("after keep() once more", twin, x);
    }

    /** The tape, rows, sheets, shelves and the trace are not kept, and stay as they are, at keep() and at again(). */
    static void promise43TheOthersStay() {
        CrashTies x = Tests.made(Scenes::busy);
        CrashTies twin = Tests.made(Scenes::busy);
        Tests.due("keep()", x.keep(), 1);
        for (int what = 0; what < 8; what++) Tests.due("many(" + what + ") after keep()", x.many(what), twin.many(what));
        Tests.due("many(6) after keep()", x.many(6), 15);
        Tests.due("row(0, 2) after keep()", x.row(0, 2), 50);
        Tests.due("trace(0) after keep()", x.trace(0), twin.trace(0));
        Tests.due("item(0, 0, 1) after keep()", x.item(0, 0, 1), -56);
        Tests.due("taken(0, 1) after keep()", x.taken(0, 1), 1);
        Tests.due("taken(1, 10) after keep()", x.taken(1, 10), 3);
        Scenes.feed(x, "ask;");
        x.sheet(0, -1, 0);
        x.sheet(3, 1, 4);
        x.shelf(1, 2, 0);
        x.alterRow(0, 2, 51);
        x.act(3, 0, 0);
        Tests.due("again()", x.again(), 5);
        Tests.due("many(6) after again()", x.many(6), 19);
        Tests.due("item(0, 0, 1) after again()", x.item(0, 0, 1), -11);
        Tests.due("item(3, 1, 3) after again()", x.item(3, 1, 3), 0);
        Tests.due("taken(1, 10) after again()", x.taken(1, 10), -11);
        Tests.due("row(0, 2) after again()", x.row(0, 2), 51);
        Tests.due("many(7) after again()", x.many(7), 0);
        Tests.due("rules() of the tape", x.rules(), 2);
    }

    /** Each place of each of nine claims, each of ten people, each law and each size, up to the last ones. */
    static void promise43AllPlacesPeopleLawsSizes() {
        CrashTies x = Scenes.with(10, 9);
        for (int c = 0; c < 9; c++) {
            for (int place = 0; place < 4; place++) x.seat(c, place, (c + place) % 10);
            x.found(c, c % 2, c % 3 == 0);
        }
        for (int law = 0; law < 7; law++) x.set(law, law + 1);
        for (int town = 0; town < 4; town++) x.size(town, 20 + town);
        x.keep();
        for (int c = 0; c < 9; c++) {
            for (int place = 0; place < 4; place++) x.seat(c, place, -1);
            x.found(c, -1, false);
        }
        for (int law = 0; law < 7; law++) x.set(law, 0);
        for (int town = 0; town < 4; town++) x.size(town, 99);
        for (int p = 0; p < 9; p++) x.join(p, p + 1);
        Tests.due("again()", x.again(), 9);
        for (int p = 0; p < 10; p++) Tests.due("personOf(" + p + ", 1)", x.personOf(p, 1), p);
        for (int c = 0; c < 9; c++) {
            for (int place = 0; place < 4; place++) Tests.due("claimOf(" + c + ", 1" + place + ")", x.claimOf(c, 10 + place), (c + place) % 10);
        }
        Tests.due("rate(0)", x.rate(0), 1);
        Tests.due("rate(1)", x.rate(1), 3);
        for (int c = 0; c < 9; c++) Tests.due("found(" + c + ", ..)", x.found(c, -1, false), c % 2);
        for (int law = 0; law < 7; law++) Tests.due("set(" + law + ", 0)", x.set(law, 0), law + 1);
        for (int town = 0; town < 4; town++) Tests.due("size(" + town + ", 50)", x.size(town, 50), 20 + town);
    }

    /** What is kept is as it was then, whatever comes afterwards. */
    static void promise43KeptIsApart() {
        CrashTies x = Tests.made(Scenes::busy);
        x.again();
        CrashTies twin = Tests.made(Scenes::busy);
        twin.again();
        twin.size(0, 11);
        twin.set(1, 9);
        twin.join(0, 2);
        twin.seat(0, 2, 4);
        twin.found(3, 1, true);
        twin.draw();
        twin.claim(1, 1, 1, 1, 1);
        twin.person(1, true);
        twin.again();
        Tests.alike("after again() and again()", twin, x);
    }

    /** What is kept of each: changed afterwards, it is as it was. */
    static void promise43EachThatIsKept() {
        Tests.Scene[] changes = {
            x -> x.size(1, 99), x -> x.size(3, 10), x -> x.set(0, 0), x -> x.set(6, 20), x -> x.person(1, true), x -> x.join(0, 4),
            x -> x.claim(2, 0, 0, 0, 0), x -> x.seat(0, 0, -1), x -> x.seat(3, 3, 4), x -> x.found(0, 0, true), x -> x.found(0, 1, false),
            x -> x.found(3, 1, true), x -> x.found(1, -1, false), x -> x.seed(9), x -> x.draw(),
        };
        for (int i = 0; i < changes.length; i++) {
            CrashTies x = Tests.made(Scenes::busy);
            x.keep();
            changes[i].on(x);
            Tests.due("again() after change " + i, x.again(), 5);
            CrashTies twin = Tests.made(Scenes::busy);
            twin.keep();
            Tests.alike("after change " + i + " and again()", x, twin);
        }
    }

    static void promise43RulesAreKept() {
        CrashTies x = Scenes.with(0, 1);
        Scenes.rules(x, "ask;pay if 1=2;");
        x.keep();
        Scenes.rules(x, "pay;pay;pay;");
        x.again();
        Tests.due("many(2)", x.many(2), 2);
        Tests.due("says(0)", x.says(0), 1);
        Scenes.rules(x, "");
        Tests.due("says(0) without rules", x.says(0), 0);
        x.again();
        Tests.due("says(0)", x.says(0), 1);
    }

    // ---- promise 44

    static void promise44NothingKept() {
        Tests.refused("again()", -3, x -> {
            Scenes.people(x, 2);
            Scenes.claims(x, 2);
            x.seed(3);
            Scenes.feed(x, "pay;");
        }, x -> x.again());
        CrashTies x = new CrashTies();
        x.again();
        Tests.due("again() a second time", x.again(), -3);
        x.keep();
        Tests.due("again() after keep()", x.again(), 0);
    }

    static void promise44WhichStays() {
        CrashTies x = Tests.made(Scenes::busy);
        for (int i = 0; i < 3; i++) {
            Tests.due("again()", x.again(), 4);
            x.claim(0, 0, 0, 0, 0);
            x.seat(0, 3, 2);
            x.seat(1, 1, -1);
            x.join(0, 4);
            x.found(0, -1, false);
            Scenes.rules(x, "pay;");
        }
        x.again();
        Tests.due("claimOf(0, 13)", x.claimOf(0, 13), -9);
        Tests.due("claimOf(1, 11)", x.claimOf(1, 11), 0);
        Tests.due("many(3)", x.many(3), 4);
        Tests.due("many(4)", x.many(4), 2);
        Tests.due("many(2)", x.many(2), 2);
    }

    static void promise44KeptLatest() {
        CrashTies x = new CrashTies();
        for (int n = 1; n <= 9; n++) {
            x.claim(0, n, 0, 0, 0);
            x.keep();
        }
        Tests.due("again()", x.again(), 9);
        CrashTies fewer = new CrashTies();
        fewer.keep();
        Scenes.claims(fewer, 5);
        fewer.keep();
        Scenes.claims(fewer, 4);
        Tests.due("again()", fewer.again(), 5);
        Tests.due("many(1)", fewer.many(1), 5);
    }

    static void promise44TheOthersStay() {
        CrashTies x = Tests.made(Scenes::busy);
        CrashTies before = Tests.made(Scenes::busy);
        x.again();
        for (int what = 5; what < 8; what++) Tests.due("many(" + what + ")", x.many(what), before.many(what));
        for (int i = 0; i < before.many(5); i++) {
            for (int what = 0; what < 3; what++) Tests.due("row(" + i + ", " + what + ")", x.row(i, what), before.row(i, what));
        }
        for (int i = 0; i < before.many(7); i++) Tests.due("trace(" + i + ")", x.trace(i), before.trace(i));
        Tests.due("item(0, 0, 1)", x.item(0, 0, 1), -56);
        Tests.due("item(1, 3, 0)", x.item(1, 3, 0), -5);
        Tests.due("taken(1, 10)", x.taken(1, 10), 3);
        Tests.due("taken(0, 1)", x.taken(0, 1), 1);
        Tests.due("rules() of the tape", x.rules(), 1);
    }

    static void promise44PeopleComeAnew() {
        CrashTies x = Scenes.with(2, 1);
        x.keep();
        x.person(3, true);
        x.join(0, 2);
        x.claim(5, 9, 3, 9, 9);
        x.seat(1, 2, 1);
        Tests.due("again()", x.again(), 1);
        Tests.due("personOf(2, 0)", x.personOf(2, 0), -1);
        Tests.due("claimOf(1, 0)", x.claimOf(1, 0), -1);
        Tests.due("person(1, false)", x.person(1, false), 2);
        Tests.due("personOf(2, 1)", x.personOf(2, 1), 2);
        Tests.due("personOf(2, 2)", x.personOf(2, 2), 0);
        Tests.due("claim(1, 2, 0, 0, 0)", x.claim(1, 2, 0, 0, 0), 1);
        Tests.due("claimOf(1, 12)", x.claimOf(1, 12), -9);
        Tests.due("claimOf(1, 4)", x.claimOf(1, 4), 0);
    }
}
