/** For each promise of ../shared/DOC.md: ordinary inputs, the edges that it names, and wrong inputs. */
public final class PromiseTests {
    private static int wrong = 0;

    public static void main(String[] args) {
        newObject();
        feedAndTape();
        rulesRead();
        rulesRefused();
        sizes();
        peopleAndOnes();
        claimsAndSeats();
        laws();
        tiesOfPlaces();
        tiesWeighed();
        tiesOfHubsAndOnes();
        hanging();
        steps();
        turned();
        scoresAndLot();
        lotOfSeveral();
        seen();
        withoutAndHold();
        odds();
        likelyAndBest();
        says();
        foundRateRight();
        seedAndDraw();
        rowsAndJudge();
        sheets();
        shelves();
        acts();
        keepAndAgain();
        farNumbers();
        if (wrong != 0) System.exit(1);
    }

    private static void due(int promise, String call, long got, long want) {
        if (got == want) return;
        wrong++;
        System.out.println("promise " + promise + ": " + call + " answered " + got + ", due is " + want);
    }

    private static int feedText(CrashTies x, String text) {
        int has = x.many(6);
        for (int i = 0; i < text.length(); i++) has = x.feed(text.charAt(i), 1);
        return has;
    }

    private static int rulesOf(CrashTies x, String text) {
        feedText(x, text);
        return x.rules();
    }

    private static CrashTies withPeople(int n) {
        CrashTies x = new CrashTies();
        for (int i = 0; i < n; i++) x.person(0, false);
        return x;
    }

    /** Claims of a kind, day 10 and 1 more for each, town 0, no words, no coin. */
    private static CrashTies withClaims(int people, int... kinds) {
        CrashTies x = withPeople(people);
        for (int i = 0; i < kinds.length; i++) x.claim(kinds[i], 10 + i, 0, 0, 0);
        return x;
    }

    private static void newObject() {
        CrashTies x = new CrashTies();
        for (int what = 0; what <= 7; what++) due(1, "many(" + what + ")", x.many(what), 0);
        due(1, "again()", x.again(), -3);
        due(1, "lot(0)", x.lot(0), -3);
        int[] first = {2, 4, 1, 3, 3, 5, 2};
        for (int law = 0; law < 7; law++) due(1, "set(" + law + ", 0)", x.set(law, 0), first[law]);
        for (int town = 0; town < 4; town++) due(1, "size(" + town + ", 10)", x.size(town, 10), 50);
        due(1, "seed(9)", x.seed(9), 1);
        for (int i = 0; i < 4; i++) {
            due(1, "item(" + i + ", 0, 0)", x.item(i, 0, 0), -11);
            due(1, "taken(" + i + ", 0)", x.taken(i, 0), -11);
        }
    }

    private static void feedAndTape() {
        CrashTies x = new CrashTies();
        due(2, "feed(0, 0)", x.feed(0, 0), -1);
        due(2, "feed(0, 9)", x.feed(0, 9), -1);
        due(2, "feed(0, -1)", x.feed(0, -1), -1);
        // "ask;pay;" with the lowest byte first, then what n leaves out
        due(2, "feed(ask;pay;, 8)", x.feed(0x3b7961703b6b7361L, 8), 8);
        due(2, "feed(ask; and more, 4)", x.feed(0xffffffff3b6b7361L, 4), 12);
        due(2, "many(6)", x.many(6), 12);
        due(2, "rules()", x.rules(), 3);
        due(2, "many(6) after rules()", x.many(6), 0);
        for (int i = 1; i <= 24; i++) due(2, "feed(blanks, 8)", x.feed(0x2020202020202020L, 8), 8 * i);
        due(2, "feed(blanks, 7)", x.feed(0x2020202020202020L, 7), 199);
        due(2, "feed(.., 2) past the end", x.feed(0x2020L, 2), -2);
        due(2, "feed(.., 9) past the end", x.feed(0x2020L, 9), -1);
        due(2, "many(6)", x.many(6), 199);
        due(2, "feed(.., 1) to the end", x.feed(0x20L, 1), 200);
        due(2, "feed(.., 1) past the end", x.feed(0x20L, 1), -2);
        due(2, "rules() of blanks", x.rules(), 0);
    }

    private static void rulesRead() {
        CrashTies x = new CrashTies();
        String[] good = {
            "", "  ", "ask;", " ask ; ", "pay;ask;", "ask if coin<3;", "ask if 1=1;", "ask if5<day;", "pay if 999>people;",
            "ask if not not not(ties=0)and words>1or kind<2;", "ask if (((coin<1)));", "ask if(1=1)or((2=2)and((3=3)));",
            "ask if 007=7;", "pay;pay;pay;pay;pay;pay;pay;pay;", "ask if 1=1 or 2=2 and not 3=3;",
        };
        int[] clauses = {0, 0, 1, 1, 2, 1, 1, 1, 1, 1, 1, 1, 1, 8, 1};
        for (int i = 0; i < good.length; i++) {
            due(3, "rules() of '" + good[i] + "'", rulesOf(x, good[i]), clauses[i]);
            due(3, "many(6)", x.many(6), 0);
            due(3, "many(2)", x.many(2), clauses[i]);
        }
    }

    private static void rulesRefused() {
        CrashTies x = new CrashTies();
        rulesOf(x, "ask;pay;");
        String[] bad = {
            "ask", "ask ", " asks;", "ask;;", "pay ask;", "pay if", "pay if ", "pay if ;", "pay if coin", "pay if coin<", "pay if coin<3",
            "pay if coin<3 ", "pay if 1000<3;", "pay if 3<0003;", "pay if coin<3);", "pay if (coin<3;", "pay if (coin<3", "pay if ((((1=1))));",
            "pay if 1=1 and;", "pay if 1=1 and or 2=2;", "pay if not;", "pay if coin not<3;", "pay if coin<3 coin;", "pay if Coin<3;",
            "pay if 1=1=1;", "pay if 1<=1;", "pay\t;", "Pay;", "pay if if<3;", "pay if coinday<3;", "pay if 1 = 12 3;", "pay if ()=1;", "pay if 1=1 not 2=2;",
            "pay;pay;pay;pay;pay;pay;pay;pay; ask;", "pay;pay;pay;pay;pay;pay;pay;pay;1", "pay if (1)=1;", "\u00e9", "pay if 1\u00ff=1;", "and;", "if 1=1;", "pay;3",
            "ask if(1=1)or((2=2)and(((3=3))));", "askz;", "aask;", "pay if zcoin<1;", "pay if 1<2 or`;", "pay if 1</;", "pay if 1<:;",
        };
        int[] fault = {
            3, 4, 1, 4, 4, 6, 7, 7, 11, 12, 13,
            14, 7, 9, 13, 14, 14, 10,
            14, 15, 10, 12, 14, 7,
            10, 9, 3, 0, 7, 7, 14, 8, 11,
            33, 32, 9, 0, 8, 0, 0, 4,
            24, 0, 0, 7, 13, 9, 9,
        };
        for (int i = 0; i < bad.length; i++) {
            due(3, "rules() of '" + bad[i] + "'", rulesOf(x, bad[i]), -100 - fault[i]);
            due(3, "many(6) after '" + bad[i] + "'", x.many(6), 0);
            due(3, "many(2) after '" + bad[i] + "'", x.many(2), 2);
        }
        fullTapes();
    }

    private static void fullTapes() {
        CrashTies x = new CrashTies();
        due(3, "rules() of 200 tokens", rulesOf(x, ";".repeat(200)), -100);
        due(3, "rules() of 200 blanks", rulesOf(x, " ".repeat(200)), 0);
        due(3, "rules() of 'pay if ' and brackets", rulesOf(x, "pay if " + "(".repeat(193)), -110);
        due(3, "rules() of 49 nots", rulesOf(x, "ask if" + " not".repeat(47) + " 1=2;"), 1);
        x.claim(0, 0, 0, 0, 0);
        due(25, "says(0) by 47 nots", x.says(0), 1);
        due(3, "rules() of 47 comparisons that must go on", rulesOf(x, "ask if" + " not".repeat(48) + "!!"), -298);
        due(3, "rules() of an end at 200", rulesOf(x, "ask if" + " not".repeat(48) + "  "), -300);
        String many = "ask if 1=2" + "or 1=2".repeat(30) + "or 1=1;";
        due(3, "rules() of many that are or", rulesOf(x, many), 1);
        due(25, "says(0) by many that are or", x.says(0), 1);
        due(3, "rules() of many that are and", rulesOf(x, many.replace("or", "and").substring(0, 10 + 7 * 20) + ";"), 1);
        due(25, "says(0) by many that are and", x.says(0), 0);
    }

    private static void sizes() {
        CrashTies x = new CrashTies();
        due(4, "size(0, 10)", x.size(0, 10), 50);
        due(4, "size(0, 99)", x.size(0, 99), 10);
        due(4, "size(0, 9)", x.size(0, 9), -1);
        due(4, "size(0, 100)", x.size(0, 100), -1);
        due(4, "size(4, 50)", x.size(4, 50), -1);
        due(4, "size(-1, 50)", x.size(-1, 50), -1);
        due(4, "size(0, 20)", x.size(0, 20), 99);
        due(4, "size(3, 20)", x.size(3, 20), 50);
    }

    private static void peopleAndOnes() {
        CrashTies x = new CrashTies();
        due(5, "person(4, false)", x.person(4, false), -1);
        due(5, "person(-1, true)", x.person(-1, true), -1);
        for (int i = 0; i < 10; i++) due(5, "person(..)", x.person(i % 4, i == 7), i);
        due(5, "person(0, false) of too many", x.person(0, false), -2);
        due(5, "person(9, false) of too many", x.person(9, false), -1);
        due(5, "many(0)", x.many(0), 10);
        x.claim(0, 1, 0, 0, 0);
        x.claim(0, 1, 0, 0, 0);
        x.claim(0, 1, 0, 0, 0);
        x.seat(0, 0, 4);
        x.seat(1, 1, 6);
        x.seat(1, 2, 4);
        due(6, "personOf(5, 0)", x.personOf(5, 0), 1);
        due(6, "personOf(5, 1)", x.personOf(5, 1), 5);
        due(6, "personOf(7, 2)", x.personOf(7, 2), 1);
        due(6, "personOf(6, 2)", x.personOf(6, 2), 0);
        due(6, "personOf(4, 3)", x.personOf(4, 3), 2);
        due(6, "personOf(6, 3)", x.personOf(6, 3), 1);
        due(6, "personOf(5, 4)", x.personOf(5, 4), -1);
        due(6, "personOf(5, -1)", x.personOf(5, -1), -1);
        due(6, "personOf(10, 0)", x.personOf(10, 0), -1);
        due(6, "personOf(-1, 0)", x.personOf(-1, 0), -1);
        due(7, "join(6, 4)", x.join(6, 4), 1);
        due(6, "personOf(6, 1)", x.personOf(6, 1), 4);
        due(6, "personOf(6, 3) of one twice in a claim", x.personOf(6, 3), 2);
        due(7, "join(4, 6)", x.join(4, 6), 0);
        due(7, "join(4, 4)", x.join(4, 4), 0);
        due(7, "join(7, 2)", x.join(7, 2), 1);
        due(6, "personOf(2, 2)", x.personOf(2, 2), 1);
        due(7, "join(6, 7)", x.join(6, 7), 1);
        for (int p : new int[] {2, 4, 6, 7}) {
            due(7, "personOf(" + p + ", 1)", x.personOf(p, 1), 2);
            due(7, "personOf(" + p + ", 2)", x.personOf(p, 2), 1);
        }
        due(7, "many(3)", x.many(3), 7);
        due(7, "join(0, 10)", x.join(0, 10), -1);
        due(7, "join(-1, 0)", x.join(-1, 0), -1);
        due(6, "personOf(6, 0) stays", x.personOf(6, 0), 2);
    }

    private static void claimsAndSeats() {
        CrashTies x = withPeople(3);
        int[][] bad = {{6, 0, 0, 0, 0}, {-1, 0, 0, 0, 0}, {0, 100, 0, 0, 0}, {0, -1, 0, 0, 0}, {0, 0, 4, 0, 0}, {0, 0, -1, 0, 0},
            {0, 0, 0, 10, 0}, {0, 0, 0, -1, 0}, {0, 0, 0, 0, 100}, {0, 0, 0, 0, -1}};
        for (int[] b : bad) due(8, "claim(a number beyond)", x.claim(b[0], b[1], b[2], b[3], b[4]), -1);
        due(8, "claim(5, 99, 3, 9, 98)", x.claim(5, 99, 3, 9, 98), 0);
        int[] facts = {5, 99, 3, 9, 98};
        for (int what = 0; what < 5; what++) due(9, "claimOf(0, " + what + ")", x.claimOf(0, what), facts[what]);
        for (int what = 10; what < 14; what++) due(9, "claimOf(0, " + what + ")", x.claimOf(0, what), -9);
        for (int what : new int[] {-1, 5, 9, 14}) due(9, "claimOf(0, " + what + ")", x.claimOf(0, what), -1);
        due(9, "claimOf(1, 0)", x.claimOf(1, 0), -1);
        due(9, "claimOf(-1, 0)", x.claimOf(-1, 0), -1);
        due(10, "seat(0, 2, 1)", x.seat(0, 2, 1), -9);
        due(10, "seat(0, 2, 1) again", x.seat(0, 2, 1), 1);
        due(10, "seat(0, 3, 1)", x.seat(0, 3, 1), -4);
        due(10, "seat(0, 3, 2)", x.seat(0, 3, 2), -9);
        due(10, "seat(0, 2, 0)", x.seat(0, 2, 0), 1);
        due(9, "claimOf(0, 12)", x.claimOf(0, 12), 0);
        due(10, "seat(0, 2, -1)", x.seat(0, 2, -1), 0);
        due(10, "seat(0, 2, -1) again", x.seat(0, 2, -1), -9);
        for (int[] b : new int[][] {{1, 0, 0}, {-1, 0, 0}, {0, 4, 0}, {0, -1, 0}, {0, 0, 3}, {0, 0, -2}})
            due(10, "seat(none such)", x.seat(b[0], b[1], b[2]), -1);
        x.join(1, 2);
        due(10, "seat(0, 0, 1), his one in place 3", x.seat(0, 0, 1), -4);
        due(10, "seat(0, 3, 1), his one in this place", x.seat(0, 3, 1), 2);
        for (int i = 1; i < 9; i++) due(8, "claim(..)", x.claim(0, 0, 0, 0, 0), i);
        due(8, "claim(..) of too many", x.claim(0, 0, 0, 0, 0), -2);
        due(8, "claim(6, ..) of too many", x.claim(6, 0, 0, 0, 0), -1);
        due(8, "many(1)", x.many(1), 9);
    }

    private static void laws() {
        CrashTies x = new CrashTies();
        int[] first = {2, 4, 1, 3, 3, 5, 2};
        int[] most = {9, 9, 9, 9, 20, 30, 20};
        for (int law = 0; law < 7; law++) {
            due(11, "set(" + law + ", more)", x.set(law, most[law] + 1), -1);
            due(11, "set(" + law + ", -1)", x.set(law, -1), -1);
            due(11, "set(" + law + ", most)", x.set(law, most[law]), first[law]);
            due(11, "set(" + law + ", 0)", x.set(law, 0), most[law]);
        }
        due(11, "set(7, 0)", x.set(7, 0), -1);
        due(11, "set(-1, 0)", x.set(-1, 0), -1);
    }

    private static void tiesOfPlaces() {
        // signs 2, 4, 1, 3: the place in claim 0, the place in claim 1, the sign
        int[][] pairs = {{0, 0, 2}, {1, 1, 2}, {2, 2, 2}, {3, 3, 2}, {0, 1, 4}, {1, 0, 4}, {0, 2, 1}, {2, 1, 1}, {3, 0, 1}, {2, 3, 1}, {3, 2, 1}};
        for (int[] pair : pairs) {
            CrashTies x = withClaims(1, 0, 0);
            due(12, "tie(0, 1) of nobody", x.tie(0, 1), 0);
            due(13, "tied(0) of nobody", x.tied(0), 0);
            x.seat(0, pair[0], 0);
            x.seat(1, pair[1], 0);
            due(12, "tie(0, 1), places " + pair[0] + " and " + pair[1], x.tie(0, 1), pair[2]);
            due(12, "tie(1, 0)", x.tie(1, 0), pair[2]);
        }
        CrashTies x = withClaims(2, 0);
        x.claim(0, 1, 0, 7, 0);
        x.claim(0, 1, 0, 7, 0);
        x.claim(0, 1, 0, 6, 0);
        due(12, "tie(1, 2) of words", x.tie(1, 2), 3);
        due(12, "tie(1, 3) of other words", x.tie(1, 3), 0);
        x.seat(1, 0, 0);
        x.seat(1, 1, 1);
        x.seat(2, 1, 0);
        x.seat(2, 3, 1);
        due(12, "tie(1, 2) of all together", x.tie(1, 2), 3 + 4 + 1);
        due(12, "tie(1, 1)", x.tie(1, 1), -1);
        due(12, "tie(1, 4)", x.tie(1, 4), -1);
        due(12, "tie(-1, 1)", x.tie(-1, 1), -1);
        due(13, "tied(1)", x.tied(1), 4);
        due(13, "tied(4)", x.tied(4), -1);
        due(13, "tied(-1)", x.tied(-1), -1);
    }

    private static void tiesWeighed() {
        // by the kinds of claims 0 and 1: the strength with v = 3 (words), then with v = 0; a fire's coin is 29
        int[][] weighed = {
            {3, 4, 1, 8, 0, 5}, {4, 5, 2, 10, 1, 6}, {1, 2, 0, 4, 0, 3}, {8, 9, 4, 18, 3, 10}, {0, 0, 0, 0, 0, 2}, {5, 6, 2, 12, 1, 7},
        };
        int[][] bare = {{0, 0, 0, 0, 0, 2}, {0, 0, 0, 0, 0, 2}, {0, 0, 0, 0, 0, 2}, {0, 0, 0, 0, 0, 2}, {0, 0, 0, 0, 0, 2}, {2, 3, 1, 6, 0, 4}};
        for (int a = 0; a < 6; a++) {
            for (int b = 0; b < 6; b++) {
                CrashTies x = new CrashTies();
                x.claim(a, 1, 0, 5, 29);
                x.claim(b, 1, 0, 5, 29);
                due(12, "tie of kinds " + a + " and " + b, x.tie(0, 1), weighed[a][b]);
                due(13, "tied of kinds " + a + " and " + b, x.tied(1), weighed[a][b] > 0 ? 1 : 0);
                x.set(3, 0);
                due(12, "tie of kinds " + a + " and " + b + " without a sign", x.tie(1, 0), bare[a][b]);
            }
        }
    }

    private static void tiesOfHubsAndOnes() {
        CrashTies x = withClaims(3, 0, 0);
        x.person(1, true);
        x.seat(0, 0, 3);
        x.seat(1, 0, 3);
        due(12, "tie(0, 1) by a hub", x.tie(0, 1), 0);
        x.seat(0, 1, 0);
        x.seat(0, 2, 1);
        x.seat(1, 1, 2);
        x.join(0, 1);
        x.join(1, 2);
        due(12, "tie(0, 1) of one in two places", x.tie(0, 1), 2 + 1);
        x.join(2, 3);
        due(12, "tie(0, 1) of one that became a hub", x.tie(0, 1), 0);
    }

    private static void hanging() {
        CrashTies x = withClaims(4, 0, 0, 0, 0, 0);
        x.seat(0, 0, 0);
        x.seat(3, 0, 0);
        x.seat(3, 1, 1);
        x.seat(1, 2, 1);
        x.seat(2, 0, 2);
        due(14, "hang(0)", x.hang(0), 1 + 2 + 8);
        due(14, "hang(1)", x.hang(1), 1 + 2 + 8);
        due(14, "hang(2)", x.hang(2), 4);
        due(14, "hang(5)", x.hang(5), -1);
        due(14, "hang(-1)", x.hang(-1), -1);
    }

    private static void steps() {
        CrashTies x = withClaims(6, 0, 0, 0, 0);
        x.person(0, true);
        x.seat(0, 0, 0);
        x.seat(0, 1, 1);
        x.seat(1, 2, 1);
        x.seat(1, 3, 2);
        x.seat(2, 0, 2);
        x.seat(2, 1, 3);
        x.seat(2, 2, 6);
        x.seat(3, 0, 6);
        x.seat(3, 1, 4);
        due(15, "steps(0, 0)", x.steps(0, 0), 0);
        due(15, "steps(5, 5)", x.steps(5, 5), 0);
        due(15, "steps(0, 1)", x.steps(0, 1), 1);
        due(15, "steps(0, 3)", x.steps(0, 3), 3);
        due(15, "steps(3, 0)", x.steps(3, 0), 3);
        due(15, "steps(0, 6) to a hub", x.steps(0, 6), 3);
        due(15, "steps(6, 0) from a hub", x.steps(6, 0), 3);
        due(15, "steps(0, 4) past a hub", x.steps(0, 4), -3);
        due(15, "steps(0, 5)", x.steps(0, 5), -3);
        x.join(0, 5);
        due(15, "steps(0, 5) of one", x.steps(0, 5), 0);
        due(15, "steps(5, 2) by his one", x.steps(5, 2), 2);
        due(15, "steps(7, 0)", x.steps(7, 0), -1);
        due(15, "steps(0, -1)", x.steps(0, -1), -1);
    }

    private static void turned() {
        CrashTies x = withClaims(3, 0, 0, 0, 0);
        x.seat(0, 0, 0);
        x.seat(1, 1, 0);
        x.seat(2, 0, 0);
        x.seat(3, 2, 0);
        due(16, "turned(0)", x.turned(0), 2);
        due(16, "turned(1)", x.turned(1), 0);
        x.seat(0, 1, 1);
        x.seat(1, 0, 2);
        x.join(0, 1);
        x.join(1, 2);
        due(16, "turned(2) of one in both places of claims", x.turned(2), 3);
        due(16, "turned(3)", x.turned(3), -1);
        due(16, "turned(-1)", x.turned(-1), -1);
    }

    /** Claims 0 and 1 are tied by 4, 1 and 2 by 4, 0 and 2 by 2. */
    private static CrashTies threeTied() {
        CrashTies x = withClaims(1, 0, 0, 0, 0);
        x.seat(0, 0, 0);
        x.seat(1, 1, 0);
        x.seat(2, 0, 0);
        return x;
    }

    private static void scoresAndLot() {
        CrashTies x = threeTied();
        due(17, "score(0)", x.score(0), 100000);
        due(17, "score(8)", x.score(8), 99997);
        due(17, "score(3)", x.score(3), 99998);
        due(17, "score(7)", x.score(7), 100001);
        due(17, "score(15)", x.score(15), 99998);
        due(17, "score(16)", x.score(16), -1);
        due(17, "score(17)", x.score(17), -1);
        due(17, "score(-1)", x.score(-1), -1);
        due(18, "lot(0)", x.lot(0), 7);
        due(18, "lot(1)", x.lot(1), 100001);
        due(18, "lot(2)", x.lot(2), -1);
        due(18, "lot(-1)", x.lot(-1), -1);
        CrashTies y = withClaims(1, 0);
        due(18, "lot(0) of one claim", y.lot(0), -3);
        due(18, "lot(1) of one claim", y.lot(1), -3);
        due(18, "lot(2) of one claim", y.lot(2), -1);
    }

    private static void lotOfSeveral() {
        CrashTies x = withClaims(0, 0, 0, 0, 0);
        due(18, "lot(0) of claims that nothing ties", x.lot(0), 3);
        due(18, "lot(1) of claims that nothing ties", x.lot(1), 99994);
        x.set(4, 0);
        due(18, "lot(0) of the fewest", x.lot(0), 3);
        CrashTies y = withClaims(2, 0, 0, 0, 0);
        y.seat(1, 0, 0);
        y.seat(2, 0, 0);
        y.seat(0, 0, 1);
        y.seat(3, 0, 1);
        y.set(4, 1);
        due(18, "lot(0) of the fewest, then the least", y.lot(0), 6);
        y.set(4, 0);
        due(18, "lot(0) of all", y.lot(0), 15);
    }

    private static void seen() {
        CrashTies x = threeTied();
        due(19, "seen(1)", x.seen(1), 12);
        due(19, "seen(-2)", x.seen(-2), 11);
        due(19, "seen(2)", x.seen(2), -3);
        due(19, "seen(-1000)", x.seen(-1000), 11);
        due(19, "seen(1000)", x.seen(1000), -3);
        due(19, "seen(1001)", x.seen(1001), -1);
        due(19, "seen(-1001)", x.seen(-1001), -1);
        CrashTies y = new CrashTies();
        due(19, "seen(-1000) of nothing", y.seen(-1000), -3);
        y.claim(0, 30, 0, 0, 0);
        due(19, "seen(-1000) of one", y.seen(-1000), -3);
        y.claim(0, 0, 0, 0, 0);
        due(19, "seen(-1000)", y.seen(-1000), 30);
        y.claim(0, 0, 0, 0, 0);
        due(19, "seen(-1000) of the first day", y.seen(-1000), 0);
    }

    private static void withoutAndHold() {
        CrashTies x = threeTied();
        // without the sign turned all that is left are 0 and 2 by 2
        due(20, "without(1)", x.without(1), 5);
        due(20, "without(0)", x.without(0), 7);
        due(20, "without(2)", x.without(2), 7);
        due(20, "without(4)", x.without(4), -1);
        due(20, "without(-1)", x.without(-1), -1);
        due(21, "hold()", x.hold(), 1 + 4 + 8);
        due(20, "set(1, 4) stays", x.set(1, 4), 4);
        due(20, "lot(0) stays", x.lot(0), 7);
        CrashTies y = new CrashTies();
        due(20, "without(0) of nothing", y.without(0), -3);
        due(20, "without(4) of nothing", y.without(4), -1);
        due(21, "hold() of nothing", y.hold(), -3);
    }

    private static void odds() {
        CrashTies x = new CrashTies();
        x.person(1, false);
        x.person(2, false);
        due(22, "odds(0, 0) of no claims", x.odds(0, 0), 1);
        due(22, "odds(0, 1) of no claims", x.odds(0, 1), 1);
        x.claim(0, 1, 1, 0, 0);
        x.claim(0, 1, 1, 0, 0);
        x.claim(0, 1, 2, 0, 0);
        x.seat(0, 3, 0);
        x.seat(2, 3, 0);
        due(22, "odds(0, 0)", x.odds(0, 0), 96);
        due(22, "odds(0, 1)", x.odds(0, 1), 625);
        x.size(1, 20);
        due(22, "odds(0, 0), 1 by 5", x.odds(0, 0), 9);
        due(22, "odds(0, 1), 1 by 5", x.odds(0, 1), 25);
        due(22, "odds(1, 0)", x.odds(1, 0), 1);
        x.join(0, 1);
        due(22, "odds(1, 0) of his town, with his one", x.odds(1, 0), 2);
        due(22, "odds(1, 1)", x.odds(1, 1), 25);
        due(22, "odds(2, 0)", x.odds(2, 0), -1);
        due(22, "odds(-1, 0)", x.odds(-1, 0), -1);
        due(22, "odds(0, 2)", x.odds(0, 2), -1);
        due(22, "odds(0, -1)", x.odds(0, -1), -1);
        CrashTies y = new CrashTies();
        y.person(0, false);
        y.size(0, 99);
        for (int i = 0; i < 9; i++) {
            y.claim(0, 1, 0, 0, 0);
            y.seat(i, 0, 0);
        }
        due(22, "odds(0, 0) of all in the largest town", y.odds(0, 0), 262144L);
        due(22, "odds(0, 1) of all in the largest town", y.odds(0, 1), 913517247483640899L);
        y.seat(8, 0, -1);
        // 9 * 4^8 * 95 + 4^9 over 99^9, without the divisor 1: 56295424 is no multiple of 3 or 11
        due(22, "odds(0, 0) of all but one", y.odds(0, 0), 56295424L);
    }

    private static void likelyAndBest() {
        CrashTies x = withClaims(1);
        x.claim(0, 1, 0, 1, 40);
        x.claim(0, 1, 0, 1, 20);
        x.claim(0, 1, 0, 0, 99);
        x.seat(1, 2, 0);
        due(23, "likely(0)", x.likely(0), 3);
        due(23, "likely(2)", x.likely(2), 0);
        due(23, "likely(3)", x.likely(3), -1);
        due(23, "likely(-1)", x.likely(-1), -1);
        // hours 1, 2, 1; worths 3 * 40 - 2 * 7 = 106, 3 * 20 - 14 = 46, -20
        due(24, "best(0)", x.best(0), 3);
        due(24, "best(1)", x.best(1), 100152);
        due(24, "best(2)", x.best(2), -1);
        due(24, "best(-1)", x.best(-1), -1);
        x.set(5, 2);
        due(24, "best(0) with 2 hours", x.best(0), 1);
        due(24, "best(1) with 2 hours", x.best(1), 100106);
        x.set(5, 0);
        due(24, "best(0) with no hours", x.best(0), 0);
        due(24, "best(1) with no hours", x.best(1), 100000);
        x.set(3, 9);
        due(23, "likely(0) at most", x.likely(0), 9);
        x.set(2, 9);
        x.seat(0, 0, 0);
        due(23, "likely(0) at most", x.likely(0), 9);
        CrashTies y = withClaims(0);
        y.claim(0, 1, 0, 1, 10);
        y.claim(0, 1, 0, 1, 10);
        y.set(5, 1);
        due(24, "best(0) of several", y.best(0), 1);
        y.set(6, 5);
        y.set(5, 9);
        // worth 3 * 10 - 5 * 7 is below 0
        due(24, "best(0) of worths below 0", y.best(0), 0);
        CrashTies z = new CrashTies();
        due(24, "best(0) of nothing", z.best(0), 0);
        due(24, "best(1) of nothing", z.best(1), 100000);
    }

    private static void says() {
        CrashTies x = withPeople(2);
        x.claim(4, 33, 0, 7, 55);
        x.claim(0, 1, 0, 7, 0);
        x.claim(0, 1, 0, 7, 0);
        x.seat(0, 0, 0);
        x.seat(0, 3, 1);
        due(25, "says(0) without rules", x.says(0), 0);
        String[] ask = {
            "ask;", "pay;ask;", "ask;pay if coin<55;", "ask if coin=55;", "ask if day=33;", "ask if people=2;", "ask if ties=0;", "ask if words=7;", "ask if kind=4;",
            "ask if 33<coin;", "ask if 1=2 or 1=1 and 2=2;", "ask if 1=1 or 1=1 and 1=2;", "ask if not 1=2;", "ask if not not 1=1;", "ask if not (1=1 and 2=1);",
            "ask if not 1=2 and 1=1;", "ask if coin>day and (words>8 or words<8);", "pay if 1=1;ask if 2>1;", "ask if 1=1;pay if 1=2;",
        };
        String[] pay = {
            "", "pay;", "ask;pay;", "ask;pay if coin>54;", "ask if coin=54;", "ask if 1=2;", "ask if coin<day;", "ask if not 1=1;", "ask if not not 1=2;",
            "ask if not (1=1 or 2=1);", "ask if (1=1 or 1=1) and 1=2;", "ask if not 1=1 or 1=2;", "ask if ties>0;", "ask if 5>5;", "ask if 5<5;",
        };
        for (String text : ask) {
            rulesOf(x, text);
            due(25, "says(0) by " + text, x.says(0), 1);
        }
        for (String text : pay) {
            rulesOf(x, text);
            due(25, "says(0) by " + text, x.says(0), 0);
        }
        rulesOf(x, "ask if ties=1;");
        due(25, "says(1) by ties", x.says(1), 1);
        rulesOf(x, "ask if people=0;");
        due(25, "says(1) by people", x.says(1), 1);
        due(25, "says(3)", x.says(3), -1);
        due(25, "says(-1)", x.says(-1), -1);
        rulesOf(x, "look;");
        due(25, "says(1) by the rules that stay", x.says(1), 1);
    }

    private static void foundRateRight() {
        CrashTies x = withClaims(0, 0, 0, 0, 0, 0, 0);
        due(27, "rate(0) of none", x.rate(0), -3);
        due(27, "rate(2) of none", x.rate(2), -1);
        due(26, "found(0, 1, true)", x.found(0, 1, true), -9);
        due(26, "found(1, 0, true)", x.found(1, 0, true), -9);
        due(26, "found(2, 1, true)", x.found(2, 1, true), -9);
        due(26, "found(3, 0, true)", x.found(3, 0, true), -9);
        due(26, "found(4, 1, false)", x.found(4, 1, false), -9);
        due(26, "found(6, 1, false)", x.found(6, 1, false), -1);
        due(26, "found(-1, 1, false)", x.found(-1, 1, false), -1);
        due(26, "found(0, 2, false)", x.found(0, 2, false), -1);
        due(26, "found(0, -2, false)", x.found(0, -2, false), -1);
        due(26, "many(4)", x.many(4), 5);
        due(27, "rate(0)", x.rate(0), 1);
        due(27, "rate(1)", x.rate(1), 2);
        due(27, "rate(-1)", x.rate(-1), -1);
        due(26, "found(0, -1, true)", x.found(0, -1, true), 1);
        due(27, "rate(0) of three", x.rate(0), 1);
        due(27, "rate(1) of three", x.rate(1), 3);
        due(26, "found(2, 0, true)", x.found(2, 0, true), 1);
        due(27, "rate(0) of 0", x.rate(0), 0);
        due(27, "rate(1) of 0", x.rate(1), 1);
        due(26, "found(1, 0, false)", x.found(1, 0, false), 0);
        due(26, "found(2, 0, false)", x.found(2, 0, false), 0);
        due(26, "found(3, 0, false)", x.found(3, 0, false), 0);
        due(27, "rate(0), none by chance any more", x.rate(0), -3);
        // found: 1, 2, 3 not of a lot, 4 of a lot; days are 10 and on
        rulesOf(x, "ask if day>12;");
        due(28, "right(0)", x.right(0), 1);
        due(28, "right(1)", x.right(1), 1);
        due(28, "right(2)", x.right(2), 0);
        due(28, "right(3)", x.right(3), 2);
        rulesOf(x, "ask if day<14;");
        due(28, "right(0) by other rules", x.right(0), 0);
        due(28, "right(1) by other rules", x.right(1), 3);
        due(28, "right(2) by other rules", x.right(2), 1);
        due(28, "right(3) by other rules", x.right(3), 0);
        due(28, "right(4)", x.right(4), -1);
        due(28, "right(-1)", x.right(-1), -1);
    }

    private static void seedAndDraw() {
        CrashTies x = withClaims(0, 0, 0, 0);
        due(29, "seed(-7)", x.seed(-7), 1);
        due(29, "seed(1)", x.seed(1), -7);
        // 1103527590 >>> 16 is 16838, by 3: 2 left
        due(30, "draw()", x.draw(), 2);
        due(29, "seed(4)", x.seed(4), 1103527590);
        x.found(1, 0, false);
        // 4 * 1103515245 + 12345 is 119106029 in 32 bits; >>> 16: 1817, an odd number
        due(30, "draw() of 0 and 2", x.draw(), 2);
        due(29, "seed(-1)", x.seed(-1), 119106029);
        // -1103502900 >>> 16 is 48697, odd
        due(30, "draw() of a z below 0", x.draw(), 2);
        x.found(0, 1, true);
        x.found(2, 1, true);
        due(30, "draw() of none", x.draw(), -3);
        due(30, "z stays then", x.seed(0), -1103502900);
        due(30, "draw() of no claims", new CrashTies().draw(), -3);
    }

    private static void rowsAndJudge() {
        CrashTies x = threeTied();
        due(34, "judge() of rows not written", x.judge(), 222);
        due(31, "prove()", x.prove(), 3);
        int[][] rows = {{0, 1, 4}, {0, 2, 2}, {1, 2, 4}};
        for (int i = 0; i < 3; i++) {
            for (int what = 0; what < 3; what++) due(32, "row(" + i + ", " + what + ")", x.row(i, what), rows[i][what]);
        }
        for (int[] none : new int[][] {{3, 0}, {-1, 0}, {0, 3}, {0, -1}}) {
            due(32, "row(none such)", x.row(none[0], none[1]), -9);
            due(33, "alterRow(none such)", x.alterRow(none[0], none[1], 5), -9);
        }
        due(34, "judge()", x.judge(), 0);
        due(31, "many(5)", x.many(5), 3);
        for (int what = 0; what < 3; what++) {
            due(33, "alterRow(1, .., -77)", x.alterRow(1, what, -77), rows[1][what]);
            due(32, "row(1, ..)", x.row(1, what), -77);
            due(34, "judge() of an altered row", x.judge(), 2);
            due(33, "alterRow(1, .., back)", x.alterRow(1, what, rows[1][what]), -77);
        }
        due(34, "judge()", x.judge(), 0);
        x.set(4, 2);
        x.seat(3, 0, 0);
        due(34, "judge() of fewer rows, the second one wrong", x.judge(), 3);
        x.seat(2, 0, -1);
        x.seat(3, 0, -1);
        due(34, "judge() of more rows", x.judge(), 2);
        due(31, "prove()", x.prove(), 1);
        x.claim(0, 50, 0, 0, 0);
        x.seat(4, 1, 0);
        due(34, "judge() of fewer rows", x.judge(), 222);
        CrashTies y = new CrashTies();
        due(31, "prove() of nothing", y.prove(), -3);
        due(34, "judge() of nothing", y.judge(), -3);
    }

    private static void sheets() {
        CrashTies x = new CrashTies();
        for (int[] bad : new int[][] {{4, 0, 1}, {-1, 0, 1}, {0, 4, 1}, {0, -2, 1}, {0, 0, 41}, {4, 0, -1}, {0, 4, -1}})
            due(35, "sheet(beyond)", x.sheet(bad[0], bad[1], bad[2]), -1);
        due(35, "sheet(0, 0, -1)", x.sheet(0, 0, -1), -14);
        due(37, "item(0, 0, 0) of what is missing", x.item(0, 0, 0), -11);
        for (int sort = 0; sort < 4; sort++) {
            due(35, "sheet(.., .., 40)", x.sheet(sort, sort, 40), 1);
            due(37, "item(.., .., 39)", x.item(sort, sort, 39), 0);
            due(37, "item(.., .., 40)", x.item(sort, sort, 40), -12);
            due(36, "put(.., 39, 40000)", x.put(sort, 39, 40000), 1);
        }
        int[] narrowed = {64, -25536, 40000, 40000};
        for (int sort = 0; sort < 4; sort++) due(36, "item(.., .., 39)", x.item(sort, sort, 39), narrowed[sort]);
        x.put(0, 0, 200);
        due(36, "item(0, 0, 0) of 200 as a byte", x.item(0, 0, 0), -56);
        x.put(3, 1, Integer.MIN_VALUE);
        due(37, "item(3, 3, 1)", x.item(3, 3, 1), Integer.MIN_VALUE);
        due(36, "put(4, 0, 0)", x.put(4, 0, 0), -1);
        due(36, "put(-1, 0, 0)", x.put(-1, 0, 0), -1);
        due(36, "put(0, 40, 0)", x.put(0, 40, 0), -12);
        due(36, "put(0, -1, 0)", x.put(0, -1, 0), -12);
        due(37, "item(4, 0, 0)", x.item(4, 0, 0), -1);
        due(37, "item(0, 4, 0)", x.item(0, 4, 0), -1);
        due(37, "item(0, -1, 0)", x.item(0, -1, 0), -1);
        due(37, "item(0, 1, 0)", x.item(0, 1, 0), -13);
        due(37, "item(0, 1, 99), sort and place wrong", x.item(0, 1, 99), -13);
        due(35, "sheet(0, -1, 99)", x.sheet(0, -1, 99), 1);
        due(36, "put(0, 99, 0) of what is missing", x.put(0, 99, 0), -11);
        due(37, "item(0, 2, 99) of what is missing", x.item(0, 2, 99), -11);
        due(35, "sheet(0, 0, 1)", x.sheet(0, 0, 1), 1);
        due(35, "item(0, 0, 0) of a new row", x.item(0, 0, 0), 0);
        due(35, "sheet(1, 2, 0)", x.sheet(1, 2, 0), 1);
        due(36, "put(1, 0, 0) of an empty row", x.put(1, 0, 0), -12);
    }

    private static void shelves() {
        CrashTies x = withClaims(0, 0, 1, 2, 3, 4, 5);
        for (int[] bad : new int[][] {{4, 0, 0}, {-1, 0, 0}, {0, 3, 0}, {0, -1, 0}, {0, 0, 6}, {0, 0, -1}, {0, 1, 4}, {0, 1, -1}})
            due(38, "shelf(none such)", x.shelf(bad[0], bad[1], bad[2]), -1);
        boolean[][] under = {
            {true, false, false, false, false, false}, {true, true, false, false, false, false}, {true, false, true, false, false, false},
            {true, true, false, true, false, false}, {true, false, true, false, true, false}, {true, false, false, false, false, true},
        };
        for (int kind = 0; kind < 6; kind++) {
            due(38, "shelf(1, 0, " + kind + ")", x.shelf(1, 0, kind), 1);
            for (int as = 0; as < 6; as++) due(39, "taken(kind " + kind + ", " + as + ")", x.taken(1, as), under[kind][as] ? kind : -13);
            for (int as = 10; as < 14; as++) due(39, "taken(kind " + kind + ", " + as + ")", x.taken(1, as), -13);
        }
        for (int as : new int[] {-1, 6, 9, 14}) due(39, "taken(1, " + as + ")", x.taken(1, as), -1);
        due(39, "taken(4, 0)", x.taken(4, 0), -1);
        due(39, "taken(-1, 0)", x.taken(-1, 0), -1);
        due(39, "taken(2, 0) of nothing", x.taken(2, 0), -11);
        due(38, "shelf(2, 1, 0) of what is missing", x.shelf(2, 1, 0), 1);
        due(39, "taken(2, 10)", x.taken(2, 10), -11);
        for (int sort = 0; sort < 4; sort++) {
            x.sheet(3, sort, sort + 5);
            due(38, "shelf(2, 1, 3)", x.shelf(2, 1, 3), 1);
            for (int as = 10; as < 14; as++) due(39, "taken(a row of " + sort + ", " + as + ")", x.taken(2, as), as == 10 + sort ? sort + 5 : -13);
            due(39, "taken(a row, 0)", x.taken(2, 0), -13);
        }
        x.sheet(3, -1, 0);
        due(38, "taken(2, 13) of the row that is held still", x.taken(2, 13), 8);
        due(38, "shelf(2, 2, 99)", x.shelf(2, 2, 99), 1);
        due(39, "taken(2, 13) of nothing", x.taken(2, 13), -11);
    }

    private static void trace(CrashTies x, String of, int... bodies) {
        due(42, "many(7) after " + of, x.many(7), bodies.length);
        for (int i = 0; i < bodies.length; i++) due(41, "trace(" + i + ") after " + of, x.trace(i), bodies[i]);
        due(41, "trace(-1)", x.trace(-1), -3);
        due(41, "trace(past the end)", x.trace(bodies.length), -3);
    }

    private static void acts() {
        // one of each kind, its number is its kind, its coin 7; x = 9
        CrashTies x = new CrashTies();
        for (int kind = 0; kind < 6; kind++) x.claim(kind, 1, 0, 0, 7);
        int[][] answers = {
            // hits, pays, shares, tells
            {9, 18, 1, 18 ^ 7},
            {10, 20 - 7, 9 / 6, 13 ^ 7},
            {33, 66, 9 / 5, (66 ^ 7) + 2 / 5},
            {-12, -24 - 7 - 6, 9 / 4, (-37) ^ 7},
            {39 - 4, 70, 11 / 3 ^ 1, (70 ^ 7) + (6 / 3 ^ 1)},
            {14, 28, 9 / 2 + 12, (28 ^ 7) * 2},
        };
        for (int kind = 0; kind < 6; kind++) {
            x.shelf(0, 0, kind);
            for (int act = 0; act < 4; act++) due(40, "act " + act + " of kind " + kind, x.act(0, act, 9), answers[kind][act]);
        }
        x.shelf(0, 0, 3);
        x.act(0, 1, 9);
        trace(x, "pays of neck", 41, 20, 11, 40, 10, 40, 10);
        x.act(0, 3, 9);
        trace(x, "tells of neck", 13, 41, 20, 11, 40, 10, 40, 10);
        x.shelf(0, 0, 4);
        x.act(0, 3, 9);
        trace(x, "tells of theft", 31, 13, 11, 51, 30, 10, 50, 12);
        x.shelf(0, 0, 5);
        x.act(0, 2, 9);
        trace(x, "shares of fire", 61, 12, 10);
        x.act(0, 3, 9);
        trace(x, "tells of fire", 60, 13, 11, 10);
        due(40, "hits that wrap", x.act(0, 0, Integer.MAX_VALUE), Integer.MIN_VALUE + 4);
        due(40, "shares cut towards 0", x.act(0, 2, -9), -9 / 2 + 12);
        for (int[] none : new int[][] {{4, 0}, {-1, 0}, {0, 4}, {0, -1}, {1, 0}}) {
            x.act(0, 0, 1);
            due(40, "act(none such)", x.act(none[0], none[1], 5), 0);
            trace(x, "an act that is none");
        }
        x.sheet(0, 0, 4);
        x.shelf(1, 1, 0);
        due(40, "act of a row", x.act(1, 0, 5), 0);
        actsParted();
    }

    private static void actsParted() {
        CrashTies x = new CrashTies();
        for (int kind : new int[] {0, 2, 4, 5}) x.claim(kind, 1, 0, 0, x.many(1));
        for (int n = 0; n < 4; n++) {
            x.shelf(n, 0, n);
            due(40, "shares parted by 0", x.act(n, 2, 9), -15);
        }
        trace(x, "shares of fire, parted by 0", 61, 12);
        due(40, "tells parted by 0", x.act(1, 3, 9), -15);
        trace(x, "tells of glass, parted by 0", 31, 13, 11, 30, 10, 12);
        due(40, "tells of theft, parted by 0", x.act(2, 3, 9), -15);
        due(40, "tells of fire that parts nothing", x.act(3, 3, 0), (6 ^ 3) * 2);
        CrashTies y = new CrashTies();
        y.claim(0, 1, 0, 0, 0);
        y.claim(0, 1, 0, 0, 0);
        y.shelf(0, 0, 1);
        due(40, "the least number by -1", y.act(0, 2, Integer.MIN_VALUE), Integer.MIN_VALUE);
    }

    private static void keepAndAgain() {
        CrashTies x = threeTied();
        x.person(2, true);
        x.size(1, 33);
        x.set(4, 2);
        x.join(0, 1);
        rulesOf(x, "ask if day>10;pay if day>12;");
        x.found(1, 1, true);
        x.seed(77);
        due(43, "keep()", x.keep(), 1);
        x.claim(2, 1, 1, 1, 1);
        x.person(3, false);
        x.size(1, 44);
        x.set(4, 9);
        x.join(0, 2);
        x.seat(0, 0, -1);
        rulesOf(x, "pay;");
        x.found(1, -1, false);
        x.found(0, 0, true);
        x.seed(5);
        x.prove();
        x.sheet(0, 1, 3);
        x.shelf(0, 0, 4);
        x.shelf(1, 0, 2);
        x.shelf(2, 1, 0);
        x.act(1, 1, 4);
        feedText(x, "ask;");
        int rows = x.many(5);
        due(44, "again()", x.again(), 4);
        int[] many = {2, 4, 2, 1, 1, rows, 4, 2, -1};
        for (int what = 0; what < many.length; what++) due(42, "many(" + what + ")", x.many(what), many[what]);
        due(42, "many(-1)", x.many(-1), -1);
        due(44, "size(1, 50)", x.size(1, 50), 33);
        due(44, "set(4, 1)", x.set(4, 1), 2);
        due(44, "claimOf(0, 10)", x.claimOf(0, 10), 0);
        due(44, "personOf(1, 2)", x.personOf(1, 2), 1);
        due(44, "says(1)", x.says(1), 1);
        due(44, "says(3)", x.says(3), 0);
        due(44, "rate(0)", x.rate(0), 1);
        due(44, "rate(1)", x.rate(1), 1);
        due(44, "seed(1)", x.seed(1), 77);
        due(44, "taken(0, 0) of a claim that is no more", x.taken(0, 0), -11);
        due(44, "act(0, 0, 1) of a claim that is no more", x.act(0, 0, 1), 0);
        due(44, "taken(1, 0)", x.taken(1, 0), 2);
        due(44, "taken(2, 11)", x.taken(2, 11), 3);
        due(44, "item(0, 1, 2)", x.item(0, 1, 2), 0);
        due(44, "rules() of the tape that stays", x.rules(), 1);
        due(44, "again() once more", x.again(), 4);
        due(44, "size(1, 50) once more", x.size(1, 50), 33);
        due(43, "keep() of the later", x.keep(), 1);
        x.size(1, 11);
        x.again();
        due(44, "size(1, 12) of what was kept latest", x.size(1, 12), 50);
    }

    /** Numbers far beyond are refused, and none of them makes a call throw. */
    private static void farNumbers() {
        CrashTies x = threeTied();
        x.prove();
        x.sheet(0, 0, 4);
        x.shelf(0, 0, 0);
        x.act(0, 3, 7);
        for (int far : new int[] {Integer.MIN_VALUE, Integer.MIN_VALUE + 1, -1000000, 1000000, 1 << 30, Integer.MAX_VALUE}) {
            due(2, "feed(1, far)", x.feed(1, far), -1);
            due(4, "size(far, 10)", x.size(far, 10), -1);
            due(4, "size(0, far)", x.size(0, far), -1);
            due(5, "person(far, true)", x.person(far, true), -1);
            due(6, "personOf(far, 0)", x.personOf(far, 0), -1);
            due(6, "personOf(0, far)", x.personOf(0, far), -1);
            due(7, "join(far, 0)", x.join(far, 0), -1);
            due(7, "join(0, far)", x.join(0, far), -1);
            due(8, "claim(far, ..)", x.claim(far, far, far, far, far), -1);
            due(9, "claimOf(far, 0)", x.claimOf(far, 0), -1);
            due(9, "claimOf(0, far)", x.claimOf(0, far), -1);
            due(10, "seat(far, 0, 0)", x.seat(far, 0, 0), -1);
            due(10, "seat(0, far, 0)", x.seat(0, far, 0), -1);
            due(10, "seat(0, 0, far)", x.seat(0, 0, far), -1);
            due(11, "set(far, 1)", x.set(far, 1), -1);
            due(11, "set(0, far)", x.set(0, far), -1);
            due(12, "tie(far, 0)", x.tie(far, 0), -1);
            due(12, "tie(0, far)", x.tie(0, far), -1);
            due(13, "tied(far)", x.tied(far), -1);
            due(14, "hang(far)", x.hang(far), -1);
            due(15, "steps(far, 0)", x.steps(far, 0), -1);
            due(15, "steps(0, far)", x.steps(0, far), -1);
            due(16, "turned(far)", x.turned(far), -1);
            due(17, "score(far)", x.score(far), -1);
            due(18, "lot(far)", x.lot(far), -1);
            due(19, "seen(far)", x.seen(far), -1);
            due(20, "without(far)", x.without(far), -1);
            due(22, "odds(far, 0)", x.odds(far, 0), -1);
            due(22, "odds(0, far)", x.odds(0, far), -1);
            due(23, "likely(far)", x.likely(far), -1);
            due(24, "best(far)", x.best(far), -1);
            farOnTheHost(x, far);
        }
        due(42, "many(0)", x.many(0), 1);
        due(42, "many(1)", x.many(1), 4);
        due(42, "many(5)", x.many(5), 3);
    }

    private static void farOnTheHost(CrashTies x, int far) {
        due(25, "says(far)", x.says(far), -1);
        due(26, "found(far, 1, true)", x.found(far, 1, true), -1);
        due(26, "found(0, far, true)", x.found(0, far, true), -1);
        due(27, "rate(far)", x.rate(far), -1);
        due(28, "right(far)", x.right(far), -1);
        due(32, "row(far, 0)", x.row(far, 0), -9);
        due(32, "row(0, far)", x.row(0, far), -9);
        due(33, "alterRow(far, 0, 0)", x.alterRow(far, 0, 0), -9);
        due(33, "alterRow(0, far, 0)", x.alterRow(0, far, 0), -9);
        due(35, "sheet(far, 0, 0)", x.sheet(far, 0, 0), -1);
        due(35, "sheet(0, far, 0)", x.sheet(0, far, 0), -1);
        due(35, "sheet(0, 0, far)", x.sheet(0, 0, far), far < 0 ? -14 : -1);
        due(36, "put(far, 0, 0)", x.put(far, 0, 0), -1);
        due(36, "put(0, far, 0)", x.put(0, far, 0), -12);
        due(37, "item(far, 0, 0)", x.item(far, 0, 0), -1);
        due(37, "item(0, far, 0)", x.item(0, far, 0), -1);
        due(37, "item(0, 0, far)", x.item(0, 0, far), -12);
        due(38, "shelf(far, 0, 0)", x.shelf(far, 0, 0), -1);
        due(38, "shelf(0, far, 0)", x.shelf(0, far, 0), -1);
        due(38, "shelf(0, 0, far)", x.shelf(0, 0, far), -1);
        due(39, "taken(far, 0)", x.taken(far, 0), -1);
        due(39, "taken(0, far)", x.taken(0, far), -1);
        x.act(0, 3, far);
        due(41, "trace(far)", x.trace(far), -3);
        due(40, "act(far, 0, 0)", x.act(far, 0, 0), 0);
        due(40, "act(0, far, 0)", x.act(0, far, 0), 0);
        due(42, "many(far)", x.many(far), -1);
    }
}
