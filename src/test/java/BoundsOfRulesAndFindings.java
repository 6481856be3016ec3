/** Promises 3 and 25 to 30, and what the Terms say of texts, rules and findings. */
public final class BoundsOfRulesAndFindings {
    private static final String[] ALL = {
        "ask", "pay", "if", "and", "or", "not", "(", ")", ";", "<", "=", ">", "coin", "day", "people", "ties", "words", "kind",
        "0", "999", "1000", "x", "asks", "#", "\u00e9", "\0",
    };
    private static final String VALUES = " coin day people ties words kind 0 999 ";

    public static void main(String[] args) {
        Tests.run(BoundsOfRulesAndFindings.class);
    }

    private static void reads(String text, int clauses) {
        CrashTies x = new CrashTies();
        Tests.due("rules() of '" + text + "'", Scenes.rules(x, text), clauses);
        Tests.due("many(2) after '" + text + "'", x.many(2), clauses);
        Tests.due("many(6) after '" + text + "'", x.many(6), 0);
    }

    private static void fault(String text, int place) {
        CrashTies x = new CrashTies();
        Scenes.rules(x, "ask;ask;");
        Tests.due("rules() of '" + text + "'", Scenes.rules(x, text), -100 - place);
        Tests.due("many(2) after '" + text + "'", x.many(2), 2);
        Tests.due("many(6) after '" + text + "'", x.many(6), 0);
    }

    // ---- promise 3

    /** A refused text uses up the tape, and changes nothing else. */
    static void promise03RefusedUsesUpTheTape() {
        for (String text : new String[] {"ask if", "pay;pay;x", "#", "ask;ask;ask;ask;ask;ask;ask;ask;ask;"}) {
            CrashTies x = Tests.made(y -> {
                Scenes.busy(y);
                y.rules();
                Scenes.rules(y, "ask if coin>31;");
            });
            Tests.due("rules() of '" + text + "' below -99", Scenes.rules(x, text) < -99 ? 1 : 0, 1);
            Tests.alike("after '" + text + "'", x, Tests.made(y -> {
                Scenes.busy(y);
                y.rules();
                Scenes.rules(y, "ask if coin>31;");
            }));
        }
    }

    static void promise03ReadChangesOnlyRulesAndTape() {
        CrashTies x = Tests.made(Scenes::busy);
        Tests.due("rules()", x.rules(), 1);
        Tests.due("rules() of the tape used up", x.rules(), 0);
        Tests.alike("after rules()", x, Tests.made(y -> {
            Scenes.busy(y);
            Scenes.rules(y, "#");
            y.rules();
        }));
    }

    static void promise03EmptyTape() {
        CrashTies x = new CrashTies();
        Tests.due("rules() of no bytes", x.rules(), 0);
        Scenes.rules(x, "ask;");
        Tests.due("rules() of no bytes, where there were rules", x.rules(), 0);
        Tests.due("many(2)", x.many(2), 0);
        x.claim(0, 0, 0, 0, 0);
        Tests.due("says(0)", x.says(0), 0);
    }

    static void promise03FullTape() {
        reads(" ".repeat(200), 0);
        reads(" ".repeat(196) + "pay;", 1);
        reads("pay;" + " ".repeat(196), 1);
        reads("ask if " + "not ".repeat(47) + "1=1; ", 1);
        fault(" ".repeat(199) + "#", 199);
        fault(" ".repeat(199) + "a", 199);
        fault(" ".repeat(197) + "pay", 200);
        fault("a".repeat(200), 0);
        fault(";".repeat(200), 0);
        fault("1".repeat(200), 0);
    }

    static void promise03TermsEightClauses() {
        for (int n = 0; n <= 8; n++) reads("pay;".repeat(n), n);
        reads("ask if 1=1;".repeat(8), 8);
        reads(" pay ; ".repeat(8), 8);
    }

    static void promise03TermsNinthClause() {
        fault("pay;".repeat(9), 32);
        fault("pay;".repeat(8) + "  ask", 34);
        fault("pay;".repeat(8) + "ask if 1=1;", 32);
        fault("pay;".repeat(8) + "5", 32);
        fault("pay;".repeat(8) + ";", 32);
        fault("ask if 1=1;".repeat(9), 88);
    }

    static void promise03TermsNumbersLeastAndMost() {
        reads("ask if 0=0;", 1);
        reads("ask if 999=999;", 1);
        reads("ask if 00=000;", 1);
        fault("ask if 1000=1;", 7);
        fault("ask if 0000=1;", 7);
        fault("ask if 1=0999;", 9);
        fault("ask if 1=99999999999999999999;", 9);
        CrashTies x = Scenes.with(0, 1);
        for (String text : new String[] {"ask if 999>998;", "ask if 0<1;", "ask if 010=10;", "ask if 999=999;", "ask if 000=0;", "ask if 100>99;"}) {
            Scenes.rules(x, text);
            Tests.due("says(0) by " + text, x.says(0), 1);
        }
    }

    static void promise03TermsThreeOpenBrackets() {
        reads("ask if (1=1);", 1);
        reads("ask if (((1=1)));", 1);
        reads("ask if (((1=1) and (1=1)) or ((2=2) and (3=3)));", 1);
        reads("ask if (1=1) and (1=1) and (1=1) and (1=1) and (1=1);", 1);
        reads("ask if (((1=1)));ask if (((1=1)));", 2);
        fault("ask if ((((1=1))));", 10);
        fault("ask if ((((", 10);
        fault("ask if (((", 10);
        fault("ask if (1=1 or (1=1 and not (1=1 or (1=1))));", 36);
        fault("ask if 1=1;ask if ((((1=1))));", 21);
    }

    static void promise03TermsBytesOfNames() {
        for (int b = 0; b < 256; b++) {
            String text = "ask" + (char) b;
            boolean letter = b >= 'a' && b <= 'z';
            if (b == ';') reads(text, 1);
            else fault(text, b == ' ' ? 4 : letter ? 0 : 3);
        }
    }

    static void promise03TermsBytesOfNumbers() {
        for (int b = 0; b < 256; b++) {
            String text = "ask if 12" + (char) b;
            boolean goesOn = b == ' ' || b == '<' || b == '=' || b == '>' || b >= '0' && b <= '9';
            fault(text, goesOn ? 10 : 9);
        }
    }

    static void promise03TermsBytesAlone() {
        for (int b = 0; b < 256; b++) {
            if (b == ' ') reads("" + (char) b, 0);
            else fault("" + (char) b, 0);
        }
    }

    static void promise03TermsNamesAsLongAsTheyGo() {
        for (String text : new String[] {"as;", "askk;", "askif 1=1;", "payask;", "sk;", "ask1;"}) fault(text, text.equals("ask1;") ? 3 : 0);
        fault("ask i 1=1;", 4);
        fault("ask iff 1=1;", 4);
        fault("ask if coins=1;", 7);
        fault("ask if coi=1;", 7);
        fault("ask if no 1=1;", 7);
        fault("ask if 1=1 an 1=1;", 11);
        fault("ask if 1=1 orr 1=1;", 11);
        fault("ask if notcoin=1;", 7);
        fault("ask if 1=1 ornot 1=1;", 11);
    }

    static void promise03TermsBlanks() {
        reads("ask if1=1or 2=2and not(3=3);", 1);
        reads("  ask   if  1  =  1  or  2  =  2  ;  pay  ;  ", 2);
        fault("a sk;", 0);
        fault("ask if 1 2=3;", 9);
        fault("ask if co in=1;", 7);
        for (char b : new char[] {9, 10, 13, 31, 33, 160}) fault("ask" + b + ";", 3);
    }

    /** A name beside a number needs no blank. */
    static void promise03TermsNameBesideNumber() {
        reads("ask if5=coin;", 1);
        reads("ask if 5=5and 6=6or 7=7;", 1);
        reads("ask if not5=coin;", 1);
        fault("ask if coin5=1;", 11);
        fault("ask if 5coin=1;", 8);
    }

    /** What may stand at each place of a text that goes through the whole of the grammar. */
    static void promise03FaultOfEachWordAtEachPlace() {
        String[] text = {"ask", "if", "not", "(", "coin", "<", "3", "and", "day", ">", "1", ")", "or", "kind", "=", "0", ";", "pay", ";"};
        String clause = " ask pay ", verb = " if ; ", operand = " not ( " + VALUES, sign = " < = > ", inside = " and or ) ", outside = " and or ; ";
        String[] may = {clause, verb, operand, operand, operand, sign, VALUES, inside, operand, sign, VALUES, inside, outside, operand, sign,
            VALUES, outside, clause, verb};
        StringBuilder before = new StringBuilder();
        int clauses = 0;
        for (int i = 0; i < text.length; i++) {
            for (String word : ALL) {
                String whole = before + word;
                if (!may[i].contains(" " + word + " ")) fault(whole, before.length());
                else if (word.equals(";")) reads(whole, clauses + 1);
                else fault(whole, whole.length());
            }
            before.append(text[i]).append(' ');
            if (text[i].equals(";")) reads(before.toString(), ++clauses);
            else fault(before.toString(), before.length());
        }
    }

    /** The first of several faults is told. */
    static void promise03FirstFault() {
        fault("ask if 1=1 # ((((", 11);
        fault("ask if 1000=1000;", 7);
        fault("#ask", 0);
        fault("ask;ask ask pay", 8);
        fault("ask if (((1=1) or 1000=1));", 18);
    }

    // ---- promise 25

    static void promise25Claims() {
        for (int claim : new int[] {-1, 5, 9, Tests.MIN, Tests.MAX}) Tests.refused("says(" + claim + ")", -1, x -> x.says(claim));
        Tests.due("says(8), the ninth", Scenes.with(0, 9).says(8), 0);
        Tests.due("says(0) of no claims", new CrashTies().says(0), -1);
    }

    private static void says(CrashTies x, int claim, String text, int want) {
        Scenes.rules(x, text);
        Tests.due("says(" + claim + ") by '" + text + "'", x.says(claim), want);
    }

    static void promise25TermsWithoutOnePay() {
        CrashTies x = Scenes.with(0, 1);
        Tests.due("says(0) without rules", x.says(0), 0);
        says(x, 0, "ask if 1=2;", 0);
        says(x, 0, "ask if 1=2;".repeat(8), 0);
        says(x, 0, "ask;", 1);
        says(x, 0, "", 0);
    }

    static void promise25TermsLastClauseThatHolds() {
        CrashTies x = Scenes.with(0, 1);
        says(x, 0, "ask;pay;", 0);
        says(x, 0, "pay;ask;", 1);
        says(x, 0, "ask;" + "pay;".repeat(6) + "ask;", 1);
        says(x, 0, "ask;" + "pay if 1=2;".repeat(7), 1);
        says(x, 0, "pay;".repeat(7) + "ask if 1=1;", 1);
        says(x, 0, "ask if 1=1;pay if 1=1;ask if 1=2;", 0);
    }

    private static void fact(CrashTies x, int claim, String name, int v) {
        if (v > 0) {
            says(x, claim, "ask if " + name + ">" + (v - 1) + ";", 1);
            says(x, claim, "ask if " + name + "=" + (v - 1) + ";", 0);
            says(x, claim, "ask if " + name + "<" + v + ";", 0);
        }
        says(x, claim, "ask if " + name + "=" + v + ";", 1);
        says(x, claim, "ask if " + name + ">" + v + ";", 0);
        says(x, claim, "ask if " + name + "<" + (v + 1) + ";", 1);
        says(x, claim, "ask if " + v + "=" + name + ";", 1);
    }

    static void promise25TermsFactsAtTheirLeast() {
        CrashTies x = new CrashTies();
        x.claim(0, 0, 0, 0, 0);
        for (String name : new String[] {"coin", "day", "people", "ties", "words", "kind"}) fact(x, 0, name, 0);
    }

    static void promise25TermsFactsAreApart() {
        CrashTies x = Scenes.with(2, 1);
        x.claim(4, 30, 3, 6, 40);
        x.claim(0, 0, 0, 6, 0);
        x.seat(1, 3, 0);
        x.seat(1, 2, 1);
        x.set(3, 9);
        String[] names = {"coin", "day", "people", "ties", "words", "kind"};
        int[] facts = {40, 30, 2, 1, 6, 4};
        for (int i = 0; i < 6; i++) fact(x, 1, names[i], facts[i]);
    }

    static void promise25TermsFactsAtTheirMost() {
        CrashTies x = new CrashTies();
        x.claim(5, 99, 3, 9, 99);
        int[] most = {99, 99, 9, 5};
        String[] names = {"coin", "day", "words", "kind"};
        for (int i = 0; i < 4; i++) fact(x, 0, names[i], most[i]);
    }

    static void promise25TermsPeopleOfAClaim() {
        CrashTies x = Scenes.with(3, 2);
        x.person(0, true);
        int[] people = {2, 0, 3, 1};
        for (int place = 0; place < 4; place++) {
            fact(x, 1, "people", place);
            x.seat(1, place, people[place]);
        }
        fact(x, 1, "people", 4);
        x.join(0, 1);
        Tests.due("says(1) by people of whom two are one", x.says(1), 1);
        x.seat(1, 3, -1);
        fact(x, 1, "people", 3);
    }

    static void promise25TermsTiesOfAClaim() {
        CrashTies x = new CrashTies();
        for (int c = 0; c < 4; c++) x.claim(0, 0, 0, 1, 0);
        fact(x, 2, "ties", 3);
        CrashTies full = Tests.made(y -> Scenes.woven(y, 0, 0));
        fact(full, 8, "ties", 8);
        fact(Scenes.with(0, 9), 0, "ties", 0);
    }

    static void promise25TermsNotAndAllOr() {
        CrashTies x = Scenes.with(0, 1);
        String[] holds = {"1=1", "1=2"};
        for (int a = 0; a < 2; a++) {
            says(x, 0, "ask if not " + holds[a] + ";", a);
            says(x, 0, "ask if not not " + holds[a] + ";", 1 - a);
            for (int b = 0; b < 2; b++) {
                String two = holds[a] + " and " + holds[b];
                says(x, 0, "ask if " + two + ";", a + b == 0 ? 1 : 0);
                says(x, 0, "ask if not (" + two + ");", a + b == 0 ? 0 : 1);
                says(x, 0, "ask if " + holds[a] + " or " + holds[b] + ";", a + b < 2 ? 1 : 0);
                says(x, 0, "ask if not " + holds[a] + " or " + holds[b] + ";", a == 1 || b == 0 ? 1 : 0);
                says(x, 0, "ask if 1=1 or " + two + ";", 1);
                says(x, 0, "ask if " + two + " or 1=1;", 1);
                says(x, 0, "ask if (1=1 or " + holds[a] + ") and " + holds[b] + ";", b == 0 ? 1 : 0);
            }
        }
    }

    // ---- promise 26

    static void promise26Claims() {
        for (int claim : new int[] {-1, 5, 9, Tests.MIN, Tests.MAX}) {
            for (int v = -1; v < 2; v++) {
                int becomes = v;
                Tests.refused("found(" + claim + ", " + v + ", true)", -1, x -> x.found(claim, becomes, true));
            }
        }
        Tests.due("found(8, 1, true), the ninth", Scenes.with(0, 9).found(8, 1, true), -9);
    }

    static void promise26Values() {
        for (int v : new int[] {-2, 2, -9, Tests.MIN, Tests.MAX}) {
            Tests.refused("found(0, " + v + ", false)", -1, x -> x.found(0, v, false));
            Tests.refused("found(3, " + v + ", true)", -1, x -> x.found(3, v, true));
        }
    }

    static void promise26WhatItWas() {
        CrashTies x = Scenes.with(0, 2);
        int[] becomes = {-1, 1, 1, 0, 0, -1, -1, 0, 1, -1};
        int was = -9;
        for (int v : becomes) {
            Tests.due("found(1, " + v + ", true)", x.found(1, v, true), was);
            was = v == -1 ? -9 : v;
        }
        Tests.due("found(0, -1, true) of nothing", x.found(0, -1, true), -9);
        Tests.due("many(4)", x.many(4), 0);
    }

    // ---- promise 27

    static void promise27Parts() {
        for (int part : new int[] {-1, 2, Tests.MIN, Tests.MAX}) {
            Tests.refused("rate(" + part + ")", -1, x -> x.rate(part));
            Tests.due("rate(" + part + ") of no claims", new CrashTies().rate(part), -1);
        }
    }

    static void promise27NoneByChance() {
        for (int part = 0; part < 2; part++) {
            int asked = part;
            Tests.Scene scene = x -> {
                Scenes.claims(x, 3);
                x.found(0, 1, false);
                x.found(1, 0, false);
                x.found(2, -1, true);
            };
            Tests.refused("rate(" + part + ") of claims not found by chance", -3, scene, x -> x.rate(asked));
            Tests.due("rate(" + part + ") of no claims", new CrashTies().rate(part), -3);
        }
    }

    private static void rate(int looked, int of, int above, int below) {
        CrashTies x = Scenes.with(0, 9);
        for (int c = 0; c < looked; c++) x.found(c, c < of ? 1 : 0, true);
        for (int c = looked; c < 9; c++) x.found(c, 1, false);
        Tests.due("rate(0) of " + of + " of " + looked, x.rate(0), above);
        Tests.due("rate(1) of " + of + " of " + looked, x.rate(1), below);
    }

    static void promise27TermsZeroIsZeroByOne() {
        for (int looked = 1; looked <= 9; looked++) rate(looked, 0, 0, 1);
    }

    static void promise27All() {
        for (int looked = 1; looked <= 9; looked++) rate(looked, looked, 1, 1);
    }

    static void promise27WithoutACommonDivisor() {
        rate(9, 3, 1, 3);
        rate(9, 6, 2, 3);
        rate(8, 6, 3, 4);
        rate(9, 8, 8, 9);
        rate(4, 2, 1, 2);
        rate(7, 3, 3, 7);
    }

    static void promise27LookedAtOtherwiseLater() {
        CrashTies x = Scenes.with(0, 2);
        x.found(0, 1, true);
        x.found(1, 0, true);
        x.found(0, 1, false);
        Tests.due("rate(0)", x.rate(0), 0);
        x.found(1, 1, true);
        Tests.due("rate(0)", x.rate(0), 1);
        Tests.due("rate(1)", x.rate(1), 1);
        x.found(1, -1, true);
        Tests.due("rate(1) of none", x.rate(1), -3);
    }

    /** A claim that comes again after again() isn't looked at by chance before it is found so. */
    static void promise27NewClaimInAnOldPlace() {
        CrashTies x = new CrashTies();
        x.keep();
        x.claim(0, 0, 0, 0, 0);
        x.found(0, 1, true);
        x.again();
        x.claim(0, 0, 0, 0, 0);
        Tests.due("rate(0)", x.rate(0), -3);
        Tests.due("found(0, 0, false)", x.found(0, 0, false), -9);
    }

    // ---- promise 28

    static void promise28What() {
        for (int what : new int[] {-1, 4, Tests.MIN, Tests.MAX}) Tests.refused("right(" + what + ")", -1, x -> x.right(what));
    }

    static void promise28NoneFound() {
        for (int what = 0; what < 4; what++) {
            Tests.due("right(" + what + ") of no claims", new CrashTies().right(what), 0);
            Tests.due("right(" + what + ") of nine of which nothing is found", Scenes.with(0, 9).right(what), 0);
        }
    }

    static void promise28AllFound() {
        for (int sort = 0; sort < 4; sort++) {
            CrashTies x = Scenes.with(0, 9);
            Scenes.rules(x, sort < 2 ? "ask;" : "pay;");
            for (int c = 0; c < 9; c++) x.found(c, 1 - sort % 2, c % 2 == 0);
            for (int what = 0; what < 4; what++) Tests.due("right(" + what + ") of sort " + sort, x.right(what), what == sort ? 9 : 0);
        }
    }

    static void promise28ByRulesNow() {
        CrashTies x = new CrashTies();
        for (int c = 0; c < 4; c++) x.claim(0, c, 0, 0, 0);
        for (int c = 0; c < 4; c++) x.found(c, c % 2, false);
        int[][] right = {{0, 0, 2, 2}, {0, 1, 2, 1}, {1, 1, 1, 1}, {1, 2, 1, 0}, {2, 2, 0, 0}};
        for (int day = 0; day <= 4; day++) {
            Scenes.rules(x, "ask if day<" + day + ";");
            for (int what = 0; what < 4; what++) Tests.due("right(" + what + "), asked before day " + day, x.right(what), right[day][what]);
        }
    }

    // ---- promises 29 and 30

    static void promise29Seeds() {
        CrashTies x = new CrashTies();
        int was = 1;
        for (int v : new int[] {0, -1, 1, Tests.MIN, Tests.MAX, 5}) {
            Tests.due("seed(" + v + ")", x.seed(v), was);
            was = v;
        }
    }

    static void promise30NoneLeft() {
        Tests.refused("draw() of claims that are all found", -3, Scenes::full, x -> x.draw());
        Tests.refused("draw() of no claims", -3, x -> x.seed(7), x -> x.draw());
    }

    static void promise30OneLeft() {
        for (int left = 0; left < 9; left++) {
            CrashTies x = Scenes.with(0, 9);
            for (int c = 0; c < 9; c++) if (c != left) x.found(c, 0, false);
            x.seed(left * 1000003);
            Tests.due("draw()", x.draw(), left);
            Tests.due("draw() again, it is still open", x.draw(), left);
        }
    }

    /** What z becomes is told in 32 bits; its upper 16 count, without a sign, modulo how many are open. */
    private static void draw(int seed, int becomes, int open, int want) {
        CrashTies x = Scenes.with(0, open);
        x.seed(seed);
        Tests.due("draw() of " + open + " by " + seed, x.draw(), want);
        Tests.due("z after draw() by " + seed, x.seed(0), becomes);
    }

    static void promise30TermsDrawnWraps() {
        draw(0, 12345, 9, 0);
        draw(1, 1103527590, 9, 16838 % 9);
        draw(-1, -1103502900, 9, 48697 % 9);
        draw(Tests.MAX, 1043980748, 9, 15929 % 9);
        draw(Tests.MIN, -2147471303, 9, 32768 % 9);
        draw(Tests.MIN, -2147471303, 7, 32768 % 7);
        draw(2, -2087924461, 8, 33676 % 8);
        draw(2, -2087924461, 1, 0);
    }

    static void promise30TermsDrawnOfThoseByNumbers() {
        CrashTies x = Scenes.with(0, 9);
        for (int c : new int[] {0, 3, 4, 8}) x.found(c, 1, true);
        int[] open = {1, 2, 5, 6, 7};
        int z = 1;
        for (int i = 0; i < 20; i++) {
            z = z * 1103515245 + 12345;
            Tests.due("draw() " + i, x.draw(), open[(z >>> 16) % 5]);
        }
    }

    static void promise25To30ChangeNothing() {
        Tests.changesNothing("says(1)", x -> x.says(1));
        Tests.changesNothing("rate(0)", x -> x.rate(0));
        Tests.changesNothing("rate(1)", x -> x.rate(1));
        for (int w = 0; w < 4; w++) {
            int what = w;
            Tests.changesNothing("right(" + w + ")", x -> x.right(what));
        }
    }
}
