import java.math.BigInteger;
import java.util.ArrayList;
import java.util.Arrays;
import java.util.List;
import java.util.TreeSet;

/** Long runs of drawn calls, each answer compared with that of a slow model written straight from the document. */
public final class ModelRuns {
    private static final int RUNS = 200, CALLS = 512;
    private static long state = 20261118;
    private static int wrong = 0;

    private static int below(int n) {
        state = state * 6364136223846793005L + 1442695040888963407L;
        return (int) ((state >>> 33) % n);
    }

    /** Mostly within the bounds, now and then at one or beside it. */
    private static int near(int least, int most) {
        if (below(12) == 0) return below(2) == 0 ? least - 1 + below(2) : most + below(2);
        return least + below(Math.max(1, most - least + 1));
    }

    public static void main(String[] args) {
        for (int run = 0; run < RUNS && wrong < 20; run++) oneRun(run);
        System.out.println(wrong == 0 ? "all answers are those of the model" : wrong + " answers are not those of the model");
        if (wrong != 0) System.exit(1);
    }

    private static void oneRun(int run) {
        CrashTies x = new CrashTies();
        Model m = new Model();
        StringBuilder told = new StringBuilder();
        int style = below(4);
        int calls = 0;
        while (calls < CALLS) {
            int before = calls;
            if (below(24) == 0) {
                for (long[] feed : feeds(text())) {
                    if (calls >= CALLS - 1) break;
                    calls++;
                    check(run, "feed", x.feed(feed[0], (int) feed[1]), m.feed(feed[0], (int) feed[1]), told);
                }
                if (below(5) > 0) check(run, "rules", x.rules(), m.rules(), told);
                calls++;
            }
            one(run, x, m, told, style, calls);
            calls++;
            if (calls == before || wrong > 20) return;
        }
    }

    private static void check(int run, String call, long got, long due, StringBuilder told) {
        told.append(call).append(" -> ").append(got).append('\n');
        if (got == due) return;
        wrong++;
        System.out.println("run " + run + ": " + call + " answered " + got + ", the model says " + due);
        if (wrong == 1) System.out.println(told);
    }

    private static void one(int run, CrashTies x, Model m, StringBuilder told, int style, int calls) {
        boolean early = calls < 60;
        int pick = early && below(3) > 0 ? below(6) : below(3) == 0 ? 36 + below(8) : below(46);
        int a = 0, b = 0, c = 0, d = 0, e = 0;
        switch (pick) {
            case 0: a = near(0, 3); boolean hub = below(5) == 0;
                check(run, "person(" + a + ", " + hub + ")", x.person(a, hub), m.person(a, hub), told); return;
            case 1: case 2: a = near(0, 5); b = below(8) == 0 ? near(0, 99) : below(10); c = near(0, 3); d = below(6) == 0 ? near(0, 9) : below(4); e = near(0, 99);
                if (!early && below(3) > 0) return;
                check(run, "claim(" + a + ", " + b + ", " + c + ", " + d + ", " + e + ")", x.claim(a, b, c, d, e), m.claim(a, b, c, d, e), told); return;
            case 3: case 4: case 5: a = near(0, m.claims.size() - 1); b = near(0, 3); c = below(10) == 0 ? near(-1, 10) : below(Math.max(1, Math.min(m.people.size(), 4 + 2 * style)));
                check(run, "seat(" + a + ", " + b + ", " + c + ")", x.seat(a, b, c), m.seat(a, b, c), told); return;
            case 6: a = near(0, 3); b = near(10, 99);
                check(run, "size(" + a + ", " + b + ")", x.size(a, b), m.size(a, b), told); return;
            case 7: a = near(0, m.people.size() - 1); b = near(0, 3);
                check(run, "personOf(" + a + ", " + b + ")", x.personOf(a, b), m.personOf(a, b), told); return;
            case 8: a = near(0, m.people.size() - 1); b = near(0, m.people.size() - 1); if (below(style + 1) > 0) return;
                check(run, "join(" + a + ", " + b + ")", x.join(a, b), m.join(a, b), told); return;
            case 9: a = near(0, m.claims.size() - 1); b = near(0, 14);
                check(run, "claimOf(" + a + ", " + b + ")", x.claimOf(a, b), m.claimOf(a, b), told); return;
            case 10: case 11: a = near(0, 6); b = a < 4 ? near(0, 9) : a == 5 ? near(0, 30) : near(0, 20);
                check(run, "set(" + a + ", " + b + ")", x.set(a, b), m.set(a, b), told); return;
            case 12: a = near(0, m.claims.size() - 1); b = near(0, m.claims.size() - 1);
                check(run, "tie(" + a + ", " + b + ")", x.tie(a, b), m.tie(a, b), told); return;
            case 13: a = near(0, m.claims.size() - 1); check(run, "tied(" + a + ")", x.tied(a), m.tied(a), told); return;
            case 14: a = near(0, m.claims.size() - 1); check(run, "hang(" + a + ")", x.hang(a), m.hang(a), told); return;
            case 15: a = near(0, m.people.size() - 1); b = near(0, m.people.size() - 1);
                check(run, "steps(" + a + ", " + b + ")", x.steps(a, b), m.steps(a, b), told); return;
            case 16: a = near(0, m.people.size() - 1); check(run, "turned(" + a + ")", x.turned(a), m.turned(a), told); return;
            case 17: a = near(0, m.all()); check(run, "score(" + a + ")", x.score(a), m.score(a), told); return;
            case 18: a = near(0, 1); check(run, "lot(" + a + ")", x.lot(a), m.lot(a), told); return;
            case 19: a = below(10) == 0 ? near(-1000, 1000) : near(-20, 60);
                check(run, "seen(" + a + ")", x.seen(a), m.seen(a), told); return;
            case 20: a = near(0, 3); check(run, "without(" + a + ")", x.without(a), m.without(a), told); return;
            case 21: check(run, "hold()", x.hold(), m.hold(), told); return;
            case 22: a = near(0, m.people.size() - 1); b = near(0, 1);
                check(run, "odds(" + a + ", " + b + ")", x.odds(a, b), m.odds(a, b), told); return;
            case 23: a = near(0, m.claims.size() - 1); check(run, "likely(" + a + ")", x.likely(a), m.likely(a), told); return;
            case 24: a = near(0, 1); check(run, "best(" + a + ")", x.best(a), m.best(a), told); return;
            case 25: a = near(0, m.claims.size() - 1); check(run, "says(" + a + ")", x.says(a), m.says(a), told); return;
            case 26: case 27: a = near(0, m.claims.size() - 1); b = near(-1, 1); boolean chance = below(2) == 0;
                check(run, "found(" + a + ", " + b + ", " + chance + ")", x.found(a, b, chance), m.found(a, b, chance), told); return;
            case 28: a = near(0, 1); check(run, "rate(" + a + ")", x.rate(a), m.rate(a), told); return;
            case 29: a = near(0, 3); check(run, "right(" + a + ")", x.right(a), m.right(a), told); return;
            case 30: a = below(3) == 0 ? below(1 << 30) * 4 : -5 + below(10); if (below(3) > 0) return;
                check(run, "seed(" + a + ")", x.seed(a), m.seed(a), told); return;
            case 31: check(run, "draw()", x.draw(), m.draw(), told); return;
            case 32: check(run, "prove()", x.prove(), m.prove(), told); return;
            case 33: a = near(0, m.rows.size() - 1); b = near(0, 2);
                check(run, "row(" + a + ", " + b + ")", x.row(a, b), m.row(a, b), told); return;
            case 34: a = near(0, m.rows.size() - 1); b = near(0, 2); c = below(9); if (below(4) > 0) return;
                check(run, "alterRow(" + a + ", " + b + ", " + c + ")", x.alterRow(a, b, c), m.alterRow(a, b, c), told); return;
            case 35: check(run, "judge()", x.judge(), m.judge(), told); return;
            case 36: a = near(0, 3); b = near(-1, 3); c = below(3) == 0 ? near(0, 40) : near(0, 4);
                check(run, "sheet(" + a + ", " + b + ", " + c + ")", x.sheet(a, b, c), m.sheet(a, b, c), told); return;
            case 37: a = near(0, 3); b = near(0, 5); c = below(1 << 30) * 4 + below(4) >> below(32);
                check(run, "put(" + a + ", " + b + ", " + c + ")", x.put(a, b, c), m.put(a, b, c), told); return;
            case 38: a = near(0, 3); b = below(2) == 0 && a >= 0 && a < 4 && m.sheets[a] != null ? m.sortOf(m.sheets[a]) : near(0, 3); c = near(0, 5);
                check(run, "item(" + a + ", " + b + ", " + c + ")", x.item(a, b, c), m.item(a, b, c), told); return;
            case 39: a = near(0, 3); b = near(0, 2); c = near(0, m.claims.size() - 1);
                check(run, "shelf(" + a + ", " + b + ", " + c + ")", x.shelf(a, b, c), m.shelf(a, b, c), told); return;
            case 40: a = near(0, 3); b = below(2) == 0 ? near(0, 5) : near(10, 13);
                check(run, "taken(" + a + ", " + b + ")", x.taken(a, b), m.taken(a, b), told); return;
            case 41: case 42: a = near(0, 3); b = near(0, 3); c = below(5) == 0 ? below(1 << 30) * 4 : near(-9, 200);
                check(run, "act(" + a + ", " + b + ", " + c + ")", x.act(a, b, c), m.act(a, b, c), told); return;
            case 43: a = near(0, m.trace.size() - 1); check(run, "trace(" + a + ")", x.trace(a), m.trace(a), told); return;
            case 44: a = near(0, 7); check(run, "many(" + a + ")", x.many(a), m.many(a), told); return;
            default:
                int k = below(8);
                if (k == 0) check(run, "keep()", x.keep(), m.keep(), told);
                else if (k == 1) check(run, "again()", x.again(), m.again(), told);
        }
    }

    // ---- texts

    private static String blanks() {
        return below(4) == 0 ? " ".repeat(1 + below(2)) : "";
    }

    private static String value() {
        String[] names = {"coin", "day", "people", "ties", "words", "kind"};
        if (below(3) == 0) return "" + below(below(2) == 0 ? 5 : 1000);
        return names[below(6)];
    }

    private static String cond(int open) {
        StringBuilder s = new StringBuilder();
        int parts = 1 + below(3) * below(2);
        for (int i = 0; i < parts; i++) {
            if (i > 0) s.append(below(2) == 0 ? " or " : " and ");
            for (int k = below(3) * below(2); k > 0; k--) s.append("not ");
            if (open < 4 && below(3) == 0) s.append(blanks()).append('(').append(cond(open + 1)).append(')').append(blanks());
            else s.append(value()).append(blanks()).append("<=>".charAt(below(3))).append(blanks()).append(value());
        }
        return s.toString();
    }

    private static byte[] text() {
        StringBuilder s = new StringBuilder();
        for (int i = below(below(6) == 0 ? 11 : 4); i > 0; i--) {
            s.append(blanks()).append(below(2) == 0 ? "ask" : "pay").append(blanks());
            if (below(3) > 0) s.append(" if ").append(cond(below(3)));
            s.append(';').append(blanks());
        }
        if (s.length() > 190) s.setLength(190);
        String put = "ask pay if or and not ; ( ) < = > 7 1000 coin day x \u00e9\tA0";
        if (below(2) == 0 && s.length() > 0) {
            int at = below(s.length());
            int kind = below(3);
            if (kind == 0) s.deleteCharAt(at);
            else if (kind == 1) s.setCharAt(at, put.charAt(below(put.length())));
            else s.insert(at, " " + put.split(" ")[below(18)] + (below(2) == 0 ? " " : ""));
        }
        byte[] bytes = new byte[s.length()];
        for (int i = 0; i < bytes.length; i++) bytes[i] = (byte) s.charAt(i);
        return bytes;
    }

    private static List<long[]> feeds(byte[] bytes) {
        List<long[]> all = new ArrayList<>();
        for (int i = 0; i < bytes.length; ) {
            int n = Math.min(below(5) == 0 ? 1 + below(8) : 8, bytes.length - i);
            long eight = 0;
            for (int k = 0; k < 8; k++) eight |= (k < n ? bytes[i + k] & 255L : below(256)) << (8 * k);
            all.add(new long[] {eight, n});
            i += n;
        }
        return all;
    }

    // ---- the model

    static final class Person {
        int town;
        boolean hub;
        int one;
    }

    static final class Parted extends RuntimeException {
        private static final long serialVersionUID = 1;
    }

    static class Claim {
        int n, kind, day, town, words, coin, found = -9;
        boolean chance;
        int[] seats = {-9, -9, -9, -9};
        List<Integer> trace;

        int weigh(int v) { return v; }
        int hits(int x) { trace.add(10); return x + n; }
        int pays(int x) { trace.add(11); return hits(x) * 2; }
        int shares(int x) { trace.add(12); if (coin == n) throw new Parted(); return x / (coin - n); }
        int tells(int x) { trace.add(13); return pays(x) ^ coin; }
    }

    static class Bump extends Claim {
        int weigh(int v) { return v > 0 ? v + 1 : 0; }
        int pays(int x) { trace.add(20); return super.pays(x) - coin; }
    }

    static class Glass extends Claim {
        int weigh(int v) { return v / 2; }
        int hits(int x) { trace.add(30); return super.hits(x) * 3; }
        int tells(int x) { trace.add(31); return super.tells(x) + shares(n); }
    }

    static class Neck extends Bump {
        int weigh(int v) { return 2 * super.weigh(v); }
        int hits(int x) { trace.add(40); return 0 - super.hits(x); }
        int pays(int x) { trace.add(41); return super.pays(x) + hits(n); }
    }

    static class Theft extends Glass {
        int weigh(int v) { return Math.max(0, super.weigh(v) - 1); }
        int shares(int x) { trace.add(50); return super.shares(x + 2) ^ 1; }
        int hits(int x) { trace.add(51); return super.hits(x) - n; }
    }

    static class Fire extends Claim {
        int weigh(int v) { return v + coin / 10; }
        int tells(int x) { trace.add(60); return super.tells(x) * 2; }
        int shares(int x) { trace.add(61); return super.shares(x) + hits(coin); }
    }

    static Claim made(int kind) {
        Claim[] all = {new Claim(), new Bump(), new Glass(), new Neck(), new Theft(), new Fire()};
        return all[kind];
    }

    static Class<?> classOf(int kind) {
        return made(kind).getClass();
    }

    static final class Token {
        String word;
        int at;
    }

    static final class Model {
        List<Person> people = new ArrayList<>();
        List<Claim> claims = new ArrayList<>();
        int[] sizes = {50, 50, 50, 50};
        int[] laws = {2, 4, 1, 3, 3, 5, 2};
        int z = 1;
        List<List<Token>> rules = new ArrayList<>();
        Model kept;
        StringBuilder tape = new StringBuilder();
        List<int[]> rows = new ArrayList<>();
        Object[] sheets = new Object[4];
        Object[] shelves = new Object[4];
        List<Integer> trace = new ArrayList<>();

        boolean noClaim(int c) { return c < 0 || c >= claims.size(); }
        boolean noPerson(int p) { return p < 0 || p >= people.size(); }

        int feed(long eight, int n) {
            if (n < 1 || n > 8) return -1;
            if (tape.length() + n > 200) return -2;
            for (int i = 0; i < n; i++) { tape.append((char) (eight & 255)); eight >>>= 8; }
            return tape.length();
        }

        int rules() {
            String text = tape.toString();
            tape.setLength(0);
            List<Token> tokens = new ArrayList<>();
            java.util.regex.Matcher cutter = java.util.regex.Pattern.compile("[a-z]+|[0-9]+|[^ ]", java.util.regex.Pattern.DOTALL).matcher(text);
            while (cutter.find()) {
                Token t = new Token();
                t.word = cutter.group();
                t.at = cutter.start();
                tokens.add(t);
            }
            List<List<Token>> read = new ArrayList<>();
            List<Token> clause = new ArrayList<>();
            String place = "clause";
            int open = 0;
            for (Token t : tokens) {
                String next = following(place, t.word, open, read.size());
                if (next == null) return -100 - t.at;
                if (t.word.equals("(")) open++;
                if (t.word.equals(")")) open--;
                clause.add(t);
                place = next;
                if (place.equals("clause")) { read.add(clause); clause = new ArrayList<>(); }
            }
            if (!place.equals("clause")) return -100 - text.length();
            rules = read;
            return rules.size();
        }

        /** Where one stands after a word, or null if it can't stand there. */
        private static String following(String place, String word, int open, int clauses) {
            boolean value = word.matches("[0-9]{1,3}|coin|day|people|ties|words|kind");
            switch (place) {
                case "clause": return clauses < 8 && word.matches("ask|pay") ? "verb" : null;
                case "verb": return word.equals(";") ? "clause" : word.equals("if") ? "operand" : null;
                case "operand":
                    if (word.equals("not")) return "operand";
                    if (word.equals("(")) return open < 3 ? "operand" : null;
                    return value ? "sign" : null;
                case "sign": return word.matches("[<=>]") ? "second" : null;
                case "second": return value ? "after" : null;
                default:
                    if (word.matches("and|or")) return "operand";
                    if (word.equals(")")) return open > 0 ? "after" : null;
                    return word.equals(";") && open == 0 ? "clause" : null;
            }
        }

        boolean asks(int c) {
            boolean ask = false;
            for (List<Token> clause : rules) {
                List<String> words = new ArrayList<>();
                for (Token t : clause) words.add(t.word);
                if (words.size() == 2 || holds(words.subList(2, words.size() - 1), c)) ask = words.get(0).equals("ask");
            }
            return ask;
        }

        private boolean holds(List<String> words, int c) {
            for (String parting : new String[] {"or", "and"}) {
                int open = 0;
                for (int i = 0; i < words.size(); i++) {
                    if (words.get(i).equals("(")) open++;
                    if (words.get(i).equals(")")) open--;
                    if (open > 0 || !words.get(i).equals(parting)) continue;
                    boolean left = holds(words.subList(0, i), c);
                    boolean rest = holds(words.subList(i + 1, words.size()), c);
                    return parting.equals("or") ? left || rest : left && rest;
                }
            }
            if (words.get(0).equals("not")) return !holds(words.subList(1, words.size()), c);
            if (words.get(0).equals("(")) return holds(words.subList(1, words.size() - 1), c);
            int first = fact(words.get(0), c), second = fact(words.get(2), c);
            return words.get(1).equals("<") ? first < second : words.get(1).equals("=") ? first == second : first > second;
        }

        private int fact(String word, int c) {
            Claim claim = claims.get(c);
            switch (word) {
                case "coin": return claim.coin;
                case "day": return claim.day;
                case "words": return claim.words;
                case "kind": return claim.kind;
                case "ties": return Integer.bitCount(tied(c));
                case "people": return (int) Arrays.stream(claim.seats).filter(p -> p >= 0).count();
                default: return Integer.parseInt(word);
            }
        }

        int size(int town, int n) {
            if (town < 0 || town > 3 || n < 10 || n > 99) return -1;
            int was = sizes[town];
            sizes[town] = n;
            return was;
        }

        int person(int town, boolean hub) {
            if (town < 0 || town > 3) return -1;
            if (people.size() == 10) return -2;
            Person p = new Person();
            p.town = town;
            p.hub = hub;
            p.one = people.size();
            people.add(p);
            return p.one;
        }

        boolean hub(int one) { return people.stream().anyMatch(p -> p.one == one && p.hub); }
        TreeSet<Integer> onesOf(Claim c) {
            TreeSet<Integer> all = new TreeSet<>();
            for (int p : c.seats) if (p >= 0) all.add(people.get(p).one);
            return all;
        }
        boolean sits(Claim c, int place, int one) { return c.seats[place] >= 0 && people.get(c.seats[place]).one == one; }

        int personOf(int p, int what) {
            if (noPerson(p) || what < 0 || what > 3) return -1;
            int one = people.get(p).one;
            if (what == 0) return people.get(p).town;
            if (what == 1) return one;
            if (what == 2) return hub(one) ? 1 : 0;
            return (int) claims.stream().filter(c -> onesOf(c).contains(one)).count();
        }

        int join(int p, int q) {
            if (noPerson(p) || noPerson(q)) return -1;
            int a = people.get(p).one, b = people.get(q).one;
            for (Person x : people) if (x.one == a || x.one == b) x.one = Math.min(a, b);
            return a == b ? 0 : 1;
        }

        int claim(int kind, int day, int town, int words, int coin) {
            if (kind < 0 || kind > 5 || day < 0 || day > 99 || town < 0 || town > 3 || words < 0 || words > 9 || coin < 0 || coin > 99) return -1;
            if (claims.size() == 9) return -2;
            Claim c = made(kind);
            c.n = claims.size();
            c.kind = kind;
            c.day = day;
            c.town = town;
            c.words = words;
            c.coin = coin;
            claims.add(c);
            return c.n;
        }

        int claimOf(int claim, int what) {
            if (noClaim(claim)) return -1;
            Claim c = claims.get(claim);
            int[] facts = {c.kind, c.day, c.town, c.words, c.coin};
            if (what >= 0 && what <= 4) return facts[what];
            return what >= 10 && what <= 13 ? c.seats[what - 10] : -1;
        }

        int seat(int claim, int place, int p) {
            if (noClaim(claim) || place < 0 || place > 3 || p != -1 && noPerson(p)) return -1;
            Claim c = claims.get(claim);
            for (int k = 0; k < 4; k++) if (p >= 0 && k != place && sits(c, k, people.get(p).one)) return -4;
            int was = c.seats[place];
            c.seats[place] = p < 0 ? -9 : p;
            return was;
        }

        int set(int law, int v) {
            int[] most = {9, 9, 9, 9, 20, 30, 20};
            if (law < 0 || law > 6 || v < 0 || v > most[law]) return -1;
            int was = laws[law];
            laws[law] = v;
            return was;
        }

        int tie(int a, int b) {
            if (noClaim(a) || noClaim(b) || a == b) return -1;
            Claim lesser = claims.get(Math.min(a, b)), greater = claims.get(Math.max(a, b));
            int v = lesser.words > 0 && lesser.words == greater.words ? laws[3] : 0;
            for (int one : onesOf(lesser)) {
                if (hub(one)) continue;
                for (int k = 0; k < 16; k++) {
                    int i = k / 4, j = k % 4;
                    if (sits(lesser, i, one) && sits(greater, j, one)) v += laws[i == j ? 0 : i < 2 && j < 2 ? 1 : 2];
                }
            }
            return greater.weigh(lesser.weigh(v));
        }

        int tied(int claim) {
            if (noClaim(claim)) return -1;
            int set = 0;
            for (int c = 0; c < claims.size(); c++) if (c != claim && tie(c, claim) > 0) set += 1 << c;
            return set;
        }

        int hang(int claim) {
            if (noClaim(claim)) return -1;
            int set = 1 << claim, before = 0;
            while (set != before) {
                before = set;
                for (int c = 0; c < claims.size(); c++) if ((before >> c & 1) != 0) set |= tied(c);
            }
            return set;
        }

        int steps(int p, int q) {
            if (noPerson(p) || noPerson(q)) return -1;
            int from = people.get(p).one, to = people.get(q).one;
            if (from == to) return 0;
            TreeSet<Integer> ahead = new TreeSet<>(List.of(from));
            for (int steps = 1; steps < 20; steps++) {
                TreeSet<Integer> next = new TreeSet<>(ahead);
                for (Claim c : claims) {
                    TreeSet<Integer> ones = onesOf(c);
                    for (int one : ahead) if (ones.contains(one) && (one == from || !hub(one))) next.addAll(ones);
                }
                if (next.contains(to)) return steps;
                ahead = next;
            }
            return -3;
        }

        int turned(int p) {
            if (noPerson(p)) return -1;
            int one = people.get(p).one, many = 0;
            for (int a = 0; a < claims.size(); a++)
                for (int b = 0; b < a; b++)
                    if (sits(claims.get(a), 0, one) && sits(claims.get(b), 1, one) || sits(claims.get(a), 1, one) && sits(claims.get(b), 0, one)) many++;
            return many;
        }

        int[][] allTies() {
            int[][] ties = new int[claims.size()][claims.size()];
            for (int a = 0; a < claims.size(); a++) for (int b = 0; b < a; b++) ties[a][b] = tie(a, b);
            return ties;
        }

        int plainScore(int set, int[][] ties) {
            int sum = -laws[4] * Integer.bitCount(set);
            for (int a = 0; a < claims.size(); a++)
                for (int b = 0; b < a; b++)
                    if ((set >> a & 1) != 0 && (set >> b & 1) != 0) sum += ties[a][b];
            return sum;
        }

        int all() { return (1 << claims.size()) - 1; }
        int score(int set) { return set < 0 || set > all() ? -1 : plainScore(set, allTies()) + 100000; }

        int lot(int what) {
            if (what < 0 || what > 1) return -1;
            int[][] ties = allTies();
            int best = -3, bestScore = 0;
            for (int set = all(); set > 0; set--) {
                int many = Integer.bitCount(set);
                if (many < 2) continue;
                int score = plainScore(set, ties);
                boolean better = best < 0 || score > bestScore || score == bestScore && many <= Integer.bitCount(best);
                if (better) { best = set; bestScore = score; }
            }
            return best < 0 || what == 0 ? best : bestScore + 100000;
        }

        int seen(int level) {
            if (level < -1000 || level > 1000) return -1;
            int[][] ties = allTies();
            for (int day = 0; day < 100; day++) {
                int early = 0;
                for (Claim c : claims) if (c.day <= day) early |= 1 << c.n;
                for (int set = early; set > 0; set = set - 1 & early)
                    if (Integer.bitCount(set) > 1 && plainScore(set, ties) >= level) return day;
            }
            return -3;
        }

        int without(int sign) {
            if (sign < 0 || sign > 3) return -1;
            int was = laws[sign];
            laws[sign] = 0;
            int lot = lot(0);
            laws[sign] = was;
            return lot;
        }

        int hold() {
            int lot = lot(0);
            if (lot < 0) return -3;
            int set = 0;
            for (int sign = 0; sign < 4; sign++) if (without(sign) == lot) set |= 1 << sign;
            return set;
        }

        long odds(int p, int part) {
            if (noPerson(p) || part < 0 || part > 1) return -1;
            int n = 0, k = 0, town = people.get(p).town;
            for (Claim c : claims) {
                if (c.town != town) continue;
                n++;
                if (onesOf(c).contains(people.get(p).one)) k++;
            }
            BigInteger above = BigInteger.ZERO;
            for (int set = 0; set < 1 << n; set++) {
                int has = Integer.bitCount(set);
                if (has >= k) above = above.add(BigInteger.valueOf(4).pow(has).multiply(BigInteger.valueOf(sizes[town] - 4).pow(n - has)));
            }
            BigInteger below = BigInteger.valueOf(sizes[town]).pow(n);
            return (part == 0 ? above : below).divide(above.gcd(below)).longValueExact();
        }

        int likely(int claim) {
            if (noClaim(claim)) return -1;
            int sum = 0;
            for (int c = 0; c < claims.size(); c++) if (c != claim) sum += tie(c, claim);
            return Math.min(9, sum);
        }

        int best(int what) {
            if (what < 0 || what > 1) return -1;
            int best = 0, bestWorth = 0;
            int[] likely = new int[claims.size()];
            for (int c = 0; c < likely.length; c++) likely[c] = likely(c);
            for (int set = 0; set <= all(); set++) {
                int worth = 0, hours = 0;
                for (Claim c : claims) {
                    if ((set >> c.n & 1) == 0) continue;
                    worth += likely[c.n] * c.coin - laws[6] * (10 - likely[c.n]);
                    hours += 1 + fact("people", c.n);
                }
                if (hours <= laws[5] && worth > bestWorth) { best = set; bestWorth = worth; }
            }
            return what == 0 ? best : bestWorth + 100000;
        }

        int says(int claim) { return noClaim(claim) ? -1 : asks(claim) ? 1 : 0; }

        int found(int claim, int v, boolean chance) {
            if (noClaim(claim) || v < -1 || v > 1) return -1;
            Claim c = claims.get(claim);
            int was = c.found;
            c.found = v < 0 ? -9 : v;
            c.chance = chance;
            return was;
        }

        int rate(int part) {
            if (part < 0 || part > 1) return -1;
            long looked = claims.stream().filter(c -> c.found >= 0 && c.chance).count();
            long of = claims.stream().filter(c -> c.found == 1 && c.chance).count();
            if (looked == 0) return -3;
            int divisor = BigInteger.valueOf(looked).gcd(BigInteger.valueOf(of)).intValueExact();
            return (int) (part == 0 ? of : looked) / divisor;
        }

        int right(int what) {
            if (what < 0 || what > 3) return -1;
            return (int) claims.stream().filter(c -> c.found == (what % 2 == 0 ? 1 : 0) && asks(c.n) == what < 2).count();
        }

        int seed(int v) {
            int was = z;
            z = v;
            return was;
        }

        int draw() {
            List<Integer> open = new ArrayList<>();
            for (Claim c : claims) if (c.found < 0) open.add(c.n);
            if (open.isEmpty()) return -3;
            z = z * 1103515245 + 12345;
            return open.get((z >>> 16) % open.size());
        }

        List<int[]> dueRows(int lot) {
            List<int[]> due = new ArrayList<>();
            for (int a = 0; a < claims.size(); a++)
                for (int b = a + 1; b < claims.size(); b++)
                    if ((lot >> a & 1) != 0 && (lot >> b & 1) != 0 && tie(a, b) > 0) due.add(new int[] {a, b, tie(a, b)});
            return due;
        }

        int prove() {
            int lot = lot(0);
            if (lot < 0) return -3;
            rows = dueRows(lot);
            return rows.size();
        }

        int row(int i, int what) { return i < 0 || i >= rows.size() || what < 0 || what > 2 ? -9 : rows.get(i)[what]; }

        int alterRow(int i, int what, int v) {
            int was = row(i, what);
            if (i >= 0 && i < rows.size() && what >= 0 && what < 3) rows.get(i)[what] = v;
            return was;
        }

        int judge() {
            int lot = lot(0);
            if (lot < 0) return -3;
            List<int[]> due = dueRows(lot);
            for (int i = 0; i < rows.size(); i++) if (i >= due.size() || !Arrays.equals(rows.get(i), due.get(i))) return i + 1;
            return rows.size() < due.size() ? 222 : 0;
        }

        int sortOf(Object row) { return row instanceof byte[] ? 0 : row instanceof short[] ? 1 : row instanceof int[] ? 2 : 3; }
        int lengthOf(Object row) { return java.lang.reflect.Array.getLength(row); }

        int sheet(int sheet, int sort, int n) {
            if (sheet < 0 || sheet > 3 || sort < -1 || sort > 3 || sort >= 0 && n > 40) return -1;
            if (sort >= 0 && n < 0) return -14;
            sheets[sheet] = sort < 0 ? null : sort == 0 ? new byte[n] : sort == 1 ? new short[n] : sort == 2 ? new int[n] : new long[n];
            return 1;
        }

        int put(int sheet, int i, int v) {
            if (sheet < 0 || sheet > 3) return -1;
            Object row = sheets[sheet];
            if (row == null) return -11;
            if (i < 0 || i >= lengthOf(row)) return -12;
            if (row instanceof byte[]) ((byte[]) row)[i] = (byte) v;
            else if (row instanceof short[]) ((short[]) row)[i] = (short) v;
            else if (row instanceof int[]) ((int[]) row)[i] = v;
            else ((long[]) row)[i] = v;
            return 1;
        }

        int item(int sheet, int sort, int i) {
            if (sheet < 0 || sheet > 3 || sort < 0 || sort > 3) return -1;
            Object row = sheets[sheet];
            if (row == null) return -11;
            if (sortOf(row) != sort) return -13;
            if (i < 0 || i >= lengthOf(row)) return -12;
            return (int) java.lang.reflect.Array.getLong(row, i);
        }

        int shelf(int shelf, int what, int n) {
            if (shelf < 0 || shelf > 3 || what < 0 || what > 2) return -1;
            if (what == 0 && noClaim(n) || what == 1 && (n < 0 || n > 3)) return -1;
            shelves[shelf] = what == 0 ? (Object) n : what == 1 ? sheets[n] : null;
            return 1;
        }

        Object heldOn(int shelf) {
            Object held = shelves[shelf];
            if (!(held instanceof Integer)) return held;
            return noClaim((Integer) held) ? null : claims.get((Integer) held);
        }

        int taken(int shelf, int as) {
            if (shelf < 0 || shelf > 3 || as < 0 || as > 13 || as > 5 && as < 10) return -1;
            Object held = heldOn(shelf);
            if (held == null) return -11;
            if (as < 6) return classOf(as).isInstance(held) ? ((Claim) held).n : -13;
            return held instanceof Claim || sortOf(held) != as - 10 ? -13 : lengthOf(held);
        }

        int act(int shelf, int act, int x) {
            trace = new ArrayList<>();
            if (shelf < 0 || shelf > 3 || act < 0 || act > 3 || !(heldOn(shelf) instanceof Claim)) return 0;
            Claim c = (Claim) heldOn(shelf);
            c.trace = trace;
            try {
                return act == 0 ? c.hits(x) : act == 1 ? c.pays(x) : act == 2 ? c.shares(x) : c.tells(x);
            } catch (Parted e) {
                return -15;
            }
        }

        int trace(int i) { return i < 0 || i >= trace.size() ? -3 : trace.get(i); }

        int many(int what) {
            switch (what) {
                case 0: return people.size();
                case 1: return claims.size();
                case 2: return rules.size();
                case 3: return (int) people.stream().map(p -> p.one).distinct().count();
                case 4: return (int) claims.stream().filter(c -> c.found >= 0).count();
                case 5: return rows.size();
                case 6: return tape.length();
                case 7: return trace.size();
                default: return -1;
            }
        }

        void takeFrom(Model from) {
            people = new ArrayList<>();
            for (Person p : from.people) {
                person(p.town, p.hub);
                people.get(people.size() - 1).one = p.one;
            }
            claims = new ArrayList<>();
            for (Claim c : from.claims) {
                claim(c.kind, c.day, c.town, c.words, c.coin);
                Claim copy = claims.get(claims.size() - 1);
                copy.found = c.found;
                copy.chance = c.chance;
                copy.seats = c.seats.clone();
            }
            sizes = from.sizes.clone();
            laws = from.laws.clone();
            z = from.z;
            rules = from.rules;
        }

        int keep() {
            kept = new Model();
            kept.takeFrom(this);
            return 1;
        }

        int again() {
            if (kept == null) return -3;
            takeFrom(kept);
            return claims.size();
        }
    }
}
