/** People, claims and what ties them; each public method does what its promise in ../shared/DOC.md says. */
public final class CrashTies {
    public static final int BAD = -1, FULL = -2, NONE = -3, STATE = -4;

    private static final int NOTHING_THERE = -11, OUTSIDE = -12, OTHER_SORT = -13, BELOW_ZERO = -14, BY_ZERO = -15;
    /** Stands for nobody in a place, nothing found, no such row. */
    private static final int ABSENT = -9;
    /** Added to scores and worths, so that none of them looks like a refusal. */
    private static final int LIFT = 100000;
    private static final int TOWNS = 4, SIZE_LEAST = 10, SIZE_MOST = 99, SIZE_FIRST = 50;
    private static final int PEOPLE_MOST = 10, CLAIMS_MOST = 9, SETS_MOST = 512, PLACES = 4, KINDS = 6;
    private static final int DAY_MOST = 99, WORDS_MOST = 9, COIN_MOST = 99, LEVEL_MOST = 1000;

    private static final int KIND = 0, DAY = 1, TOWN = 2, WORDS = 3, COIN = 4, FACTS = 5, FIRST_PLACE = 10;
    private static final int SAME = 0, TURNED = 1, OTHER = 2, WORDED = 3, SIGNS = 4;
    private static final int COST = 4, HOURS = 5, WAIT = 6, LAWS = 7;
    private static final int[] LAW_FIRST = {2, 4, 1, 3, 3, 5, 2};
    private static final int[] LAW_MOST = {9, 9, 9, 9, 20, 30, 20};
    /** Where no sign is taken for 0. */
    private static final int ALL_SIGNS = -1;
    private static final int LIKELY_MOST = 9, LIKELY_WHOLE = 10, ODDS_ABOVE = 4;

    private static final int CLAIM = 0, BUMP = 1, GLASS = 2, NECK = 3, THEFT = 4, FIRE = 5;
    /** The kind over each kind; claim is under none. */
    private static final int[] OVER = {-1, CLAIM, CLAIM, BUMP, GLASS, CLAIM};

    private static final int TAPE_MOST = 200, CLAUSES_MOST = 8, OPEN_MOST = 3, DIGITS_MOST = 3, CODES_MOST = 210;
    private static final int FEWER_ROWS = 222;

    private final Book book;
    private final Book kept;
    private boolean anyKept;
    private final Ties ties;
    private final Reader reader;
    private final Rows rows;
    private final Rows dueRows;
    private final Host host;
    private final Play play;
    private final int[] ruleFacts;

    public CrashTies() {
        book = new Book();
        kept = new Book();
        anyKept = false;
        ties = new Ties();
        reader = new Reader();
        rows = new Rows();
        dueRows = new Rows();
        host = new Host();
        play = new Play();
        ruleFacts = new int[Rules.FACTS_READ];
    }

    // ---- people, claims

    public int feed(long eight, int n) {
        if (n < 1 || n > 8) return BAD;
        if (reader.length + n > TAPE_MOST) return FULL;
        for (int i = 0; i < n; i++) reader.append((int) (eight >>> (8 * i)) & 255);
        return reader.length;
    }

    public int rules() {
        boolean stands = reader.readText();
        reader.length = 0;
        if (!stands) return -100 - reader.fault;
        book.rules.copyFrom(reader.draft);
        return book.rules.clauses;
    }

    public int size(int town, int n) {
        if (!isTown(town) || n < SIZE_LEAST || n > SIZE_MOST) return BAD;
        int was = book.sizes[town];
        book.sizes[town] = n;
        return was;
    }

    public int person(int town, boolean hub) {
        if (!isTown(town)) return BAD;
        if (book.people >= PEOPLE_MOST) return FULL;
        return book.addPerson(town, hub);
    }

    public int personOf(int p, int what) {
        if (!book.isPerson(p)) return BAD;
        int one = book.ones[p];
        switch (what) {
            case 0: return book.homes[p];
            case 1: return one;
            case 2: return book.isHub(one) ? 1 : 0;
            case 3: return book.claimsWith(one);
            default: return BAD;
        }
    }

    public int join(int p, int q) {
        if (!book.isPerson(p) || !book.isPerson(q)) return BAD;
        return book.joinOnes(book.ones[p], book.ones[q]) ? 1 : 0;
    }

    public int claim(int kind, int day, int town, int words, int coin) {
        if (kind < 0 || kind >= KINDS || day < 0 || day > DAY_MOST || !isTown(town)) return BAD;
        if (words < 0 || words > WORDS_MOST || coin < 0 || coin > COIN_MOST) return BAD;
        if (book.claims >= CLAIMS_MOST) return FULL;
        return book.addClaim(kind, day, town, words, coin);
    }

    public int claimOf(int claim, int what) {
        if (!book.isClaim(claim)) return BAD;
        if (what >= 0 && what < FACTS) return book.fact(claim, what);
        if (what < FIRST_PLACE || what >= FIRST_PLACE + PLACES) return BAD;
        return book.sitter(claim, what - FIRST_PLACE);
    }

    public int seat(int claim, int place, int p) {
        if (!book.isClaim(claim) || place < 0 || place >= PLACES) return BAD;
        if (p != -1 && !book.isPerson(p)) return BAD;
        if (p != -1 && book.isElsewhere(claim, place, book.ones[p])) return STATE;
        int was = book.sitter(claim, place);
        book.seats[claim * PLACES + place] = p == -1 ? ABSENT : p;
        return was;
    }

    public int set(int law, int v) {
        if (law < 0 || law >= LAWS || v < 0 || v > LAW_MOST[law]) return BAD;
        int was = book.laws[law];
        book.laws[law] = v;
        return was;
    }

    // ---- ties

    public int tie(int a, int b) {
        if (!book.isClaim(a) || !book.isClaim(b) || a == b) return BAD;
        return ties.strength(book, a, b, ALL_SIGNS);
    }

    public int tied(int claim) {
        if (!book.isClaim(claim)) return BAD;
        return ties.tiedWith(book, claim);
    }

    public int hang(int claim) {
        if (!book.isClaim(claim)) return BAD;
        return ties.hanging(book, claim);
    }

    public int steps(int p, int q) {
        if (!book.isPerson(p) || !book.isPerson(q)) return BAD;
        return ties.stepsBetween(book, book.ones[p], book.ones[q]);
    }

    public int turned(int p) {
        if (!book.isPerson(p)) return BAD;
        int one = book.ones[p];
        int pairs = 0;
        for (int a = 0; a < book.claims; a++) {
            for (int b = a + 1; b < book.claims; b++) {
                boolean inFrontOfA = book.oneAt(a, 0) == one && book.oneAt(b, 1) == one;
                boolean inFrontOfB = book.oneAt(b, 0) == one && book.oneAt(a, 1) == one;
                if (inFrontOfA || inFrontOfB) pairs++;
            }
        }
        return pairs;
    }

    // ---- lots

    public int score(int set) {
        if ((set & ~book.allClaims()) != 0) return BAD;
        ties.scoreSets(book, ALL_SIGNS);
        return ties.scoreOf(set) + LIFT;
    }

    public int lot(int what) {
        if (what < 0 || what > 1) return BAD;
        int set = ties.findLot(book, ALL_SIGNS);
        if (set < 0) return NONE;
        return what == 0 ? set : ties.scoreOf(set) + LIFT;
    }

    public int seen(int level) {
        if (level < -LEVEL_MOST || level > LEVEL_MOST) return BAD;
        return ties.firstDay(book, level);
    }

    public int without(int sign) {
        if (sign < 0 || sign >= SIGNS) return BAD;
        return ties.findLot(book, sign);
    }

    public int hold() {
        int set = ties.findLot(book, ALL_SIGNS);
        if (set < 0) return NONE;
        int holding = 0;
        for (int sign = 0; sign < SIGNS; sign++) {
            if (ties.findLot(book, sign) == set) holding |= 1 << sign;
        }
        return holding;
    }

    public long odds(int p, int part) {
        if (!book.isPerson(p) || part < 0 || part > 1) return BAD;
        int town = book.homes[p];
        int there = 0;
        int withHim = 0;
        for (int c = 0; c < book.claims; c++) {
            if (book.fact(c, TOWN) != town) continue;
            there++;
            if (book.isIn(c, book.ones[p])) withHim++;
        }
        long size = book.sizes[town];
        long above = Odds.asManyOrMore(there, withHim, size);
        return Odds.part(above, Odds.power(size, there), part);
    }

    public int likely(int claim) {
        if (!book.isClaim(claim)) return BAD;
        return ties.likelihood(book, claim);
    }

    public int best(int what) {
        if (what < 0 || what > 1) return BAD;
        int set = ties.findAsked(book);
        return what == 0 ? set : ties.scoreOf(set) + LIFT;
    }

    // ---- rules, findings

    public int says(int claim) {
        if (!book.isClaim(claim)) return BAD;
        return asks(claim) ? 1 : 0;
    }

    public int found(int claim, int v, boolean chance) {
        if (!book.isClaim(claim) || v < -1 || v > 1) return BAD;
        int was = book.found[claim];
        book.found[claim] = v == -1 ? ABSENT : v;
        book.byChance[claim] = chance;
        return was;
    }

    public int rate(int part) {
        if (part < 0 || part > 1) return BAD;
        int looked = 0;
        int ofLot = 0;
        for (int c = 0; c < book.claims; c++) {
            if (book.found[c] == ABSENT || !book.byChance[c]) continue;
            looked++;
            if (book.found[c] == 1) ofLot++;
        }
        if (looked == 0) return NONE;
        return (int) Odds.part(ofLot, looked, part);
    }

    public int right(int what) {
        if (what < 0 || what > 3) return BAD;
        int many = 0;
        for (int c = 0; c < book.claims; c++) {
            if (book.found[c] == ABSENT) continue;
            int sort = (asks(c) ? 0 : 2) + (book.found[c] == 1 ? 0 : 1);
            if (sort == what) many++;
        }
        return many;
    }

    public int seed(int v) {
        int was = book.z;
        book.z = v;
        return was;
    }

    public int draw() {
        int open = book.claims - book.countFound();
        if (open <= 0) return NONE;
        book.z = book.z * 1103515245 + 12345;
        int left = (book.z >>> 16) % open;
        for (int c = 0; c < book.claims; c++) {
            if (book.found[c] != ABSENT) continue;
            if (left == 0) return c;
            left--;
        }
        return NONE;
    }

    // ---- rows

    public int prove() {
        int set = ties.findLot(book, ALL_SIGNS);
        if (set < 0) return NONE;
        rows.write(book, ties, set);
        return rows.count;
    }

    public int row(int i, int what) {
        if (!rows.holds(i, what)) return ABSENT;
        return rows.entry(i, what);
    }

    public int alterRow(int i, int what, int v) {
        if (!rows.holds(i, what)) return ABSENT;
        int was = rows.entry(i, what);
        rows.entries[i * Rows.WIDTH + what] = v;
        return was;
    }

    public int judge() {
        int set = ties.findLot(book, ALL_SIGNS);
        if (set < 0) return NONE;
        dueRows.write(book, ties, set);
        for (int i = 0; i < rows.count; i++) {
            if (!dueRows.hasSame(rows, i)) return i + 1;
        }
        return rows.count < dueRows.count ? FEWER_ROWS : 0;
    }

    // ---- the host

    public int sheet(int sheet, int sort, int n) {
        if (!Host.isSheet(sheet) || sort < -1 || sort >= Host.SORTS) return BAD;
        if (sort == -1) {
            host.drop(sheet);
            return 1;
        }
        if (n > Host.ITEMS_MOST) return BAD;
        if (n < 0) return BELOW_ZERO;
        host.lay(sheet, sort, n);
        return 1;
    }

    public int put(int sheet, int i, int v) {
        if (!Host.isSheet(sheet)) return BAD;
        if (host.isMissing(sheet)) return NOTHING_THERE;
        if (!host.isInside(sheet, i)) return OUTSIDE;
        host.write(sheet, i, v);
        return 1;
    }

    public int item(int sheet, int sort, int i) {
        if (!Host.isSheet(sheet) || sort < 0 || sort >= Host.SORTS) return BAD;
        if (host.isMissing(sheet)) return NOTHING_THERE;
        if (host.sorts[sheet] != sort) return OTHER_SORT;
        if (!host.isInside(sheet, i)) return OUTSIDE;
        return host.read(sheet, i);
    }

    public int shelf(int shelf, int what, int n) {
        if (!Host.isShelf(shelf) || what < 0 || what > 2) return BAD;
        if (what == 0 && !book.isClaim(n)) return BAD;
        if (what == 1 && !Host.isSheet(n)) return BAD;
        if (what == 0) host.holdClaim(shelf, n);
        else if (what == 1) host.holdRow(shelf, n);
        else host.holdNothing(shelf);
        return 1;
    }

    public int taken(int shelf, int as) {
        boolean asClaim = as >= 0 && as < KINDS;
        boolean asRow = as >= Host.ROW && as < Host.ROW + Host.SORTS;
        if (!Host.isShelf(shelf) || !asClaim && !asRow) return BAD;
        int held = host.heldOn(shelf, book.claims);
        if (held == Host.NOTHING) return NOTHING_THERE;
        int number = host.numbers[shelf];
        boolean fits = held == Host.CLAIM_HELD ? asClaim && isUnder(book.fact(number, KIND), as) : held == as;
        return fits ? number : OTHER_SORT;
    }

    public int act(int shelf, int act, int x) {
        play.count = 0;
        if (!Host.isShelf(shelf) || act < 0 || act >= Play.ACTS) return 0;
        if (host.heldOn(shelf, book.claims) != Host.CLAIM_HELD) return 0;
        int claim = host.numbers[shelf];
        return play.perform(book.fact(claim, KIND), claim, book.fact(claim, COIN), act, x);
    }

    public int trace(int i) {
        if (i < 0 || i >= play.count) return NONE;
        return play.bodies[i];
    }

    public int many(int what) {
        switch (what) {
            case 0: return book.people;
            case 1: return book.claims;
            case 2: return book.rules.clauses;
            case 3: return book.countOnes();
            case 4: return book.countFound();
            case 5: return rows.count;
            case 6: return reader.length;
            case 7: return play.count;
            default: return BAD;
        }
    }

    // ---- kept

    public int keep() {
        kept.copyFrom(book);
        anyKept = true;
        return 1;
    }

    public int again() {
        if (!anyKept) return NONE;
        book.copyFrom(kept);
        return book.claims;
    }

    private static boolean isTown(int town) {
        return town >= 0 && town < TOWNS;
    }

    private static boolean isUnder(int kind, int as) {
        int up = kind;
        for (int i = 0; i < KINDS && up >= 0 && up < KINDS; i++) {
            if (up == as) return true;
            up = OVER[up];
        }
        return false;
    }

    private boolean asks(int claim) {
        ruleFacts[Rules.COIN_READ] = book.fact(claim, COIN);
        ruleFacts[Rules.DAY_READ] = book.fact(claim, DAY);
        ruleFacts[Rules.PEOPLE_READ] = book.seated(claim);
        ruleFacts[Rules.TIES_READ] = Integer.bitCount(ties.tiedWith(book, claim));
        ruleFacts[Rules.WORDS_READ] = book.fact(claim, WORDS);
        ruleFacts[Rules.KIND_READ] = book.fact(claim, KIND);
        return book.rules.ask(ruleFacts);
    }

    /** All that keep() keeps. */
    private static final class Book {
        final int[] sizes = new int[TOWNS];
        final int[] laws = new int[LAWS];
        int people;
        final int[] homes = new int[PEOPLE_MOST];
        final boolean[] hubs = new boolean[PEOPLE_MOST];
        final int[] ones = new int[PEOPLE_MOST];
        int claims;
        final int[] facts = new int[CLAIMS_MOST * FACTS];
        final int[] seats = new int[CLAIMS_MOST * PLACES];
        final int[] found = new int[CLAIMS_MOST];
        final boolean[] byChance = new boolean[CLAIMS_MOST];
        final Rules rules = new Rules();
        int z = 1;

        Book() {
            for (int i = 0; i < TOWNS; i++) sizes[i] = SIZE_FIRST;
            for (int i = 0; i < LAWS; i++) laws[i] = LAW_FIRST[i];
        }

        void copyFrom(Book other) {
            System.arraycopy(other.sizes, 0, sizes, 0, TOWNS);
            System.arraycopy(other.laws, 0, laws, 0, LAWS);
            people = other.people;
            System.arraycopy(other.homes, 0, homes, 0, PEOPLE_MOST);
            System.arraycopy(other.ones, 0, ones, 0, PEOPLE_MOST);
            claims = other.claims;
            System.arraycopy(other.facts, 0, facts, 0, CLAIMS_MOST * FACTS);
            System.arraycopy(other.seats, 0, seats, 0, CLAIMS_MOST * PLACES);
            System.arraycopy(other.found, 0, found, 0, CLAIMS_MOST);
            // LANGUAGE.md's rule 4 can be read as if only arrays of numbers were copied at once
            for (int p = 0; p < PEOPLE_MOST; p++) hubs[p] = other.hubs[p];
            for (int c = 0; c < CLAIMS_MOST; c++) byChance[c] = other.byChance[c];
            rules.copyFrom(other.rules);
            z = other.z;
        }

        boolean isPerson(int p) {
            return p >= 0 && p < people;
        }

        boolean isClaim(int claim) {
            return claim >= 0 && claim < claims;
        }

        int allClaims() {
            return (1 << claims) - 1;
        }

        /** The caller has seen that there is room. */
        int addPerson(int town, boolean hub) {
            if (people >= PEOPLE_MOST) return FULL;
            homes[people] = town;
            hubs[people] = hub;
            ones[people] = people;
            return people++;
        }

        /** The caller has seen that there is room. */
        int addClaim(int kind, int day, int town, int words, int coin) {
            if (claims >= CLAIMS_MOST) return FULL;
            int first = claims * FACTS;
            facts[first + KIND] = kind;
            facts[first + DAY] = day;
            facts[first + TOWN] = town;
            facts[first + WORDS] = words;
            facts[first + COIN] = coin;
            for (int place = 0; place < PLACES; place++) seats[claims * PLACES + place] = ABSENT;
            found[claims] = ABSENT;
            byChance[claims] = false;
            return claims++;
        }

        int fact(int claim, int what) {
            if (!isClaim(claim) || what < 0 || what >= FACTS) return 0;
            return facts[claim * FACTS + what];
        }

        int law(int law) {
            return law >= 0 && law < LAWS ? laws[law] : 0;
        }

        int sitter(int claim, int place) {
            if (claim < 0 || claim >= claims || place < 0 || place >= PLACES) return ABSENT;
            return seats[claim * PLACES + place];
        }

        int oneAt(int claim, int place) {
            int p = sitter(claim, place);
            return isPerson(p) ? ones[p] : ABSENT;
        }

        boolean isIn(int claim, int one) {
            return isElsewhere(claim, -1, one);
        }

        /** Whether one is in a place of the claim that is not this place. */
        boolean isElsewhere(int claim, int place, int one) {
            for (int other = 0; other < PLACES; other++) {
                if (other != place && oneAt(claim, other) == one) return true;
            }
            return false;
        }

        int seated(int claim) {
            int many = 0;
            for (int place = 0; place < PLACES; place++) {
                if (sitter(claim, place) != ABSENT) many++;
            }
            return many;
        }

        boolean isHub(int one) {
            for (int p = 0; p < people; p++) {
                if (ones[p] == one && hubs[p]) return true;
            }
            return false;
        }

        int claimsWith(int one) {
            int many = 0;
            for (int c = 0; c < claims; c++) {
                if (isIn(c, one)) many++;
            }
            return many;
        }

        boolean joinOnes(int one, int other) {
            if (one == other) return false;
            int least = Math.min(one, other);
            int gone = Math.max(one, other);
            for (int p = 0; p < people; p++) {
                if (ones[p] == gone) ones[p] = least;
            }
            return true;
        }

        int countOnes() {
            int many = 0;
            for (int p = 0; p < people; p++) {
                if (ones[p] == p) many++;
            }
            return many;
        }

        int countFound() {
            int many = 0;
            for (int c = 0; c < claims; c++) {
                if (found[c] != ABSENT) many++;
            }
            return many;
        }
    }

    /** Strengths of pairs of claims and what follows from them; its rows are written anew by each question. */
    private static final class Ties {
        private final int[] strengths = new int[CLAIMS_MOST * CLAIMS_MOST];
        private final int[] scores = new int[SETS_MOST];
        private final int[] hours = new int[SETS_MOST];
        private final int[] reached = new int[PEOPLE_MOST];

        /** The strength of two claims, a sign taken for 0 if it is not ALL_SIGNS. */
        int strength(Book book, int a, int b, int off) {
            int lesser = Math.min(a, b);
            int greater = Math.max(a, b);
            int v = 0;
            for (int i = 0; i < PLACES; i++) {
                for (int j = 0; j < PLACES; j++) v += placeSign(book, lesser, i, greater, j, off);
            }
            int words = book.fact(lesser, WORDS);
            if (words != 0 && words == book.fact(greater, WORDS)) v += sign(book, WORDED, off);
            v = weigh(book.fact(lesser, KIND), v, book.fact(lesser, COIN));
            return weigh(book.fact(greater, KIND), v, book.fact(greater, COIN));
        }

        private static int placeSign(Book book, int a, int i, int b, int j, int off) {
            int one = book.oneAt(a, i);
            if (one == ABSENT || one != book.oneAt(b, j) || book.isHub(one)) return 0;
            if (i == j) return sign(book, SAME, off);
            return sign(book, i + j == 1 ? TURNED : OTHER, off);
        }

        private static int sign(Book book, int sign, int off) {
            return sign == off ? 0 : book.law(sign);
        }

        private static int weigh(int kind, int v, int coin) {
            int bumped = v > 0 ? v + 1 : 0;
            switch (kind) {
                case BUMP: return bumped;
                case NECK: return 2 * bumped;
                case GLASS: return v / 2;
                case THEFT: return Math.max(0, v / 2 - 1);
                case FIRE: return v + coin / 10;
                default: return v;
            }
        }

        private void weave(Book book, int off) {
            for (int a = 0; a < book.claims; a++) {
                strengths[a * CLAIMS_MOST + a] = 0;
                for (int b = a + 1; b < book.claims; b++) {
                    int v = strength(book, a, b, off);
                    strengths[a * CLAIMS_MOST + b] = v;
                    strengths[b * CLAIMS_MOST + a] = v;
                }
            }
        }

        /** As the latest question wove it. */
        int woven(int a, int b) {
            boolean known = a >= 0 && a < CLAIMS_MOST && b >= 0 && b < CLAIMS_MOST;
            return known ? strengths[a * CLAIMS_MOST + b] : 0;
        }

        int tiedWith(Book book, int claim) {
            int set = 0;
            for (int c = 0; c < book.claims; c++) {
                if (c != claim && strength(book, claim, c, ALL_SIGNS) > 0) set |= 1 << c;
            }
            return set;
        }

        int hanging(Book book, int claim) {
            weave(book, ALL_SIGNS);
            int set = 1 << claim;
            // each round but the last one adds a claim, so there are no more rounds than claims
            for (int round = 0; round < book.claims; round++) set |= tiedToAny(book, set);
            return set;
        }

        private int tiedToAny(Book book, int set) {
            int more = 0;
            for (int a = 0; a < book.claims; a++) {
                if ((set >> a & 1) == 0) continue;
                for (int b = 0; b < book.claims; b++) {
                    if (woven(a, b) > 0) more |= 1 << b;
                }
            }
            return more;
        }

        int stepsBetween(Book book, int from, int to) {
            if (from == to) return 0;
            for (int one = 0; one < PEOPLE_MOST; one++) reached[one] = one == from ? 0 : ABSENT;
            for (int step = 1; step <= PEOPLE_MOST; step++) {
                for (int one = 0; one < book.people; one++) {
                    boolean passes = one == from || !book.isHub(one);
                    if (reached[one] == step - 1 && passes) reachFrom(book, one, step);
                }
                if (to >= 0 && to < PEOPLE_MOST && reached[to] == step) return step;
            }
            return NONE;
        }

        private void reachFrom(Book book, int one, int step) {
            for (int c = 0; c < book.claims; c++) {
                if (!book.isIn(c, one)) continue;
                for (int place = 0; place < PLACES; place++) {
                    int next = book.oneAt(c, place);
                    if (next >= 0 && next < PEOPLE_MOST && reached[next] == ABSENT) reached[next] = step;
                }
            }
        }

        /** Writes the scores of all sets: each from the set without its greatest claim. */
        void scoreSets(Book book, int off) {
            weave(book, off);
            int cost = book.law(COST);
            scores[0] = 0;
            for (int c = 0; c < book.claims; c++) {
                for (int rest = 0; rest < 1 << c; rest++) {
                    scores[rest | 1 << c] = scores[rest] + bonds(c, rest) - cost;
                }
            }
        }

        private int bonds(int claim, int set) {
            int sum = 0;
            for (int other = 0; other < claim; other++) {
                if ((set >> other & 1) != 0) sum += woven(other, claim);
            }
            return sum;
        }

        /** The score, or after findAsked the worth, of a set as the latest question wrote it. */
        int scoreOf(int set) {
            return set >= 0 && set < SETS_MOST ? scores[set] : 0;
        }

        int findLot(Book book, int off) {
            if (book.claims < 2) return NONE;
            scoreSets(book, off);
            int lot = 3;
            for (int set = 4; set <= book.allClaims(); set++) {
                if (Integer.bitCount(set) >= 2 && isBetterLot(set, lot)) lot = set;
            }
            return lot;
        }

        /** The set comes after the lot, so it has to be better, not as good. */
        private boolean isBetterLot(int set, int lot) {
            if (scoreOf(set) != scoreOf(lot)) return scoreOf(set) > scoreOf(lot);
            return Integer.bitCount(set) < Integer.bitCount(lot);
        }

        int firstDay(Book book, int level) {
            scoreSets(book, ALL_SIGNS);
            int first = NONE;
            for (int set = 3; set <= book.allClaims(); set++) {
                if (Integer.bitCount(set) < 2 || scoreOf(set) < level) continue;
                int day = lastDay(book, set);
                if (first == NONE || day < first) first = day;
            }
            return first;
        }

        private static int lastDay(Book book, int set) {
            int day = 0;
            for (int c = 0; c < book.claims; c++) {
                if ((set >> c & 1) != 0) day = Math.max(day, book.fact(c, DAY));
            }
            return day;
        }

        int likelihood(Book book, int claim) {
            int sum = 0;
            for (int c = 0; c < book.claims; c++) {
                if (c != claim) sum += strength(book, claim, c, ALL_SIGNS);
            }
            return Math.min(sum, LIKELY_MOST);
        }

        /** The set to ask about; the scores are the worths of sets then. */
        int findAsked(Book book) {
            scores[0] = 0;
            hours[0] = 0;
            for (int c = 0; c < book.claims; c++) {
                int likely = likelihood(book, c);
                int worth = likely * book.fact(c, COIN) - book.law(WAIT) * (LIKELY_WHOLE - likely);
                int takes = 1 + book.seated(c);
                for (int rest = 0; rest < 1 << c; rest++) {
                    scores[rest | 1 << c] = scores[rest] + worth;
                    hours[rest | 1 << c] = hours[rest] + takes;
                }
            }
            int best = 0;
            for (int set = 1; set <= book.allClaims(); set++) {
                if (hours[set] <= book.law(HOURS) && scoreOf(set) > scoreOf(best)) best = set;
            }
            return best;
        }
    }

    private static final class Odds {
        private static final int STEPS_MOST = 200;

        /** How many of size ^ n ways have k or more of n, each having odds ODDS_ABOVE by size. */
        static long asManyOrMore(int n, int k, long size) {
            long sum = 0;
            long choices = 1;
            for (int j = 0; j <= n; j++) {
                if (j >= k) sum += choices * power(ODDS_ABOVE, j) * power(size - ODDS_ABOVE, n - j);
                choices = choices * (n - j) / (j + 1);
            }
            return sum;
        }

        static long power(long base, int n) {
            long product = 1;
            for (int i = 0; i < n; i++) product *= base;
            return product;
        }

        /** Part 0 is what stands above the line without a common divisor, part 1 below. */
        static long part(long above, long below, int part) {
            long divisor = commonDivisor(above, below);
            if (divisor == 0) return 0;
            return (part == 0 ? above : below) / divisor;
        }

        private static long commonDivisor(long a, long b) {
            long greater = a;
            long lesser = b;
            for (int i = 0; i < STEPS_MOST && lesser != 0; i++) {
                long rest = greater % lesser;
                greater = lesser;
                lesser = rest;
            }
            return greater;
        }
    }

    /** Clauses as codes in the order in which a stack takes them: numbers, facts, then what is done with them. */
    private static final class Rules {
        static final int COIN_READ = 0, DAY_READ = 1, PEOPLE_READ = 2, TIES_READ = 3, WORDS_READ = 4, KIND_READ = 5;
        static final int FACTS_READ = 6;
        /** Codes below this one are numbers; from it on they are facts, then the ones that follow. */
        static final int FIRST_FACT = 1000;
        static final int LESS = 2000, ALIKE = 2001, MORE = 2002, NOT = 2003, AND = 2004, OR = 2005;
        static final int PAY = 2010, ASK = 2011, PAY_IF = 2012, ASK_IF = 2013;

        final int[] codes = new int[CODES_MOST];
        private final int[] stack = new int[CODES_MOST];
        int count;
        int clauses;
        private int height;
        private boolean asking;

        void copyFrom(Rules other) {
            count = other.count;
            clauses = other.clauses;
            for (int i = 0; i < count && i < CODES_MOST; i++) codes[i] = other.codes[i];
        }

        void emit(int code) {
            if (count < CODES_MOST) codes[count++] = code;
        }

        boolean ask(int[] facts) {
            height = 0;
            asking = false;
            for (int i = 0; i < count && i < CODES_MOST; i++) obey(codes[i], facts);
            return asking;
        }

        private void obey(int code, int[] facts) {
            if (code < FIRST_FACT) push(code);
            else if (code < LESS) push(code - FIRST_FACT < FACTS_READ ? facts[code - FIRST_FACT] : 0);
            else if (code < NOT) compare(code);
            else if (code == NOT) push(1 - pop());
            else if (code == AND) push(pop() & pop());
            else if (code == OR) push(pop() | pop());
            else if (code == PAY || code == ASK) asking = code == ASK;
            else if (pop() == 1) asking = code == ASK_IF;
        }

        private void compare(int code) {
            int second = pop();
            int first = pop();
            boolean holds = code == LESS ? first < second : code == ALIKE ? first == second : first > second;
            push(holds ? 1 : 0);
        }

        private void push(int v) {
            if (height < CODES_MOST) stack[height++] = v;
        }

        private int pop() {
            return height > 0 ? stack[--height] : 0;
        }
    }

    /** The tape, and what reads it into rules. */
    private static final class Reader {
        /** Sorts of bytes: those of names and of numbers go on as long as they can, others stand alone. */
        private static final int LETTER = 1, DIGIT = 2, OTHER_BYTE = 3;
        /** Tokens that are no codes of rules. */
        private static final int IF = 3000, OPEN = 3001, CLOSE = 3002, STOP = 3003, END = 3004, UNKNOWN = 3005;

        private final int[] tape = new int[TAPE_MOST];
        int length;
        private final int[] tokens = new int[TAPE_MOST + 1];
        /** The place on the tape of each token's first byte. */
        private final int[] starts = new int[TAPE_MOST + 1];
        private int count;
        private int at;
        final Rules draft = new Rules();
        int fault;

        void append(int oneByte) {
            if (length < TAPE_MOST) tape[length++] = oneByte;
        }

        /** Whether the tape is a text; draft are its rules then, else fault is told. */
        boolean readText() {
            cut();
            draft.count = 0;
            draft.clauses = 0;
            at = 0;
            fault = 0;
            for (int i = 0; i < CLAUSES_MOST && here() != END; i++) {
                if (!readClause()) return false;
            }
            return here() == END || refuse();
        }

        private boolean readClause() {
            int verb = here();
            if (verb != Rules.ASK && verb != Rules.PAY) return refuse();
            at++;
            boolean bound = here() == IF;
            if (bound) {
                at++;
                if (!readCond(0)) return false;
            }
            if (here() != STOP) return refuse();
            at++;
            if (bound) draft.emit(verb == Rules.ASK ? Rules.ASK_IF : Rules.PAY_IF);
            else draft.emit(verb);
            draft.clauses++;
            return true;
        }

        private boolean readCond(int open) {
            if (!readAll(open)) return false;
            for (int i = 0; i < TAPE_MOST && here() == Rules.OR; i++) {
                at++;
                if (!readAll(open)) return false;
                draft.emit(Rules.OR);
            }
            return true;
        }

        private boolean readAll(int open) {
            if (!readOne(open)) return false;
            for (int i = 0; i < TAPE_MOST && here() == Rules.AND; i++) {
                at++;
                if (!readOne(open)) return false;
                draft.emit(Rules.AND);
            }
            return true;
        }

        private boolean readOne(int open) {
            boolean turnedRound = false;
            for (int i = 0; i < TAPE_MOST && here() == Rules.NOT; i++) {
                turnedRound = !turnedRound;
                at++;
            }
            boolean stands = here() == OPEN ? readBracket(open) : readComparison();
            if (stands && turnedRound) draft.emit(Rules.NOT);
            return stands;
        }

        private boolean readBracket(int open) {
            if (open >= OPEN_MOST) return refuse();
            at++;
            if (!readCond(open + 1)) return false;
            if (here() != CLOSE) return refuse();
            at++;
            return true;
        }

        private boolean readComparison() {
            int first = here();
            if (!isValue(first)) return refuse();
            at++;
            int sign = here();
            if (sign != Rules.LESS && sign != Rules.ALIKE && sign != Rules.MORE) return refuse();
            at++;
            int second = here();
            if (!isValue(second)) return refuse();
            at++;
            draft.emit(first);
            draft.emit(second);
            draft.emit(sign);
            return true;
        }

        private static boolean isValue(int token) {
            return token >= 0 && token < Rules.LESS;
        }

        private int here() {
            return at >= 0 && at < count ? tokens[at] : END;
        }

        private boolean refuse() {
            fault = at >= 0 && at < count ? starts[at] : length;
            return false;
        }

        /** Cuts the tape into tokens, the last of which is END. */
        private void cut() {
            count = 0;
            int start = 0;
            while (start < length) {
                int sort = sortAt(start);
                int end = start + 1;
                while (end < length && sort != OTHER_BYTE && sortAt(end) == sort) end++;
                if (byteAt(start) != ' ') addToken(tokenOf(sort, start, end), start);
                start = end;
            }
            addToken(END, length);
        }

        private void addToken(int token, int start) {
            if (count > TAPE_MOST) return;
            tokens[count] = token;
            starts[count] = start;
            count++;
        }

        private int tokenOf(int sort, int start, int end) {
            if (sort == LETTER) return nameToken(start, end);
            if (sort == DIGIT) return numberToken(start, end);
            switch (byteAt(start)) {
                case '(': return OPEN;
                case ')': return CLOSE;
                case ';': return STOP;
                case '<': return Rules.LESS;
                case '=': return Rules.ALIKE;
                case '>': return Rules.MORE;
                default: return UNKNOWN;
            }
        }

        private int nameToken(int start, int end) {
            if (isName(start, end, "ask")) return Rules.ASK;
            if (isName(start, end, "pay")) return Rules.PAY;
            if (isName(start, end, "if")) return IF;
            if (isName(start, end, "or")) return Rules.OR;
            if (isName(start, end, "and")) return Rules.AND;
            if (isName(start, end, "not")) return Rules.NOT;
            if (isName(start, end, "coin")) return Rules.FIRST_FACT + Rules.COIN_READ;
            if (isName(start, end, "day")) return Rules.FIRST_FACT + Rules.DAY_READ;
            if (isName(start, end, "people")) return Rules.FIRST_FACT + Rules.PEOPLE_READ;
            if (isName(start, end, "ties")) return Rules.FIRST_FACT + Rules.TIES_READ;
            if (isName(start, end, "words")) return Rules.FIRST_FACT + Rules.WORDS_READ;
            if (isName(start, end, "kind")) return Rules.FIRST_FACT + Rules.KIND_READ;
            return UNKNOWN;
        }

        private boolean isName(int start, int end, String name) {
            if (end - start != name.length()) return false;
            for (int i = 0; i < name.length(); i++) {
                if (byteAt(start + i) != name.charAt(i)) return false;
            }
            return true;
        }

        private int numberToken(int start, int end) {
            if (end - start > DIGITS_MOST) return UNKNOWN;
            int number = 0;
            for (int i = start; i < end; i++) number = number * 10 + byteAt(i) - '0';
            return number;
        }

        private int sortAt(int i) {
            int b = byteAt(i);
            if (b >= 'a' && b <= 'z') return LETTER;
            return b >= '0' && b <= '9' ? DIGIT : OTHER_BYTE;
        }

        private int byteAt(int i) {
            return i >= 0 && i < length && i < TAPE_MOST ? tape[i] : -1;
        }
    }

    private static final class Rows {
        static final int WIDTH = 3;
        private static final int ROWS_MOST = 36;

        final int[] entries = new int[ROWS_MOST * WIDTH];
        int count;

        /** Writes the rows of the set that ties have just found. */
        void write(Book book, Ties ties, int set) {
            count = 0;
            for (int a = 0; a < book.claims; a++) {
                for (int b = a + 1; b < book.claims; b++) {
                    boolean both = (set >> a & 1) != 0 && (set >> b & 1) != 0;
                    int strength = ties.woven(a, b);
                    if (both && strength > 0) append(a, b, strength);
                }
            }
        }

        private void append(int a, int b, int strength) {
            if (count >= ROWS_MOST) return;
            entries[count * WIDTH] = a;
            entries[count * WIDTH + 1] = b;
            entries[count * WIDTH + 2] = strength;
            count++;
        }

        boolean holds(int i, int what) {
            return i >= 0 && i < count && what >= 0 && what < WIDTH;
        }

        int entry(int i, int what) {
            return holds(i, what) ? entries[i * WIDTH + what] : ABSENT;
        }

        boolean hasSame(Rows other, int i) {
            if (i < 0 || i >= count || i >= other.count) return false;
            for (int what = 0; what < WIDTH; what++) {
                if (entry(i, what) != other.entry(i, what)) return false;
            }
            return true;
        }
    }

    /** Sheets and shelves. */
    private static final class Host {
        static final int SHEETS = 4, SHELVES = 4, SORTS = 4, ITEMS_MOST = 40;
        /** What a shelf holds: nothing, a claim, or from ROW on a row of the sort that is so many above. */
        static final int NOTHING = -1, CLAIM_HELD = 0, ROW = 10;
        private static final int MISSING = -1, BYTES = 0, SHORTS = 1;

        final int[] sorts = new int[SHEETS];
        private final int[] lengths = new int[SHEETS];
        private final long[] items = new long[SHEETS * ITEMS_MOST];
        private final int[] held = new int[SHELVES];
        /** The claim's number, or how many items the row has that is held. */
        final int[] numbers = new int[SHELVES];

        Host() {
            for (int i = 0; i < SHEETS; i++) sorts[i] = MISSING;
            for (int i = 0; i < SHELVES; i++) held[i] = NOTHING;
        }

        static boolean isSheet(int sheet) {
            return sheet >= 0 && sheet < SHEETS;
        }

        static boolean isShelf(int shelf) {
            return shelf >= 0 && shelf < SHELVES;
        }

        boolean isMissing(int sheet) {
            return !isSheet(sheet) || sorts[sheet] == MISSING;
        }

        boolean isInside(int sheet, int i) {
            return !isMissing(sheet) && i >= 0 && i < lengths[sheet] && i < ITEMS_MOST;
        }

        void drop(int sheet) {
            if (isSheet(sheet)) sorts[sheet] = MISSING;
        }

        void lay(int sheet, int sort, int n) {
            if (!isSheet(sheet)) return;
            sorts[sheet] = sort;
            lengths[sheet] = n;
            for (int i = 0; i < ITEMS_MOST; i++) items[sheet * ITEMS_MOST + i] = 0;
        }

        void write(int sheet, int i, int v) {
            if (!isInside(sheet, i)) return;
            int narrow = sorts[sheet] == BYTES ? (byte) v : sorts[sheet] == SHORTS ? (short) v : v;
            items[sheet * ITEMS_MOST + i] = narrow;
        }

        int read(int sheet, int i) {
            return isInside(sheet, i) ? (int) items[sheet * ITEMS_MOST + i] : 0;
        }

        void holdNothing(int shelf) {
            if (isShelf(shelf)) held[shelf] = NOTHING;
        }

        void holdClaim(int shelf, int claim) {
            if (!isShelf(shelf)) return;
            held[shelf] = CLAIM_HELD;
            numbers[shelf] = claim;
        }

        /** The row itself is held: its sort and length stay when the sheet becomes another row. */
        void holdRow(int shelf, int sheet) {
            if (!isShelf(shelf) || !isSheet(sheet)) return;
            held[shelf] = isMissing(sheet) ? NOTHING : ROW + sorts[sheet];
            numbers[shelf] = lengths[sheet];
        }

        int heldOn(int shelf, int claims) {
            if (!isShelf(shelf)) return NOTHING;
            boolean gone = held[shelf] == CLAIM_HELD && numbers[shelf] >= claims;
            return gone ? NOTHING : held[shelf];
        }
    }

    /** One act of a thing, with the trace of its bodies. */
    private static final class Play {
        static final int ACTS = 4;
        private static final int HITS = 0, PAYS = 1, SHARES = 2, TELLS = 3;
        private static final int TRACE_MOST = 30, DEPTH_MOST = 40;
        /** The bodies of hits, pays, shares, tells that a thing of each kind has. */
        private static final int[] BODIES = {
            10, 11, 12, 13,
            10, 20, 12, 13,
            30, 11, 12, 31,
            40, 41, 12, 13,
            51, 11, 50, 31,
            10, 11, 61, 60,
        };

        final int[] bodies = new int[TRACE_MOST];
        int count;
        private int kind;
        private int n;
        private int a;
        private boolean parted;

        int perform(int ofKind, int number, int coin, int act, int x) {
            kind = ofKind;
            n = number;
            a = coin;
            count = 0;
            parted = false;
            int answer = run(bodyOf(act), x, 0);
            return parted ? BY_ZERO : answer;
        }

        private int bodyOf(int act) {
            int i = kind * ACTS + act;
            return act >= 0 && act < ACTS && i >= 0 && i < BODIES.length ? BODIES[i] : 0;
        }

        /** After a parting by 0 nothing more begins; the answers on the way up count nothing then. */
        private int run(int body, int x, int depth) {
            if (parted || depth > DEPTH_MOST) return 0;
            if (count < TRACE_MOST) bodies[count++] = body;
            int below = depth + 1;
            switch (body) {
                case 10: return x + n;
                case 11: return run(bodyOf(HITS), x, below) * 2;
                case 12: return share(x);
                case 13: return run(bodyOf(PAYS), x, below) ^ a;
                case 20: return run(11, x, below) - a;
                case 30: return run(10, x, below) * 3;
                case 31: return run(13, x, below) + run(bodyOf(SHARES), n, below);
                case 40: return 0 - run(10, x, below);
                case 41: return run(20, x, below) + run(bodyOf(HITS), n, below);
                case 50: return run(12, x + 2, below) ^ 1;
                case 51: return run(30, x, below) - n;
                case 60: return run(13, x, below) * 2;
                case 61: return run(12, x, below) + run(bodyOf(HITS), a, below);
                default: return 0;
            }
        }

        private int share(int x) {
            int parts = a - n;
            if (parts == 0) {
                parted = true;
                return 0;
            }
            return x / parts;
        }
    }
}
