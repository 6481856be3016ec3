/** States in which tests begin, and what several of them do. */
final class Scenes {
    private Scenes() {
    }

    /** n bytes of a text, eight in each call. */
    static void feed(CrashTies x, String text) {
        for (int i = 0; i < text.length(); i += 8) {
            int n = Math.min(8, text.length() - i);
            long eight = 0;
            for (int k = 0; k < n; k++) eight |= (text.charAt(i + k) & 255L) << (8 * k);
            x.feed(eight, n);
        }
    }

    static int rules(CrashTies x, String text) {
        feed(x, text);
        return x.rules();
    }

    /** People of town 0, none of them a hub. */
    static void people(CrashTies x, int n) {
        for (int i = 0; i < n; i++) x.person(0, false);
    }

    /** Claims of kind 0, day 0, town 0, no words, no coin. */
    static void claims(CrashTies x, int n) {
        for (int i = 0; i < n; i++) x.claim(0, 0, 0, 0, 0);
    }

    static CrashTies with(int people, int claims) {
        CrashTies x = new CrashTies();
        people(x, people);
        claims(x, claims);
        return x;
    }

    /** Something of everything: what is kept is not what is there now. */
    static void busy(CrashTies x) {
        busyBook(x);
        x.keep();
        x.claim(4, 3, 0, 2, 41);
        x.person(3, false);
        x.seat(4, 3, 5);
        x.size(2, 30);
        x.set(6, 7);
        x.found(2, 0, true);
        x.seed(5);
        busyHost(x);
        x.prove();
        x.alterRow(0, 2, 50);
        x.act(0, 3, 9);
        feed(x, "pay if coin<42;");
    }

    private static void busyBook(CrashTies x) {
        for (int p = 0; p < 5; p++) x.person(p % 4, p == 4);
        x.join(1, 3);
        int[] kinds = {0, 1, 5, 3};
        for (int c = 0; c < 4; c++) x.claim(kinds[c], 10 + c, c, 1 + c / 2, 30 + c);
        x.seat(0, 0, 0);
        x.seat(0, 1, 1);
        x.seat(1, 1, 0);
        x.seat(1, 2, 3);
        x.seat(2, 3, 4);
        x.seat(3, 0, 2);
        x.size(1, 20);
        x.set(0, 5);
        x.set(4, 1);
        rules(x, "ask if coin>31;pay if day>12;");
        x.found(0, 1, true);
        x.found(1, 0, false);
        x.seed(77);
    }

    private static void busyHost(CrashTies x) {
        x.sheet(0, 0, 3);
        x.put(0, 1, 200);
        x.sheet(1, 3, 2);
        x.put(1, 0, -5);
        x.sheet(2, 2, 0);
        x.shelf(0, 0, 1);
        x.shelf(1, 1, 0);
        x.shelf(2, 0, 4);
    }

    /** No more people, claims, bytes can come, and every claim is tied with every other one. */
    static void full(CrashTies x) {
        people(x, 10);
        for (int c = 0; c < 9; c++) {
            x.claim(0, 10 * c, 0, 1, c);
            x.seat(c, 0, c + 1);
            x.found(c, c % 2, c < 5);
        }
        x.keep();
        feed(x, "pay;" + " ".repeat(196));
    }

    /** As many people as can be joined, seated in each place of each of nine claims of a kind, all of the same words. */
    static void woven(CrashTies x, int kind, int coin) {
        people(x, 4);
        for (int c = 0; c < 9; c++) {
            x.claim(kind, 11 * c, 0, 9, coin);
            for (int place = 0; place < 4; place++) x.seat(c, place, place);
        }
        for (int p = 1; p < 4; p++) x.join(0, p);
        for (int sign = 0; sign < 4; sign++) x.set(sign, 9);
    }
}
