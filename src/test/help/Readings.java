import java.util.ArrayList;
import java.util.List;

/** All that can be read of an object, what keep() kept, too; the reading uses it up. */
final class Readings {
    /** With the calls of the scene there are no more than the 512 for which an object is used. */
    static final int CALLS_MOST = 400;

    private final CrashTies x;
    private final List<String> labels = new ArrayList<>();
    private final List<Long> answers = new ArrayList<>();

    Readings(CrashTies x) {
        this.x = x;
        for (int what = 0; what <= 7; what++) put("many(" + what + ")", x.many(what));
        host();
        rows();
        book();
        put("rules() of the tape", x.rules());
        says();
        put("again()", x.again());
        for (int what = 0; what <= 4; what++) put("many(" + what + ") again", x.many(what));
        book();
        says();
    }

    int calls() {
        return answers.size();
    }

    /** The first reading that is not as the other's, or null. */
    String firstDifference(Readings due) {
        for (int i = 0; i < answers.size() && i < due.answers.size(); i++) {
            boolean same = labels.get(i).equals(due.labels.get(i)) && answers.get(i).equals(due.answers.get(i));
            if (!same) return labels.get(i) + " is " + answers.get(i) + ", due is " + due.labels.get(i) + " " + due.answers.get(i);
        }
        return answers.size() == due.answers.size() ? null : "there is more or less to read";
    }

    private long put(String label, long answer) {
        labels.add(label);
        answers.add(answer);
        return answer;
    }

    private void host() {
        int bodies = x.many(7);
        for (int i = 0; i < bodies; i++) put("trace(" + i + ")", x.trace(i));
        for (int shelf = 0; shelf < 4; shelf++) {
            for (int as : new int[] {0, 10, 11, 12, 13}) put("taken(" + shelf + ", " + as + ")", x.taken(shelf, as));
        }
        for (int sheet = 0; sheet < 4; sheet++) {
            x.shelf(3, 1, sheet);
            for (int sort = 0; sort < 4; sort++) {
                long length = put("the length of sheet " + sheet + " as " + sort, x.taken(3, 10 + sort));
                for (int i = 0; i < length && i < 4; i++) put("item(" + sheet + ", " + sort + ", " + i + ")", x.item(sheet, sort, i));
            }
        }
    }

    private void rows() {
        int rows = Math.min(8, x.many(5));
        for (int i = 0; i < rows; i++) {
            for (int what = 0; what < 3; what++) put("row(" + i + ", " + what + ")", x.row(i, what));
        }
    }

    /** What can't be read but by a call that changes it is changed: what is found, the sizes, the laws and z. */
    private void book() {
        int people = x.many(0);
        for (int p = 0; p < people; p++) {
            for (int what = 0; what < 3; what++) put("personOf(" + p + ", " + what + ")", x.personOf(p, what));
        }
        int claims = x.many(1);
        for (int c = 0; c < claims; c++) {
            for (int what : new int[] {0, 1, 2, 3, 4, 10, 11, 12, 13}) put("claimOf(" + c + ", " + what + ")", x.claimOf(c, what));
            put("rate(1)", x.rate(1));
            put("rate(0)", x.rate(0));
            put("found(" + c + ", ..)", x.found(c, -1, false));
        }
        for (int town = 0; town < 4; town++) put("size(" + town + ", ..)", x.size(town, 60));
        says();
        for (int law = 0; law < 7; law++) put("set(" + law + ", ..)", x.set(law, 1));
        put("seed(..)", x.seed(1));
    }

    private void says() {
        int claims = Math.min(5, x.many(1));
        for (int c = 0; c < claims; c++) put("says(" + c + ")", x.says(c));
    }
}
