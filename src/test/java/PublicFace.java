import java.lang.reflect.Constructor;
import java.lang.reflect.Field;
import java.lang.reflect.Method;
import java.lang.reflect.Modifier;
import java.util.TreeSet;

/** The face of the class is the one that ../shared/DOC.md lists, each constant with its value, and nothing else. */
public final class PublicFace {
    /** As the document lists it. */
    private static final String LISTED = """
        public static final int BAD = -1, FULL = -2, NONE = -3, STATE = -4;
        public CrashTies();
        public int feed(long eight, int n);
        public int rules();
        public int size(int town, int n);
        public int person(int town, boolean hub);
        public int personOf(int p, int what);
        public int join(int p, int q);
        public int claim(int kind, int day, int town, int words, int coin);
        public int claimOf(int claim, int what);
        public int seat(int claim, int place, int p);
        public int set(int law, int v);
        public int tie(int a, int b);
        public int tied(int claim);
        public int hang(int claim);
        public int steps(int p, int q);
        public int turned(int p);
        public int score(int set);
        public int lot(int what);
        public int seen(int level);
        public int without(int sign);
        public int hold();
        public long odds(int p, int part);
        public int likely(int claim);
        public int best(int what);
        public int says(int claim);
        public int found(int claim, int v, boolean chance);
        public int rate(int part);
        public int right(int what);
        public int seed(int v);
        public int draw();
        public int prove();
        public int row(int i, int what);
        public int alterRow(int i, int what, int v);
        public int judge();
        public int sheet(int sheet, int sort, int n);
        public int put(int sheet, int i, int v);
        public int item(int sheet, int sort, int i);
        public int shelf(int shelf, int what, int n);
        public int taken(int shelf, int as);
        public int act(int shelf, int act, int x);
        public int trace(int i);
        public int many(int what);
        public int keep();
        public int again();
        """;

    private static int wrong = 0;

    private static void say(String what) {
        wrong++;
        System.out.println(what);
    }

    public static void main(String[] args) throws Exception {
        TreeSet<String> listed = listed();
        TreeSet<String> there = there();
        for (String member : listed) if (!there.contains(member)) say("the document lists " + member);
        for (String member : there) if (!listed.contains(member)) say("the document doesn't list " + member);
        if (wrong != 0) System.exit(1);
    }

    /** The listed members, constants each with its value, methods without the names of parameters. */
    private static TreeSet<String> listed() {
        TreeSet<String> members = new TreeSet<>();
        members.add("public final class CrashTies");
        for (String member : LISTED.split("\n")) {
            if (member.startsWith("public static final int ")) {
                for (String constant : member.substring(24, member.length() - 1).split(", ")) members.add("constant int " + constant);
            } else {
                members.add(member.substring(7, member.length() - 1).replaceAll("(int|long|boolean) [a-z]+([,)])", "$1$2"));
            }
        }
        return members;
    }

    /** What of the class is not private, but for the classes inside it. */
    private static TreeSet<String> there() throws IllegalAccessException {
        TreeSet<String> members = new TreeSet<>();
        Class<?> face = CrashTies.class;
        members.add(Modifier.toString(face.getModifiers()) + " class " + face.getName());
        for (Field field : face.getDeclaredFields()) {
            if (Modifier.isPrivate(field.getModifiers()) || field.isSynthetic()) continue;
            boolean constant = Modifier.toString(field.getModifiers()).equals("public static final");
            members.add(constant ? "constant " + field.getType() + " " + field.getName() + " = " + field.get(null) : "the field " + field);
        }
        for (Constructor<?> made : face.getDeclaredConstructors()) {
            if (!Modifier.isPrivate(made.getModifiers())) members.add(made.getName() + types(made.getParameterTypes()));
        }
        for (Method method : face.getDeclaredMethods()) {
            if (Modifier.isPrivate(method.getModifiers()) || method.isSynthetic()) continue;
            String flags = Modifier.toString(method.getModifiers());
            members.add((flags.equals("public") ? "" : flags + " ") + method.getReturnType() + " " + method.getName() + types(method.getParameterTypes()));
        }
        return members;
    }

    private static String types(Class<?>[] types) {
        StringBuilder text = new StringBuilder("(");
        for (Class<?> type : types) text.append(text.length() > 1 ? ", " : "").append(type);
        return text.append(")").toString();
    }
}
