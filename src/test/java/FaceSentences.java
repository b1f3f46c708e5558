import java.lang.reflect.Field;
import java.lang.reflect.Method;
import java.lang.reflect.Modifier;

/** The public face of ../shared/DOC.md, its constants, and the signature of each promise. */
final class FaceSentences {
    private static final Sentences FACE = Sentences.of("The public face");
    private static final String[] SIGNATURES = {
        "MailSessions()",
        "int append(int a, int b, int c, int d, int e) throws IllegalStateException",
        "void truncate(int length) throws IllegalArgumentException",
        "int load()",
        "int errorCode()",
        "int errorPosition()",
        "int findBox()",
        "int findSession()",
        "int property(int what) throws IllegalArgumentException",
        "int box(int box, int what) throws IndexOutOfBoundsException, IllegalArgumentException",
        "int message(int box, int index, int what) throws IndexOutOfBoundsException, IllegalArgumentException",
        "int indexOf(int box, int uid) throws IndexOutOfBoundsException",
        "int session(int session, int what) throws IndexOutOfBoundsException, IllegalArgumentException",
        "int entry(int session, int number, int what) throws IndexOutOfBoundsException, IllegalArgumentException",
        "int numberOf(int session, int uid) throws IndexOutOfBoundsException",
        "int numberThen(int session, int number) throws IndexOutOfBoundsException",
        "int pending(int session) throws IndexOutOfBoundsException",
        "boolean isCurrent(int session) throws IndexOutOfBoundsException",
        "int firstUnseen(int session) throws IndexOutOfBoundsException",
        "int largest(int session) throws IndexOutOfBoundsException",
        "int common(int session, int other) throws IndexOutOfBoundsException",
        "int holders(int box, int uid) throws IndexOutOfBoundsException",
        "int stale()",
        "float unseen(int box) throws IndexOutOfBoundsException",
        "double mean(int box) throws IndexOutOfBoundsException",
        "int account(int session, int what) throws IndexOutOfBoundsException, IllegalArgumentException",
        "int notice(int index, int what) throws IllegalArgumentException, NoSuchElementException",
        "int searchBox(int box) throws IndexOutOfBoundsException",
        "int select(int session, int box, boolean reads) throws IndexOutOfBoundsException, IllegalStateException",
        "int noop(int session) throws IndexOutOfBoundsException, IllegalStateException",
        "int startIdle(int session) throws IndexOutOfBoundsException, IllegalStateException",
        "int stopIdle(int session) throws IndexOutOfBoundsException, IllegalStateException",
        "int fetch(int session, int from, int to, boolean peek) throws IndexOutOfBoundsException, IllegalArgumentException, IllegalStateException",
        "int store(int session, int from, int to, int mode, int flags, boolean silent) throws IndexOutOfBoundsException, IllegalArgumentException, IllegalStateException",
        "int uidStore(int session, int first, int last, int mode, int flags) throws IndexOutOfBoundsException, IllegalArgumentException, IllegalStateException",
        "long search(int session) throws IndexOutOfBoundsException, IllegalStateException",
        "int expunge(int session) throws IndexOutOfBoundsException, IllegalStateException",
        "int uidExpunge(int session, int first, int last) throws IndexOutOfBoundsException, IllegalStateException",
        "int copy(int session, int from, int to, int box) throws IndexOutOfBoundsException, IllegalArgumentException, IllegalStateException",
        "int move(int session, int from, int to, int box) throws IndexOutOfBoundsException, IllegalArgumentException, IllegalStateException",
        "int close(int session) throws IndexOutOfBoundsException, IllegalStateException",
        "int deliver(int box, int size, int flags) throws IndexOutOfBoundsException, IllegalArgumentException, IllegalStateException",
        "int setLimit(int limit) throws IllegalArgumentException",
        "int keep(int slot) throws IndexOutOfBoundsException",
        "int restore(int slot) throws IndexOutOfBoundsException, IllegalStateException",
        "int undo() throws IllegalStateException",
        "int undoCount()",
        "int writeBox(int box) throws IndexOutOfBoundsException",
        "int writeView(int session) throws IndexOutOfBoundsException",
        "int writeNotices()",
        "int outputByte(int index) throws IndexOutOfBoundsException"};

    private FaceSentences() {
    }

    static void all() {
        around();
        constants();
        for (int k = 0; k < SIGNATURES.length; k++) {
            String signature = SIGNATURES[k];
            FACE.holds("public " + signature + ";", () -> Checks.due("is there", true, () -> stands(signature)));
            Sentences.of("Promise " + (k + 1)).holds("`" + signature + "`",
                    () -> Checks.due("is there", true, () -> stands(signature)));
        }
    }

    private static void around() {
        FACE.namesNone("```java import java.util.NoSuchElementException;");
        FACE.holds("public final class MailSessions {", () -> {
            Checks.due("public and final", Modifier.PUBLIC | Modifier.FINAL, MailSessions.class::getModifiers);
            Checks.due("public methods", SIGNATURES.length - 1, FaceSentences::publicMethods);
            Checks.due("public constructors", 1, () -> MailSessions.class.getConstructors().length);
            Checks.due("public constants", 2, () -> MailSessions.class.getFields().length);
        });
        Sentences.of("Not promised").namesNone("How the state is held inside the object is free, as are the speed of each call, "
                + "the text of toString and the behaviour of equals and hashCode. Use of one object from several threads at once "
                + "is not promised to be safe.");
    }

    private static int publicMethods() {
        int methods = 0;
        for (Method method : MailSessions.class.getDeclaredMethods()) {
            methods += Modifier.isPublic(method.getModifiers()) ? 1 : 0;
        }
        return methods;
    }

    private static void constants() {
        Sentences told = Sentences.of("The constants");
        told.namesNone("The constants:");
        FACE.holds("public static final int NONE = -1;", () -> Checks.due("NONE", -1, () -> constant("NONE")));
        FACE.holds("public static final int PARSE_ERROR = -4;", () -> Checks.due("PARSE_ERROR", -4, () -> constant("PARSE_ERROR")));
        told.holds("`NONE = -1`: No such value.", () -> {
            MailSessions x = Scenes.busy();
            Checks.due("no box", MailSessions.NONE, () -> x.session(3, 0));
            Checks.due("no message", MailSessions.NONE, () -> x.indexOf(0, 2));
        });
        told.holds("`PARSE_ERROR = -4`: The text has a parse error.", () -> {
            Checks.due("an empty text", MailSessions.PARSE_ERROR, () -> new MailSessions().load());
            Checks.due("an empty query", MailSessions.PARSE_ERROR, () -> Checks.loaded("box a;").searchBox(0));
            Checks.due("an empty query of a session", (long) MailSessions.PARSE_ERROR,
                    () -> Checks.loaded("box a;session s a;").search(0));
        });
        told.namesNone("The constructor and the methods follow, a promise each: the signature, then what it does.");
    }

    private static int constant(String name) {
        try {
            Field field = MailSessions.class.getField(name);
            int due = Modifier.PUBLIC | Modifier.STATIC | Modifier.FINAL;
            return field.getModifiers() == due && field.getType() == int.class ? field.getInt(null) : 0;
        } catch (ReflectiveOperationException missing) {
            return 0;
        }
    }

    /** A signature as the document has it: the type, the name, the types and names of the parameters, what it throws. */
    private static boolean stands(String signature) {
        String[] parts = signature.split("[()]", 3);
        String thrown = parts[2].replace("throws", "").replace(" ", "");
        String types = parts[1].replaceAll(" \\w+(?=,|$)", "").replace(" ", "");
        if (parts[0].equals("MailSessions")) {
            return MailSessions.class.getConstructors().length == 1
                    && MailSessions.class.getConstructors()[0].getParameterCount() == 0;
        }
        String found = "none";
        for (Method method : MailSessions.class.getDeclaredMethods()) {
            if (method.getModifiers() == Modifier.PUBLIC && (method.getReturnType() + " " + method.getName()).equals(parts[0])) {
                found = names(method.getParameterTypes()) + "/" + names(method.getExceptionTypes());
            }
        }
        return found.equals(types + "/" + thrown);
    }

    private static String names(Class<?>[] types) {
        StringBuilder names = new StringBuilder();
        for (Class<?> type : types) {
            names.append(names.length() == 0 ? "" : ",").append(type.getSimpleName());
        }
        return names.toString();
    }
}
