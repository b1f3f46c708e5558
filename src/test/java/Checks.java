import java.util.ArrayList;
import java.util.List;

/** What the tests have in common: calls and the answers that are due, and texts for the input buffer. */
final class Checks {
    interface Call {
        Object make();
    }

    /** A state to ask or to call; each one is used for less than 512 calls. */
    interface Scene {
        MailSessions make();
    }

    interface Deed {
        Object on(MailSessions x);
    }

    interface NumberedDeed {
        Object on(MailSessions x, int number);
    }

    static final String INDEX = "IndexOutOfBoundsException";
    static final String ARGUMENT = "IllegalArgumentException";
    static final String STATE = "IllegalStateException";
    static final String NO_ELEMENT = "NoSuchElementException";

    private static int wrong = 0;
    private static String test = "";

    private Checks() {
    }

    /** What the answers that are not as due are told with. */
    static void name(String itsName) {
        test = itsName;
    }

    /** An answer as text; a boolean counts 1 or 0, a throw is told as throws.Name. */
    static String outcome(Call call) {
        try {
            return told(call.make());
        } catch (RuntimeException thrown) {
            return "throws." + thrown.getClass().getSimpleName();
        }
    }

    static String told(Object answer) {
        if (answer instanceof Boolean) {
            return ((Boolean) answer) ? "1" : "0";
        }
        return String.valueOf(answer);
    }

    static void due(String what, Object want, Call call) {
        String got = outcome(call);
        if (!got.equals(told(want))) {
            fail(what + " answered " + got + ", due is " + told(want));
        }
    }

    static void dueIndex(String what, Call call) {
        due(what, "throws.IndexOutOfBoundsException", call);
    }

    static void dueArgument(String what, Call call) {
        due(what, "throws.IllegalArgumentException", call);
    }

    static void dueState(String what, Call call) {
        due(what, "throws.IllegalStateException", call);
    }

    static void fail(String what) {
        wrong++;
        if (wrong <= 50) {
            System.out.println(test.isEmpty() ? what : test + ": " + what);
        }
    }

    /** A call that is due to throw, and to leave as it was what a few calls tell; refused() looks at everything. */
    static void dueUnchanged(MailSessions x, String what, String exception, Call call) {
        String before = few(x);
        due(what, "throws." + exception, call);
        String after = few(x);
        if (!before.equals(after)) {
            fail(what + " changed\n" + before + "\ninto\n" + after);
        }
    }

    private static String few(MailSessions x) {
        return x.property(2) + " " + x.property(3) + " " + x.property(4) + " " + x.stale() + " " + x.undoCount() + " "
                + inputLength(x) + " " + x.errorPosition();
    }

    /** A call that is due to throw, and to leave everything as it was: each part is asked of new objects. */
    static void refused(String exception, String what, Scene scene, Deed call) {
        unchanged(what, scene, x -> due(what, "throws." + exception, () -> call.on(x)));
    }

    /** The numbers that stand next to those from least to most, -1 and the ends of int, are due to throw. */
    static void refusedBeside(int least, int most, String exception, Scene scene, NumberedDeed call) {
        for (int number : new int[] {least - 1, most + 1, most + 2, -1, Integer.MIN_VALUE, Integer.MAX_VALUE}) {
            refused(exception, "with " + number, scene, x -> call.on(x, number));
        }
    }

    interface Act {
        void on(MailSessions x);
    }

    /** A part of all that can be seen of an object, in less than 400 calls that may spoil it. */
    enum Part { NOTICES, READING, UNDO_COUNT, LIMIT, KEPT, OUTPUT, INPUT, SLOTS, PAST }

    /** An act that is due to leave everything as it was. */
    static void unchanged(String what, Scene scene, Act act) {
        leaves(what, scene, act, Part.values());
    }

    /** An act that is due to leave some parts as they were; each is asked of new objects. */
    static void leaves(String what, Scene scene, Act act, Part... parts) {
        for (Part part : parts) {
            String before = partOf(scene.make(), part);
            MailSessions x = scene.make();
            act.on(x);
            String after = partOf(x, part);
            if (!before.equals(after)) {
                fail(what + " changed " + part + "\n" + before + "\ninto\n" + after);
            }
        }
    }

    private static String partOf(MailSessions x, Part part) {
        switch (part) {
            case NOTICES: return noticesOf(x);
            case READING: return x.errorCode() + "@" + x.errorPosition() + " of " + inputLength(x);
            case UNDO_COUNT: return "" + x.undoCount();
            case LIMIT: return "" + x.property(2);
            case KEPT: return kept(x);
            case OUTPUT: return outputOf(x);
            case INPUT: return inputOf(x);
            case SLOTS: return outcome(() -> x.restore(0)) + kept(x) + outcome(() -> x.restore(1)) + x.property(3);
            default: return pastOf(x);
        }
    }

    private static String noticesOf(MailSessions x) {
        StringBuilder text = new StringBuilder();
        int count = x.property(4);
        for (int index = 0; index < count; index++) {
            text.append(' ').append(x.notice(index, 0)).append('/').append(x.notice(index, 1))
                    .append('/').append(x.notice(index, 2)).append('/').append(x.notice(index, 3));
        }
        return text.toString();
    }

    private static String outputOf(MailSessions x) {
        StringBuilder text = new StringBuilder("output ");
        for (int at = 0; at < 300; at++) {
            int index = at;
            String each = outcome(() -> x.outputByte(index));
            if (each.startsWith("throws")) {
                break;
            }
            text.append(each).append(' ');
        }
        return text.toString();
    }

    /** The buffer is told by what it is as a query; where there is no box, by what it is as a text. */
    private static String inputOf(MailSessions x) {
        String answer = outcome(() -> x.property(0) > 0 ? x.searchBox(0) : x.load());
        return "input " + answer + " " + x.errorCode() + "@" + x.errorPosition();
    }

    private static String pastOf(MailSessions x) {
        StringBuilder text = new StringBuilder("past");
        for (int times = 0; times < 7; times++) {
            text.append("\n").append(outcome(x::undo)).append(' ').append(x.property(2)).append(' ').append(x.stale());
            for (int box = 0; box < x.property(0); box++) {
                text.append(' ').append(x.box(box, 0)).append(' ').append(x.box(box, 1)).append(' ').append(x.box(box, 3));
            }
            for (int session = 0; session < x.property(1); session++) {
                text.append(' ').append(x.session(session, 0)).append(' ').append(x.session(session, 2))
                        .append(' ').append(x.pending(session)).append(' ').append(x.account(session, 0));
            }
        }
        return text.toString();
    }

    /** Answers are due for the numbers from least on. */
    static void dueFrom(int least, Object[] answers, Scene scene, NumberedDeed call) {
        for (int k = 0; k < answers.length; k++) {
            int number = least + k;
            MailSessions x = scene.make();
            due("with " + number, answers[k], () -> call.on(x, number));
        }
    }

    static void end() {
        if (wrong != 0) {
            System.out.println(wrong + " answers are not as due");
            System.exit(1);
        }
    }

    /** Appends a text of signs 0 to 255; the tail of the last 20 bytes is cut off again. */
    static void feed(MailSessions x, String text) {
        int before = inputLength(x);
        for (int from = 0; from < text.length(); from += 20) {
            int[] words = new int[5];
            for (int k = 0; k < 20; k++) {
                int sign = from + k < text.length() ? text.charAt(from + k) : '#';
                words[k / 4] = words[k / 4] << 8 | sign & 255;
            }
            x.append(words[0], words[1], words[2], words[3], words[4]);
        }
        x.truncate(before + text.length());
    }

    static MailSessions loaded(String text) {
        MailSessions x = new MailSessions();
        feed(x, text);
        if (x.load() < 0) {
            fail("no parse error is due in " + text + " but " + x.errorCode() + " at " + x.errorPosition());
        }
        return x;
    }

    /** A text with the sign ^ ahead of the token whose error is due. */
    static void error(int code, String marked) {
        int position = marked.indexOf('^');
        String text = marked.substring(0, position) + marked.substring(position + 1);
        MailSessions x = new MailSessions();
        feed(x, text);
        due("load of " + marked, -4, x::load);
        due("errorCode of " + marked, code, x::errorCode);
        due("errorPosition of " + marked, position, x::errorPosition);
    }

    /** A query with the sign ^ ahead of the token whose error is due. */
    static void queryError(int code, String marked) {
        int position = marked.indexOf('^');
        String query = marked.substring(0, position) + marked.substring(position + 1);
        MailSessions x = loaded("box a;message a size 10;session s a;");
        feed(x, query);
        due("searchBox of " + marked, -4, () -> x.searchBox(0));
        due("errorCode of " + marked, code, x::errorCode);
        due("errorPosition of " + marked, position, x::errorPosition);
        MailSessions y = loaded("box a;message a size 10;session s a;");
        feed(y, query);
        due("search of " + marked, -4L, () -> y.search(0));
        due("errorCode of a search of " + marked, code, y::errorCode);
        due("errorPosition of a search of " + marked, position, y::errorPosition);
    }

    static int searched(MailSessions x, int box, String query) {
        feed(x, query);
        return x.searchBox(box);
    }

    static long found(MailSessions x, int session, String query) {
        feed(x, query);
        return x.search(session);
    }

    /** The input's length; a full buffer is told by a length too, as truncate() alone refuses the rest. */
    static int inputLength(MailSessions x) {
        try {
            int length = x.append(0, 0, 0, 0, 0) - 20;
            x.truncate(length);
            return length;
        } catch (IllegalStateException full) {
            return 700;
        }
    }

    static String output(MailSessions x, int length) {
        StringBuilder text = new StringBuilder();
        for (int at = 0; at < length; at++) {
            text.append((char) (x.outputByte(at) & 255));
        }
        due("the byte behind the output", "throws.IndexOutOfBoundsException", () -> x.outputByte(length));
        return text.toString();
    }

    static String notices(MailSessions x) {
        return output(x, x.writeNotices());
    }

    static String view(MailSessions x, int session) {
        return output(x, x.writeView(session));
    }

    static String box(MailSessions x, int box) {
        return output(x, x.writeBox(box));
    }

    /** Every answer of the methods that ask, but for the output buffer and the slots. */
    static String everything(MailSessions x) {
        List<Object> all = new ArrayList<>();
        String notices = x.property(4) + noticesOf(x);
        all.add("input " + inputLength(x) + " error " + x.errorCode() + "@" + x.errorPosition());
        all.add("undo " + x.undoCount() + kept(x) + "\nnotices " + notices);
        return all.toString();
    }

    /** What undo() and restore() bring back. */
    static String kept(MailSessions x) {
        List<Object> all = new ArrayList<>();
        for (int what = 0; what <= 3; what++) {
            all.add(x.property(what));
        }
        all.add("stale " + x.stale());
        for (int box = 0; box < x.property(0); box++) {
            all.add("\nbox");
            for (int what = 0; what <= 5; what++) {
                all.add(x.box(box, what));
            }
            for (int index = 0; index < x.box(box, 0); index++) {
                all.add(x.message(box, index, 0) + ":" + x.message(box, index, 1) + ":" + x.message(box, index, 2));
            }
        }
        for (int session = 0; session < x.property(1); session++) {
            all.add("\nsession");
            for (int what = 0; what <= 6; what++) {
                all.add(x.session(session, what));
            }
            for (int what = 0; what <= 4; what++) {
                all.add(x.account(session, what));
            }
            for (int number = 1; number <= x.session(session, 3); number++) {
                all.add(x.entry(session, number, 0) + ":" + x.entry(session, number, 1));
            }
        }
        return all.toString();
    }
}
