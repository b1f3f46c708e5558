import java.util.ArrayList;
import java.util.List;

/** What the tests have in common: calls and the answers that are due, and texts for the input buffer. */
final class Checks {
    interface Call {
        Object make();
    }

    private static int wrong = 0;

    private Checks() {
    }

    /** An answer as text; a boolean counts 1 or 0, a throw is told as throws.Name. */
    static String outcome(Call call) {
        try {
            return told(call.make());
        } catch (RuntimeException thrown) {
            return "throws." + thrown.getClass().getSimpleName();
        }
    }

    static String told(Object answer) {
        if (answer instanceof Boolean) {
            return ((Boolean) answer) ? "1" : "0";
        }
        return String.valueOf(answer);
    }

    static void due(String what, Object want, Call call) {
        String got = outcome(call);
        if (!got.equals(told(want))) {
            fail(what + " answered " + got + ", due is " + told(want));
        }
    }

    static void dueIndex(String what, Call call) {
        due(what, "throws.IndexOutOfBoundsException", call);
    }

    static void dueArgument(String what, Call call) {
        due(what, "throws.IllegalArgumentException", call);
    }

    static void dueState(String what, Call call) {
        due(what, "throws.IllegalStateException", call);
    }

    static void fail(String what) {
        wrong++;
        if (wrong <= 50) {
            System.out.println(what);
        }
    }

    /** A call that is due to throw, and to leave everything as it was. */
    static void dueUnchanged(MailSessions x, String what, String exception, Call call) {
        String before = everything(x);
        due(what, "throws." + exception, call);
        String after = everything(x);
        if (!before.equals(after)) {
            fail(what + " changed\n" + before + "\ninto\n" + after);
        }
    }

    static void end() {
        if (wrong != 0) {
            System.out.println(wrong + " answers are not as due");
            System.exit(1);
        }
    }

    /** Appends a text of signs 0 to 255; the tail of the last 20 bytes is cut off again. */
    static void feed(MailSessions x, String text) {
        int before = inputLength(x);
        for (int from = 0; from < text.length(); from += 20) {
            int[] words = new int[5];
            for (int k = 0; k < 20; k++) {
                int sign = from + k < text.length() ? text.charAt(from + k) : '#';
                words[k / 4] = words[k / 4] << 8 | sign & 255;
            }
            x.append(words[0], words[1], words[2], words[3], words[4]);
        }
        x.truncate(before + text.length());
    }

    static MailSessions loaded(String text) {
        MailSessions x = new MailSessions();
        feed(x, text);
        if (x.load() < 0) {
            fail("no parse error is due in " + text + " but " + x.errorCode() + " at " + x.errorPosition());
        }
        return x;
    }

    /** The input's length; a full buffer is told by a length too, as truncate() alone refuses the rest. */
    static int inputLength(MailSessions x) {
        try {
            int length = x.append(0, 0, 0, 0, 0) - 20;
            x.truncate(length);
            return length;
        } catch (IllegalStateException full) {
            return 700;
        }
    }

    static String output(MailSessions x, int length) {
        StringBuilder text = new StringBuilder();
        for (int at = 0; at < length; at++) {
            text.append((char) (x.outputByte(at) & 255));
        }
        due("the byte behind the output", "throws.IndexOutOfBoundsException", () -> x.outputByte(length));
        return text.toString();
    }

    static String notices(MailSessions x) {
        return output(x, x.writeNotices());
    }

    static String view(MailSessions x, int session) {
        return output(x, x.writeView(session));
    }

    static String box(MailSessions x, int box) {
        return output(x, x.writeBox(box));
    }

    /** Every answer of the methods that ask, but for the output buffer and the slots. */
    static String everything(MailSessions x) {
        List<Object> all = new ArrayList<>();
        all.add("input " + inputLength(x) + " error " + x.errorCode() + "@" + x.errorPosition());
        all.add("undo " + x.undoCount() + kept(x) + "\nnotices " + x.property(4));
        for (int index = 0; index < x.property(4); index++) {
            all.add(x.notice(index, 0) + "/" + x.notice(index, 1) + "/" + x.notice(index, 2) + "/" + x.notice(index, 3));
        }
        return all.toString();
    }

    /** What undo() and restore() bring back. */
    static String kept(MailSessions x) {
        List<Object> all = new ArrayList<>();
        for (int what = 0; what <= 3; what++) {
            all.add(x.property(what));
        }
        all.add("stale " + x.stale());
        for (int box = 0; box < x.property(0); box++) {
            all.add("\nbox");
            for (int what = 0; what <= 5; what++) {
                all.add(x.box(box, what));
            }
            for (int index = 0; index < x.box(box, 0); index++) {
                all.add(x.message(box, index, 0) + ":" + x.message(box, index, 1) + ":" + x.message(box, index, 2));
            }
        }
        for (int session = 0; session < x.property(1); session++) {
            all.add("\nsession");
            for (int what = 0; what <= 6; what++) {
                all.add(x.session(session, what));
            }
            for (int what = 0; what <= 4; what++) {
                all.add(x.account(session, what));
            }
            for (int number = 1; number <= x.session(session, 3); number++) {
                all.add(x.entry(session, number, 0) + ":" + x.entry(session, number, 1));
            }
        }
        return all.toString();
    }
}
