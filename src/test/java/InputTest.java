/** Promises 1 to 8: a new object, the input buffer, the texts of load() and its errors, names. */
public final class InputTest {
    private static final String TEXT = "limit 9;box a;box b;message a size 10 seen draft;message b size 9999;"
            + "session ann a;session bob reads b;session a;";

    public static void main(String[] args) {
        newObject();
        append();
        truncate();
        load();
        loadChangesOnSuccess();
        loadChangesNothingElseOnError();
        tokens();
        errorsOfStatements();
        errorsOfLimit();
        errorsOfBoxes();
        errorsOfMessages();
        errorsOfSessions();
        errorsOfEnds();
        latestError();
        find();
        Checks.end();
    }

    private static void newObject() {
        MailSessions x = new MailSessions();
        Checks.due("NONE", -1, () -> MailSessions.NONE);
        Checks.due("PARSE_ERROR", -4, () -> MailSessions.PARSE_ERROR);
        Checks.due("boxes of a new object", 0, () -> x.property(0));
        Checks.due("sessions of a new object", 0, () -> x.property(1));
        Checks.due("limit of a new object", 30, () -> x.property(2));
        Checks.due("messages of a new object", 0, () -> x.property(3));
        Checks.due("notices of a new object", 0, () -> x.property(4));
        Checks.due("errorCode of a new object", 0, x::errorCode);
        Checks.due("errorPosition of a new object", -1, x::errorPosition);
        Checks.due("undoCount of a new object", 0, x::undoCount);
        Checks.due("stale of a new object", 0, x::stale);
        Checks.dueIndex("output of a new object", () -> x.outputByte(0));
        Checks.dueState("slot 0 of a new object", () -> x.restore(0));
        Checks.dueState("slot 1 of a new object", () -> x.restore(1));
        Checks.due("first append", 20, () -> x.append(0, 0, 0, 0, 0));
    }

    private static void append() {
        MailSessions x = new MailSessions();
        // "box a;" and the rest blank; the last word's low byte is part of the text too
        Checks.due("append", 20, () -> x.append(0x626f7820, 0x613b2020, 0x0a0a2020, 0x20202020, 0x2020203b));
        Checks.due("load reads the last byte appended", -4, x::load);
        Checks.due("which stands at", 19, x::errorPosition);
        for (int times = 1; times <= 35; times++) {
            int length = 20 * times;
            Checks.due("append " + times, length, () -> x.append(0x20202020, 0x20202020, 0x20202020, 0x20202020, 0x20202020));
        }
        Checks.dueUnchanged(x, "append to a full buffer", "IllegalStateException", () -> x.append(0, 0, 0, 0, 0));
        x.truncate(681);
        Checks.dueState("append 20 bytes to 681", () -> x.append(0, 0, 0, 0, 0));
        x.truncate(680);
        Checks.due("append 20 bytes to 680", 700, () -> x.append(-1, -1, -1, -1, -1));
        x.load();
        Checks.due("a byte above 127 is a symbol", 680, x::errorPosition);
        MailSessions y = new MailSessions();
        y.append(0x626f7820, 0x616263ff, 0x20202020, 0x20202020, 0x20202020);
        Checks.due("a symbol behind a name", -4, y::load);
        Checks.due("stands at", 7, y::errorPosition);
    }

    private static void truncate() {
        MailSessions x = new MailSessions();
        Checks.dueArgument("truncate an empty buffer to 1", () -> truncated(x, 1));
        Checks.due("truncate an empty buffer to 0", 0, () -> truncated(x, 0));
        Checks.feed(x, "box a;box b;");
        Checks.dueUnchanged(x, "truncate(-1)", "IllegalArgumentException", () -> truncated(x, -1));
        Checks.dueUnchanged(x, "truncate(13)", "IllegalArgumentException", () -> truncated(x, 13));
        Checks.dueArgument("truncate(min)", () -> truncated(x, Integer.MIN_VALUE));
        Checks.due("truncate(12)", 12, () -> truncated(x, 12));
        Checks.due("truncate(6)", 6, () -> truncated(x, 6));
        x.load();
        Checks.due("what stays is read", 1, () -> x.property(0));
    }

    private static int truncated(MailSessions x, int length) {
        x.truncate(length);
        return Checks.inputLength(x);
    }

    private static void load() {
        MailSessions x = new MailSessions();
        Checks.feed(x, TEXT);
        Checks.due("load", 2, x::load);
        Checks.due("input behind load", 0, () -> Checks.inputLength(x));
        Checks.due("everything of the text", "[input 0 error 0@-1, undo 1[2, 3, 9, 2, stale 0, "
                + "\nbox, 1, 2, 10, 0, 0, 1, 1:10:17, \nbox, 1, 2, 9999, 1, 0, 2, 1:9999:0, "
                + "\nsession, 0, 0, 0, 1, 0, 0, 0, 0, 0, 0, 0, 0, 1:17, "
                + "\nsession, 1, 1, 0, 1, 0, 0, 0, 0, 0, 0, 0, 0, 1:0, "
                + "\nsession, -1, 0, 0, 0, 0, 0, 0, 0, 0, 0, 0, 0]\nnotices 0]", () -> Checks.everything(x));
        MailSessions late = Checks.loaded("box a;session s a;message a size 1;message a size 2 seen;");
        Checks.due("a session selects the box as it is at the end of the text", "1:1 2:2s", () -> Checks.view(late, 0));
        Checks.due("and has no more to be told", 0, () -> late.pending(0));
        MailSessions most = Checks.loaded("box abcdef;box abcde;box abcd;session a;session b;session c;session d;");
        Checks.due("three boxes", 3, () -> most.property(0));
        Checks.due("four sessions", 4, () -> most.property(1));
        Checks.due("the limit when none is told", 30, () -> most.property(2));
        Checks.due("a limit behind a box and a session", 7, () -> Checks.loaded("box a;session s;limit 7;").property(2));
        MailSessions flags = Checks.loaded("box a;message a size 1 draft deleted flagged answered seen;");
        Checks.due("all flags", 31, () -> flags.message(0, 0, 2));
    }

    private static void loadChangesOnSuccess() {
        MailSessions x = Checks.loaded(TEXT);
        x.setLimit(4);
        x.startIdle(0);
        x.deliver(0, 5, 0);
        x.close(1);
        x.keep(0);
        int length = x.writeBox(0);
        String output = Checks.output(x, length);
        Checks.feed(x, "@");
        x.load();
        Checks.feed(x, "box z;message z size 3;session q z;");
        Checks.due("a second load", 1, x::load);
        Checks.due("everything is that of the text, and can be undone", "[input 0 error 0@-1, undo 6[1, 1, 30, 1, "
                + "stale 0, \nbox, 1, 2, 3, 1, 0, 1, 1:3:0, "
                + "\nsession, 0, 0, 0, 1, 0, 0, 0, 0, 0, 0, 0, 0, 1:0]\nnotices 0]", () -> Checks.everything(x));
        Checks.due("but the output", output, () -> Checks.output(x, length));
        Checks.due("and the slots", 3, () -> x.restore(0));
    }

    private static void loadChangesNothingElseOnError() {
        MailSessions x = Checks.loaded(TEXT);
        x.startIdle(0);
        x.deliver(0, 5, 0);
        String before = Checks.everything(x).replace("error 0@-1", "error 3@10");
        Checks.feed(x, "box c;box c;message c size 1;");
        Checks.due("load with an error", -4, x::load);
        Checks.due("changes no more", before, () -> Checks.everything(x));
    }

    private static void tokens() {
        Checks.due("no separators", "1:7sd", () -> Checks.box(Checks.loaded("box a;message a size7seen deleted;"), 0));
        Checks.due("many separators", "1:7", () -> Checks.box(Checks.loaded("\n box\na ;\n\nmessage a\nsize 7\n ; \n"), 0));
        Checks.due("leading zeros", "1:42", () -> Checks.box(Checks.loaded("box a;message a size 0000000000000042;"), 0));
        error("box a;message a size 99999999999999999999;", 2, 21);
        error("box a;message a size 4294967297;", 2, 21);
        error("box a;message a size 18446744073709551617;", 2, 21);
        error("box\ta;", 1, 3);
        error("Box a;", 1, 0);
        error("box a\u0000;", 1, 5);
        error("box a1;", 1, 5);
        error("box \u00e9;", 1, 4);
        error("box a;message a size -1;", 1, 21);
        error("box a;message a size 1 seendeleted;", 1, 23);
        error("boxa;", 1, 0);
        error("cox a;", 1, 0);
        Checks.due("a name that differs in one letter from a keyword", 3, () -> Checks.loaded("box sox;box mot;box boxx;").property(0));
    }

    private static void errorsOfStatements() {
        error("seen;", 1, 0);
        error("reads a;", 1, 0);
        error("all;", 1, 0);
        error(";", 1, 0);
        error("box a;;", 1, 6);
        error("12;", 1, 0);
        error("boxes a;", 1, 0);
        error("a;", 1, 0);
    }

    private static void errorsOfLimit() {
        error("limit 0;", 2, 6);
        error("limit 31;", 2, 6);
        error("limit a;", 1, 6);
        error("limit ;", 1, 6);
        error("limit 3 4;", 1, 8);
        error("limit 3;limit 3;", 3, 8);
        error("limit 3;box a;limit 0;", 3, 14);
        error("box a;message a size 1;limit 3;", 1, 23);
        error("limit 3;box a;message a size 1;limit 3;", 1, 31);
        Checks.due("limit 1", 1, () -> Checks.loaded("limit 1;").property(2));
        Checks.due("limit 30", 30, () -> Checks.loaded("limit 30;").property(2));
    }

    private static void errorsOfBoxes() {
        error("box ;", 1, 4);
        error("box 1;", 1, 4);
        error("box abcdefg;", 1, 4);
        error("box a b;", 1, 6);
        for (String word : new String[] {"limit", "box", "message", "size", "session", "reads", "seen", "answered",
            "flagged", "deleted", "draft", "all", "uid", "not", "or"}) {
            error("box " + word + ";", 1, 4);
            error("session " + word + ";", 1, 8);
            error("box a;session s " + word + ";", 1, word.equals("reads") ? 21 : 16);
            error("box a;message " + word + " size 1;", 1, 14);
        }
        error("box a;box b;box a;", 3, 16);
        error("box a;box b;box c;box d;", 4, 18);
        error("box a;box b;box c;box", 4, 18);
        error("box a;box b;box c;box a;", 4, 18);
        Checks.due("a box named as a session", 2, () -> Checks.loaded("session b;box a;box b;session a;").property(0));
    }

    private static void errorsOfMessages() {
        error("message a size 1;", 3, 8);
        error("box a;message b size 1;", 3, 14);
        error("box a;message abcdefg size 1;", 1, 14);
        error("box a;message 1 size 1;", 1, 14);
        error("box a;message a 1;", 1, 16);
        error("box a;message a seen size 1;", 1, 16);
        error("box a;message a size ;", 1, 21);
        error("box a;message a size seen;", 1, 21);
        error("box a;message a size 0;", 2, 21);
        error("box a;message a size 10000;", 2, 21);
        error("box a;message a size 1 seen draft seen;", 3, 34);
        error("box a;message a size 1 reads;", 1, 23);
        error("box a;message a size 1 2;", 1, 23);
        error("limit 1;box a;box b;message a size 1;message b size 1;message a size 1;", 4, 62);
        error("limit 1;box a;message a size 1;message a", 4, 39);
        StringBuilder full = new StringBuilder("box a;");
        for (int k = 0; k < 30; k++) {
            full.append("message a size 1;");
        }
        Checks.due("30 messages", 30, () -> Checks.loaded(full.toString()).box(0, 0));
        error(full + "message a size 1;", 4, full.length() + 8);
    }

    private static void errorsOfSessions() {
        error("session ;", 1, 8);
        error("session 1;", 1, 8);
        error("session abcdefg;", 1, 8);
        error("session s t;", 3, 10);
        error("session s abcdefg;", 1, 10);
        error("session s 1;", 1, 10);
        error("box a;session s reads;", 1, 21);
        error("box a;session s reads b;", 3, 22);
        error("box a;session s reads reads a;", 1, 22);
        error("box a;session s reads abcdefg;", 1, 22);
        error("box a;session s a reads;", 1, 18);
        error("box a;session s b;box b;", 3, 16);
        error("session s;session s;", 3, 18);
        error("session a;session b;session c;session d;session e;", 4, 40);
        error("session a;session b;session c;session d;session", 4, 40);
    }

    private static void errorsOfEnds() {
        error("", 1, 0);
        error("  \n ", 1, 4);
        error("box a", 1, 5);
        error("box a; box ", 1, 11);
        error("limit", 1, 5);
        error("box a;message", 1, 13);
        error("box a;message a", 1, 15);
        error("box a;message a size", 1, 20);
        error("box a;message a size 1 ", 1, 23);
        error("box a;message a size 1" + " ".repeat(678), 1, 700);
        error("limit 3;" + " ".repeat(691) + ";", 1, 699);
        error("session", 1, 7);
        error("session s  ", 1, 11);
        error("box a;session s reads", 1, 21);
    }

    private static void error(String text, int code, int position) {
        MailSessions x = new MailSessions();
        Checks.feed(x, text);
        Checks.due("load of " + text, -4, x::load);
        Checks.due("errorCode of " + text, code, x::errorCode);
        Checks.due("errorPosition of " + text, position, x::errorPosition);
        Checks.due("input behind " + text, 0, () -> Checks.inputLength(x));
        Checks.due("boxes behind " + text, 0, () -> x.property(0));
        Checks.due("undoCount behind " + text, 0, x::undoCount);
    }

    private static void latestError() {
        MailSessions x = Checks.loaded("box a;session s a;");
        Checks.feed(x, "box 1;");
        x.load();
        x.noop(0);
        x.undo();
        Checks.due("errorCode stays", 1, x::errorCode);
        Checks.due("errorPosition stays", 4, x::errorPosition);
        Checks.feed(x, "all");
        x.searchBox(0);
        Checks.due("errorCode behind searchBox()", 0, x::errorCode);
        Checks.due("errorPosition behind searchBox()", -1, x::errorPosition);
        Checks.feed(x, "all or");
        x.search(0);
        Checks.due("errorPosition behind search()", 6, x::errorPosition);
        Checks.feed(x, "nothing");
        Checks.dueUnchanged(x, "search() that reads no text", "IndexOutOfBoundsException", () -> x.search(1));
        Checks.dueUnchanged(x, "searchBox() that reads no text", "IndexOutOfBoundsException", () -> x.searchBox(1));
        x.startIdle(0);
        Checks.dueUnchanged(x, "a refused search()", "IllegalStateException", () -> x.search(0));
        x.truncate(0);
        Checks.feed(x, "box b;");
        x.load();
        Checks.due("errorCode behind load()", 0, x::errorCode);
        Checks.due("errorPosition behind load()", -1, x::errorPosition);
    }

    private static void find() {
        MailSessions x = Checks.loaded("box inbox;box a;box abcdef;session ann;session inbox;session a;session bobbob;");
        found(x, "inbox", 0, 1);
        found(x, "a", 1, 2);
        found(x, "abcdef", 2, -1);
        found(x, "bobbob", -1, 3);
        found(x, "ann", -1, 0);
        found(x, "", -1, -1);
        found(x, "a ", -1, -1);
        found(x, " a", -1, -1);
        found(x, "\u0000a", -1, -1);
        found(x, "a\u0000", -1, -1);
        found(x, "inbo", -1, -1);
        found(x, "inboxx", -1, -1);
        found(x, "abcdefg", -1, -1);
        found(x, "abcdefabcdef", -1, -1);
        found(x, "bobbobb", -1, -1);
        found(x, "ANN", -1, -1);
        found(x, "a;", -1, -1);
        found(new MailSessions(), "inbox", -1, -1);
        found(new MailSessions(), "", -1, -1);
        Checks.due("finding leaves the error", 0, x::errorCode);
        Checks.due("and can't be undone", 1, x::undoCount);
    }

    private static void found(MailSessions x, String name, int box, int session) {
        Checks.feed(x, name);
        Checks.due("findBox of " + name, box, x::findBox);
        Checks.due("input behind findBox of " + name, 0, () -> Checks.inputLength(x));
        Checks.feed(x, name);
        Checks.due("findSession of " + name, session, x::findSession);
        Checks.due("input behind findSession of " + name, 0, () -> Checks.inputLength(x));
    }
}
