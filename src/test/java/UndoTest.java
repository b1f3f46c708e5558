/** Promises 44 to 47 and section 5: undo(), and the two slots. */
public final class UndoTest {
    private static final String TEXT = "limit 20;box a;box b;message a size 10;message a size 20 deleted;"
            + "message b size 30 deleted;session s a;session t a;session u reads b;session v;";

    private interface Act {
        void on(MailSessions x);
    }

    public static void main(String[] args) {
        eachActIsUndone();
        whatCannotBeUndone();
        sixAreKept();
        undoOfLoad();
        undoLeaves();
        keep();
        restore();
        slotsThrow();
        Checks.end();
    }

    private static void eachActIsUndone() {
        undone("select", x -> x.select(3, 1, true));
        undone("noop", x -> x.noop(0));
        undone("startIdle", x -> x.startIdle(0));
        undone("fetch", x -> x.fetch(0, 1, 1, false));
        undone("fetch with peek", x -> x.fetch(0, 1, 2, true));
        undone("store", x -> x.store(0, 1, 1, 0, 31, true));
        undone("uidStore", x -> x.uidStore(0, 1, 9, 0, 31));
        undone("search", x -> {
            Checks.feed(x, "all");
            x.search(1);
        });
        undone("expunge", x -> x.expunge(0));
        undone("uidExpunge", x -> x.uidExpunge(0, 1, 9));
        undone("copy", x -> x.copy(0, 1, 1, 1));
        undone("move", x -> x.move(0, 1, 1, 1));
        undone("close", x -> x.close(0));
        undone("deliver", x -> x.deliver(1, 5, 5));
        undone("setLimit", x -> x.setLimit(3));
        undone("setLimit of the same", x -> x.setLimit(20));
        undone("load", x -> {
            Checks.feed(x, "box z;session q z;message z size 3;");
            x.load();
        });
        undone("restore", x -> x.restore(0));
        MailSessions x = Checks.loaded(TEXT);
        x.startIdle(0);
        x.stopIdle(0);
        Checks.due("undo of stopIdle", 2, x::undo);
        Checks.due("idle again", 1, () -> x.session(0, 2));
    }

    /** The act comes behind others, so that views lag behind the boxes, and has no notices behind undo(). */
    private static void undone(String what, Act act) {
        MailSessions x = Checks.loaded(TEXT);
        x.keep(0);
        x.expunge(1);
        x.uidStore(1, 1, 1, 1, 4);
        x.deliver(0, 9, 1);
        String before = Checks.everything(x);
        act.on(x);
        Checks.due("undoCount behind " + what, 5, x::undoCount);
        Checks.due("undo of " + what, 4, x::undo);
        Checks.due("all as it was before " + what, before, () -> Checks.everything(x));
    }

    private static void whatCannotBeUndone() {
        MailSessions x = Checks.loaded(TEXT);
        x.keep(1);
        x.writeBox(0);
        x.writeView(0);
        x.writeNotices();
        Checks.feed(x, "all");
        x.searchBox(0);
        Checks.feed(x, "a");
        x.findBox();
        Checks.feed(x, "box");
        x.load();
        Checks.feed(x, "(");
        x.search(0);
        x.truncate(0);
        Checks.dueState("a refused command", () -> x.noop(3));
        Checks.due("undoCount", 1, x::undoCount);
        Checks.due("undo", 0, x::undo);
        Checks.due("boxes", 0, () -> x.property(0));
        Checks.dueUnchanged(x, "undo of nothing", "IllegalStateException", x::undo);
        Checks.dueState("undo of a new object", () -> new MailSessions().undo());
    }

    private static void sixAreKept() {
        MailSessions x = new MailSessions();
        for (int limit = 1; limit <= 9; limit++) {
            int least = limit < 6 ? limit : 6;
            x.setLimit(limit);
            Checks.due("undoCount behind " + limit, least, x::undoCount);
        }
        for (int left = 5; left >= 0; left--) {
            int stays = left;
            Checks.due("undo", left, x::undo);
            Checks.due("the limit then", 3 + left, () -> x.property(2));
            Checks.due("undoCount then", stays, x::undoCount);
        }
        Checks.dueState("undo beyond six", x::undo);
        for (int limit = 11; limit <= 14; limit++) {
            x.setLimit(limit);
        }
        x.undo();
        x.setLimit(20);
        Checks.due("undo behind new acts", 3, x::undo);
        Checks.due("the limit is that ahead of them", 13, () -> x.property(2));
        x.undo();
        Checks.due("and so on", 12, () -> x.property(2));
    }

    private static void undoOfLoad() {
        MailSessions x = Checks.loaded(TEXT);
        Checks.feed(x, "box inbox;session z;");
        x.load();
        x.undo();
        Checks.feed(x, "b");
        Checks.due("names are back", 1, x::findBox);
        Checks.feed(x, "inbox");
        Checks.due("others are gone", -1, x::findBox);
        Checks.feed(x, "v");
        Checks.due("sessions too", 3, x::findSession);
        x.undo();
        Checks.due("limit ahead of the first load", 30, () -> x.property(2));
        Checks.due("no boxes ahead of it", 0, () -> x.property(0));
    }

    private static void undoLeaves() {
        MailSessions x = Checks.loaded(TEXT);
        x.startIdle(1);
        x.fetch(0, 1, 1, false);
        Checks.due("notices", 2, () -> x.property(4));
        x.keep(0);
        int length = x.writeNotices();
        Checks.feed(x, "not (");
        x.searchBox(0);
        Checks.feed(x, "12345");
        x.undo();
        Checks.due("undo has no notices", 0, () -> x.property(4));
        Checks.due("undo leaves the input", 5, () -> Checks.inputLength(x));
        Checks.due("and the output", "0=1:s 1=1:s", () -> Checks.output(x, length));
        Checks.due("and the error", 5, x::errorPosition);
        Checks.due("the flags are back", 0, () -> x.message(0, 0, 2));
        Checks.due("the account too", 0, () -> x.account(0, 4));
        Checks.due("and the slot stays", 3, () -> x.restore(0));
        Checks.due("with what was kept", 1, () -> x.message(0, 0, 2));
    }

    private static void keep() {
        MailSessions x = Checks.loaded(TEXT);
        x.startIdle(1);
        x.deliver(0, 1, 0);
        String before = Checks.everything(x);
        Checks.due("keep", 4, () -> x.keep(0));
        Checks.due("changes nothing that is asked", before, () -> Checks.everything(x));
        x.deliver(0, 2, 0);
        Checks.due("keep in the other slot", 5, () -> x.keep(1));
        Checks.due("restore the one", 4, () -> x.restore(0));
        Checks.due("restore the other", 5, () -> x.restore(1));
        Checks.due("keep in place of it", 5, () -> x.keep(0));
        x.deliver(0, 3, 0);
        Checks.due("restore then", 5, () -> x.restore(0));
        Checks.due("keep of a new object", 0, () -> new MailSessions().keep(0));
    }

    private static void restore() {
        MailSessions x = Checks.loaded(TEXT);
        x.fetch(0, 1, 1, false);
        x.startIdle(0);
        x.deliver(0, 1, 0);
        x.keep(1);
        String before = Checks.kept(x);
        Checks.feed(x, "limit 2;box q;session w q;");
        x.load();
        x.deliver(0, 9, 0);
        Checks.feed(x, "??");
        Checks.due("restore", 4, () -> x.restore(1));
        Checks.due("makes everything as it was", before, () -> Checks.kept(x));
        Checks.due("restore leaves the input", 2, () -> Checks.inputLength(x));
        x.truncate(0);
        Checks.due("restore can be undone", 6, x::undoCount);
        Checks.due("restore has no notices", 0, () -> x.property(4));
        x.expunge(1);
        x.undo();
        x.undo();
        Checks.due("undo of restore", 1, () -> x.property(0));
        Checks.due("the slot keeps it", 4, () -> x.restore(1));
        Checks.due("idle as kept", 1, () -> x.session(0, 2));
        Checks.due("account as kept", 10, () -> x.account(0, 4));
        Checks.due("the box as kept", "1:10s 2:20d 3:1", () -> Checks.box(x, 0));
        x.expunge(1);
        Checks.due("what comes behind it does not reach the slot", 4, () -> x.restore(1));
    }

    private static void slotsThrow() {
        MailSessions x = Checks.loaded(TEXT);
        Checks.dueUnchanged(x, "keep(2)", "IndexOutOfBoundsException", () -> x.keep(2));
        Checks.dueUnchanged(x, "keep(-1)", "IndexOutOfBoundsException", () -> x.keep(-1));
        Checks.dueUnchanged(x, "restore(2)", "IndexOutOfBoundsException", () -> x.restore(2));
        Checks.dueUnchanged(x, "restore(-1)", "IndexOutOfBoundsException", () -> x.restore(-1));
        Checks.dueUnchanged(x, "restore of an empty slot", "IllegalStateException", () -> x.restore(0));
        x.keep(0);
        Checks.dueUnchanged(x, "restore of the other slot", "IllegalStateException", () -> x.restore(1));
    }
}
