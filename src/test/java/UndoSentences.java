/** Section 5 of ../shared/DOC.md and its section on exceptions: a test for each sentence that names a boundary case. */
final class UndoSentences {
    private static final Sentences FIVE = Sentences.of("Section 5");
    private static final Sentences THROWN = Sentences.of("EXCEPTIONS");

    private UndoSentences() {
    }

    static void all() {
        whatCanBeUndone();
        theLastSix();
        whatIsRestored();
        kinds();
        whichOne();
        nothingChanges();
        aheadOfLoad();
        notices();
        questions();
        others();
    }

    private static int loads(MailSessions x, String text) {
        x.truncate(0);
        Checks.feed(x, text);
        return x.load();
    }

    private static void undone(String what, Checks.Act act) {
        MailSessions x = new MailSessions();
        x.setLimit(6);
        loads(x, "box a;box b;message a size 1 deleted;message a size 2;session s a;session t a;session u;");
        x.startIdle(1);
        x.keep(0);
        String before = Checks.kept(x);
        act.on(x);
        Checks.due(what, 4, x::undoCount);
        Checks.due("undo of " + what, 3, x::undo);
        Checks.due("behind it", before, () -> Checks.kept(x));
    }

    private static void notUndone(String what, Checks.Act act) {
        MailSessions x = new MailSessions();
        x.setLimit(6);
        loads(x, "box a;box b;message a size 1 deleted;message a size 2;session s a;session t a;session u;");
        act.on(x);
        Checks.due(what, 2, x::undoCount);
    }

    private static void whatCanBeUndone() {
        FIVE.namesNone("5. UNDO.");
        FIVE.holds("Each successful load(), each command that is not refused and has no parse error, deliver(), setLimit() and "
                + "restore() that does not throw can be undone;", () -> {
                    undone("load", x -> loads(x, "box c;"));
                    undone("select", x -> x.select(2, 0, false));
                    undone("noop, even of nothing", x -> x.noop(0));
                    undone("startIdle", x -> x.startIdle(0));
                    undone("stopIdle", x -> x.stopIdle(1));
                    undone("fetch", x -> x.fetch(0, 1, 2, false));
                    undone("store", x -> x.store(0, 1, 2, 0, 31, true));
                    undone("uidStore of none", x -> x.uidStore(0, 3, 9, 0, 31));
                    undone("search", x -> Checks.found(x, 0, "all"));
                    undone("expunge", x -> x.expunge(0));
                    undone("uidExpunge of none", x -> x.uidExpunge(0, 9, 1));
                    undone("copy", x -> x.copy(0, 1, 2, 1));
                    undone("move", x -> x.move(0, 1, 2, 0));
                    undone("close", x -> x.close(0));
                    undone("deliver", x -> x.deliver(1, 9999, 31));
                    undone("setLimit to what it is", x -> x.setLimit(30));
                    undone("restore", x -> x.restore(0));
                    notUndone("a load with a parse error", x -> loads(x, "box a"));
                    notUndone("a search with a parse error", x -> Checks.found(x, 0, "all or"));
                    notUndone("a refused command", x -> Checks.dueState("noop", () -> x.noop(2)));
                    notUndone("a deliver that throws", x -> Checks.dueArgument("deliver", () -> x.deliver(0, 0, 0)));
                    notUndone("a setLimit that throws", x -> Checks.dueArgument("setLimit", () -> x.setLimit(0)));
                    notUndone("a restore that throws", x -> Checks.dueState("restore", () -> x.restore(0)));
                    notUndone("a searchBox", x -> Checks.searched(x, 0, "all"));
                    notUndone("a keep", x -> x.keep(0));
                });
    }

    private static void theLastSix() {
        FIVE.holds("the last 6 are kept.", () -> {
            MailSessions x = new MailSessions();
            for (int limit = 1; limit <= 6; limit++) {
                x.setLimit(limit);
            }
            Checks.due("six", 6, x::undoCount);
            x.setLimit(7);
            Checks.due("no more", 6, x::undoCount);
            for (int left = 5; left >= 0; left--) {
                Checks.due("undo", left, x::undo);
                Checks.due("the limit then", left + 1, () -> x.property(2));
            }
            Checks.dueState("not the first", x::undo);
            MailSessions y = new MailSessions();
            for (int limit = 1; limit <= 20; limit++) {
                y.setLimit(limit);
            }
            y.undo();
            y.undo();
            y.setLimit(29);
            y.setLimit(28);
            y.setLimit(27);
            Checks.due("six behind undo() and more", 6, y::undoCount);
            int[] limits = {28, 29, 18, 17, 16, 15};
            for (int limit : limits) {
                y.undo();
                Checks.due("the limit then", limit, () -> y.property(2));
            }
            Checks.dueState("not the others", y::undo);
            MailSessions z = new MailSessions();
            for (int times = 0; times < 7; times++) {
                loads(z, "limit " + (times + 1) + ";");
            }
            Checks.due("six loads", 6, z::undoCount);
        });
    }

    private static void whatIsRestored() {
        FIVE.holds("undo() restores everything except the two buffers, the parse error, the notices of the latest act and "
                + "the two slots.", () -> {
                    MailSessions x = Scenes.busy();
                    String before = Checks.kept(x);
                    x.keep(1);
                    x.move(0, 1, 2, 1);
                    Checks.searched(x, 0, " )");
                    x.truncate(0);
                    Checks.feed(x, "box");
                    int length = x.writeNotices();
                    String output = Checks.output(x, length);
                    x.keep(0);
                    x.undo();
                    Checks.due("everything", before, () -> Checks.kept(x));
                    Checks.due("but the input", 3, () -> Checks.inputLength(x));
                    Checks.due("the output", output, () -> Checks.output(x, length));
                    Checks.due("the parse error", 9, x::errorPosition);
                    Checks.due("the notices, which it has none of", 0, () -> x.property(4));
                    x.restore(0);
                    Checks.due("and the slot that was kept behind the call", 4, () -> x.box(1, 0));
                    x.undo();
                    x.restore(1);
                    Checks.due("and the other", before, () -> Checks.kept(x));
                });
    }

    private static void kinds() {
        THROWN.namesNone("EXCEPTIONS.");
        THROWN.holds("A box, session, number, message or slot that does not exist causes an IndexOutOfBoundsException;", () -> {
            Checks.dueIndex("a box", () -> Scenes.busy().box(2, 0));
            Checks.dueIndex("a session", () -> Scenes.busy().session(4, 0));
            Checks.dueIndex("a number", () -> Scenes.busy().entry(0, 5, 0));
            Checks.dueIndex("a number of a session without a box", () -> Scenes.busy().entry(3, 1, 0));
            Checks.dueIndex("a message", () -> Scenes.busy().message(0, 4, 0));
            Checks.dueIndex("a message of an empty box", () -> Scenes.full().message(1, 0, 0));
            Checks.dueIndex("a slot", () -> Scenes.busy().keep(2));
        });
        THROWN.holds("another value that is out of range causes an IllegalArgumentException;", () -> {
            Checks.dueArgument("a length", () -> {
                MailSessions x = Scenes.busy();
                x.truncate(9);
                return x;
            });
            Checks.dueArgument("what", () -> Scenes.busy().property(5));
            Checks.dueArgument("a range", () -> Scenes.busy().fetch(0, 2, 1, true));
            Checks.dueArgument("a mode", () -> Scenes.busy().store(0, 1, 1, 3, 0, true));
            Checks.dueArgument("flags", () -> Scenes.busy().uidStore(0, 1, 1, 0, 32));
            Checks.dueArgument("a size", () -> Scenes.busy().deliver(0, 10000, 0));
            Checks.dueArgument("a limit", () -> Scenes.busy().setLimit(31));
        });
        THROWN.holds("a refused command an IllegalStateException.", () -> {
            Checks.dueState("of a session without a box", () -> Scenes.busy().noop(3));
            Checks.dueState("of an idle one", () -> Scenes.busy().expunge(1));
            Checks.dueState("of one that only reads", () -> Scenes.busy().expunge(2));
            Checks.dueState("of one that is not idle", () -> Scenes.busy().stopIdle(0));
        });
    }

    private static void whichOne() {
        THROWN.holds("If several exceptions apply, the one that is named first in the method's throws clause is thrown.", () -> {
            for (int none : new int[] {-1, 4, Integer.MIN_VALUE, Integer.MAX_VALUE}) {
                Checks.refused(Checks.INDEX, "box", Scenes::busy, x -> x.box(none, 6));
                Checks.refused(Checks.INDEX, "message of no box", Scenes::busy, x -> x.message(none, 0, 3));
                Checks.refused(Checks.INDEX, "no message", Scenes::busy, x -> x.message(0, none, 3));
                Checks.refused(Checks.INDEX, "session", Scenes::busy, x -> x.session(none, 7));
                Checks.refused(Checks.INDEX, "entry of no session", Scenes::busy, x -> x.entry(none, 1, 5));
                Checks.refused(Checks.INDEX, "account", Scenes::busy, x -> x.account(none, 5));
                Checks.refused(Checks.ARGUMENT, "no notice", Scenes::busy, x -> x.notice(none, 4));
                Checks.refused(Checks.INDEX, "select of no session", Scenes::busy, x -> x.select(none, 0, true));
                Checks.refused(Checks.INDEX, "select of no box while idle", Scenes::busy, x -> x.select(1, none, true));
                Checks.refused(Checks.INDEX, "deliver to no box", Scenes::full, x -> x.deliver(none, 0, 32));
            }
            for (int none : new int[] {-1, 0, 5, Integer.MIN_VALUE, Integer.MAX_VALUE}) {
                Checks.refused(Checks.INDEX, "no entry", Scenes::busy, x -> x.entry(0, none, 5));
                Checks.refused(Checks.INDEX, "fetch from", Scenes::busy, x -> x.fetch(1, none, 1, true));
                Checks.refused(Checks.INDEX, "fetch to", Scenes::busy, x -> x.fetch(1, 4, none, true));
                Checks.refused(Checks.INDEX, "store from", Scenes::busy, x -> x.store(2, none, 1, 3, 32, true));
                Checks.refused(Checks.INDEX, "store to", Scenes::busy, x -> x.store(2, 4, none, -1, -1, true));
                Checks.refused(Checks.INDEX, "copy from", Scenes::busy, x -> x.copy(1, none, 1, 0));
                Checks.refused(Checks.INDEX, "copy to", Scenes::busy, x -> x.copy(1, 4, none, 0));
                Checks.refused(Checks.INDEX, "move from", Scenes::busy, x -> x.move(2, none, 1, 0));
                Checks.refused(Checks.INDEX, "move to", Scenes::busy, x -> x.move(2, 4, none, 0));
            }
            Checks.refused(Checks.INDEX, "fetch without a box", Scenes::busy, x -> x.fetch(3, 2, 1, true));
            Checks.refused(Checks.INDEX, "store without a box", Scenes::busy, x -> x.store(3, 2, 1, 3, 0, true));
            Checks.refused(Checks.INDEX, "copy without a box", Scenes::busy, x -> x.copy(3, 1, 1, 1));
            Checks.refused(Checks.INDEX, "move without a box", Scenes::busy, x -> x.move(3, 1, 1, 1));
            Checks.refused(Checks.INDEX, "copy into no box", Scenes::busy, x -> x.copy(1, 2, 1, 2));
            Checks.refused(Checks.INDEX, "move into no box", Scenes::busy, x -> x.move(2, 2, 1, -1));
            Checks.refused(Checks.INDEX, "uidStore", Scenes::busy, x -> x.uidStore(4, 1, 1, 3, 32));
            Checks.refused(Checks.ARGUMENT, "fetch while idle", Scenes::busy, x -> x.fetch(1, 2, 1, true));
            Checks.refused(Checks.ARGUMENT, "store while idle", Scenes::busy, x -> x.store(1, 2, 1, 0, 0, true));
            Checks.refused(Checks.ARGUMENT, "store only reading", Scenes::busy, x -> x.store(2, 1, 1, 0, 32, true));
            Checks.refused(Checks.ARGUMENT, "uidStore while idle", Scenes::busy, x -> x.uidStore(1, 1, 1, -1, 0));
            Checks.refused(Checks.ARGUMENT, "uidStore without a box", Scenes::busy, x -> x.uidStore(3, 1, 1, 0, 32));
            Checks.refused(Checks.ARGUMENT, "copy while idle", Scenes::busy, x -> x.copy(1, 2, 1, 1));
            Checks.refused(Checks.ARGUMENT, "copy without room", Scenes::full, x -> x.copy(0, 30, 29, 0));
            Checks.refused(Checks.ARGUMENT, "move only reading", Scenes::busy, x -> x.move(2, 2, 1, 1));
            Checks.refused(Checks.ARGUMENT, "move without room", Scenes::full, x -> x.move(0, 2, 1, 0));
            Checks.refused(Checks.ARGUMENT, "deliver size 0 without room", Scenes::full, x -> x.deliver(0, 0, 0));
            Checks.refused(Checks.ARGUMENT, "deliver flags 32 without room", Scenes::full, x -> x.deliver(0, 1, 32));
            Checks.refused(Checks.INDEX, "restore of slot 2", Scenes::busy, x -> x.restore(2));
        });
    }

    private static void nothingChanges() {
        THROWN.holds("A call that throws changes nothing.", () -> {
            Checks.refused(Checks.STATE, "append", () -> {
                MailSessions x = Scenes.busy();
                Checks.feed(x, " ".repeat(673));
                return x;
            }, x -> x.append(0, 0, 0, 0, 0));
            Checks.refused(Checks.ARGUMENT, "truncate", Scenes::busy, x -> {
                x.truncate(9);
                return x;
            });
            Checks.refused(Checks.INDEX, "searchBox", Scenes::busy, x -> x.searchBox(2));
            Checks.refused(Checks.STATE, "search", Scenes::busy, x -> x.search(3));
            Checks.refused(Checks.STATE, "copy without room", Scenes::busy, x -> x.copy(0, 1, 2, 0));
            Checks.refused(Checks.STATE, "move without room", Scenes::busy, x -> x.move(0, 1, 4, 1));
            Checks.refused(Checks.STATE, "deliver without room", Scenes::full, x -> x.deliver(0, 1, 0));
            Checks.refused(Checks.ARGUMENT, "setLimit", Scenes::busy, x -> x.setLimit(0));
            Checks.refused(Checks.INDEX, "keep", Scenes::busy, x -> x.keep(-1));
            Checks.refused(Checks.STATE, "restore", Scenes::busy, x -> x.restore(1));
            Checks.refused(Checks.STATE, "undo", Scenes::fresh, x -> x.undo());
            Checks.refused(Checks.INDEX, "writeBox", Scenes::busy, x -> x.writeBox(2));
            Checks.refused(Checks.INDEX, "writeView", Scenes::busy, x -> x.writeView(4));
            Checks.refused(Checks.INDEX, "outputByte", Scenes::busy, x -> x.outputByte(999));
        });
    }

    private static void aheadOfLoad() {
        THROWN.holds("Before the first successful load() there are no boxes and sessions, and the limit is 30.", () -> {
            MailSessions x = new MailSessions();
            for (int times = 0; times < 2; times++) {
                Checks.due("boxes", 0, () -> x.property(0));
                Checks.due("sessions", 0, () -> x.property(1));
                Checks.due("the limit", 30, () -> x.property(2));
                Checks.dueIndex("box 0", () -> x.box(0, 0));
                Checks.dueIndex("session 0", () -> x.session(0, 0));
                Checks.due("stale", 0, x::stale);
                loads(x, "limit 7;box a;session s a;box");
            }
            Checks.dueIndex("deliver", () -> x.deliver(0, 1, 0));
            Checks.dueIndex("select", () -> x.select(0, 0, false));
            Checks.dueIndex("noop", () -> x.noop(0));
            Checks.dueIndex("writeBox", () -> x.writeBox(0));
            Checks.dueIndex("writeView", () -> x.writeView(0));
            Checks.due("the limit may be set", 30, () -> x.setLimit(7));
        });
    }

    private static void notices() {
        THROWN.holds("The notices of the latest act are those that commands, deliver() and the telling behind them made;", () -> {
            MailSessions x = Scenes.busy();
            Checks.due("of a command and the telling behind it", "0=1:r 1=1:r", () -> Checks.notices(x));
            x.deliver(0, 1, 0);
            Checks.due("of deliver()", "1+5", () -> Checks.notices(x));
            x.noop(0);
            Checks.due("of the latest one alone", "0+5", () -> Checks.notices(x));
            x.noop(0);
            Checks.due("none", "", () -> Checks.notices(x));
            Checks.due("none of a new object", 0, () -> new MailSessions().property(4));
        });
        THROWN.holds("load(), setLimit(), restore() and undo() have none;", () -> {
            MailSessions x = Scenes.busy();
            loads(x, "box a;");
            Checks.due("load()", 0, () -> x.property(4));
            MailSessions y = Scenes.busy();
            y.setLimit(3);
            Checks.due("setLimit()", 0, () -> y.property(4));
            MailSessions z = Scenes.busy();
            z.restore(0);
            Checks.due("restore()", 0, () -> z.property(4));
            MailSessions u = Scenes.busy();
            u.undo();
            Checks.due("undo()", 0, () -> u.property(4));
            Checks.due("and write none", 0, u::writeNotices);
        });
        THROWN.holds("a search() with a parse error leaves them as they were.", () -> {
            MailSessions x = Scenes.busy();
            x.truncate(0);
            Checks.due("search", -4L, () -> Checks.found(x, 2, "all )"));
            Checks.due("the notices", "0=1:r 1=1:r", () -> Checks.notices(x));
            MailSessions y = Scenes.busy();
            Checks.due("one without", 26L, () -> Checks.found(y, 0, " "));
            Checks.due("has its own", "", () -> Checks.notices(y));
        });
    }

    private static void questions() {
        THROWN.holds("Methods that ask what would be do not change anything.", () -> {
            for (Checks.Scene scene : new Checks.Scene[] {Scenes::busy, Scenes::little}) {
                Checks.unchanged("numberThen", scene, x -> x.numberThen(2, 1));
                Checks.unchanged("pending", scene, x -> x.pending(2));
                Checks.unchanged("isCurrent", scene, x -> x.isCurrent(2));
                Checks.unchanged("stale", scene, x -> x.stale());
                for (int what = 0; what <= 6; what++) {
                    int asked = what;
                    Checks.unchanged("session", scene, x -> x.session(2, asked));
                }
            }
        });
    }

    /** What no sentence says of a call, it does not do: each call leaves the parts that it does not speak of. */
    private static void others() {
        Sentences.of("Not promised").holds("Nothing is promised beyond the answers and state changes described above, and "
                + "nothing about an object after its 512th call.", () -> {
                    for (Checks.Scene scene : new Checks.Scene[] {Scenes::busy, Scenes::little}) {
                        asking(scene);
                        acting(scene);
                        reading(scene);
                    }
                });
    }

    private static void asking(Checks.Scene scene) {
        Checks.unchanged("errorCode", scene, x -> x.errorCode());
        Checks.unchanged("errorPosition", scene, x -> x.errorPosition());
        for (int what = 0; what <= 2; what++) {
            int asked = what;
            Checks.unchanged("property", scene, x -> x.property(asked));
            Checks.unchanged("property, the other ones", scene, x -> x.property(asked + 2));
            Checks.unchanged("box", scene, x -> x.box(0, asked));
            Checks.unchanged("box, the other ones", scene, x -> x.box(0, asked + 3));
            Checks.unchanged("message", scene, x -> x.message(0, 0, asked));
            Checks.unchanged("entry", scene, x -> x.entry(2, 1, asked));
            Checks.unchanged("entry, the other ones", scene, x -> x.entry(2, 1, asked + 2));
            Checks.unchanged("account", scene, x -> x.account(2, asked));
            Checks.unchanged("account, the other ones", scene, x -> x.account(2, asked + 2));
            Checks.unchanged("notice", scene, x -> x.notice(0, asked));
            Checks.unchanged("notice, the other one", scene, x -> x.notice(0, 3));
        }
        Checks.unchanged("indexOf", scene, x -> x.indexOf(0, 1));
        Checks.unchanged("numberOf", scene, x -> x.numberOf(2, 1));
        Checks.unchanged("firstUnseen", scene, x -> x.firstUnseen(2));
        Checks.unchanged("largest", scene, x -> x.largest(2));
        Checks.unchanged("common", scene, x -> x.common(0, 2));
        Checks.unchanged("holders", scene, x -> x.holders(0, 1));
        Checks.unchanged("unseen", scene, x -> x.unseen(0));
        Checks.unchanged("mean", scene, x -> x.mean(0));
        Checks.unchanged("undoCount", scene, x -> x.undoCount());
        Checks.unchanged("outputByte", scene, x -> x.outputByte(0));
    }

    private static void act(String what, Checks.Scene scene, Checks.Act act) {
        Checks.leaves(what, scene, act, Checks.Part.READING, Checks.Part.OUTPUT, Checks.Part.SLOTS, Checks.Part.LIMIT);
    }

    private static void acting(Checks.Scene scene) {
        act("select", scene, x -> x.select(0, 1, true));
        act("noop", scene, x -> x.noop(2));
        act("startIdle", scene, x -> x.startIdle(2));
        act("stopIdle", scene, x -> x.stopIdle(1));
        act("fetch", scene, x -> x.fetch(0, 1, 1, false));
        act("store", scene, x -> x.store(0, 1, 1, 0, 9, true));
        act("uidStore", scene, x -> x.uidStore(0, 1, 9, 0, 9));
        act("expunge", scene, x -> x.expunge(0));
        act("uidExpunge", scene, x -> x.uidExpunge(0, 1, 9));
        act("copy", scene, x -> x.copy(0, 1, 1, 1));
        act("move", scene, x -> x.move(0, 1, 1, 1));
        act("close", scene, x -> x.close(0));
        act("deliver", scene, x -> x.deliver(0, 1, 0));
        Checks.Part[] buffers = {Checks.Part.READING, Checks.Part.OUTPUT, Checks.Part.SLOTS};
        Checks.leaves("setLimit", scene, x -> x.setLimit(1), buffers);
        Checks.leaves("restore", scene, x -> x.restore(0), buffers);
        Checks.leaves("undo", scene, x -> x.undo(), buffers);
        Checks.Part[] none = {Checks.Part.NOTICES, Checks.Part.READING, Checks.Part.UNDO_COUNT, Checks.Part.KEPT,
            Checks.Part.INPUT, Checks.Part.PAST};
        Checks.leaves("keep", scene, x -> x.keep(1), none);
        Checks.leaves("keep", scene, x -> x.keep(1), Checks.Part.OUTPUT);
        Checks.leaves("writeBox", scene, x -> x.writeBox(0), none);
        Checks.leaves("writeView", scene, x -> x.writeView(0), none);
        Checks.leaves("writeNotices", scene, x -> x.writeNotices(), none);
        Checks.leaves("writeBox", scene, x -> x.writeBox(0), Checks.Part.SLOTS);
        Checks.leaves("writeView", scene, x -> x.writeView(0), Checks.Part.SLOTS);
        Checks.leaves("writeNotices", scene, x -> x.writeNotices(), Checks.Part.SLOTS);
    }

    private static void reading(Checks.Scene scene) {
        Checks.Part[] none = {Checks.Part.NOTICES, Checks.Part.UNDO_COUNT, Checks.Part.KEPT, Checks.Part.OUTPUT,
            Checks.Part.SLOTS, Checks.Part.PAST};
        Checks.leaves("append", scene, x -> x.append(1, 2, 3, 4, 5), none);
        Checks.leaves("truncate", scene, x -> x.truncate(1), none);
        Checks.leaves("findBox", scene, x -> x.findBox(), none);
        Checks.leaves("findSession", scene, x -> x.findSession(), none);
        Checks.leaves("searchBox", scene, x -> x.searchBox(0), none);
        Checks.leaves("searchBox with a parse error", scene, x -> Checks.searched(x, 0, "?"), none);
        Checks.leaves("load with a parse error", scene, x -> x.load(), none);
        Checks.leaves("search with a parse error", scene, x -> Checks.found(x, 0, "?"), none);
        Checks.leaves("search", scene, x -> x.search(0), Checks.Part.OUTPUT, Checks.Part.SLOTS, Checks.Part.LIMIT);
        Checks.leaves("load", scene, x -> loads(x, "box a;"), Checks.Part.OUTPUT, Checks.Part.SLOTS);
        Checks.Act[] unread = {x -> x.append(1, 2, 3, 4, 5), x -> x.truncate(0), x -> x.findBox(), x -> x.findSession()};
        for (Checks.Act act : unread) {
            MailSessions x = scene.make();
            int code = x.errorCode();
            int position = x.errorPosition();
            act.on(x);
            Checks.due("the code", code, x::errorCode);
            Checks.due("the position", position, x::errorPosition);
        }
    }
}
