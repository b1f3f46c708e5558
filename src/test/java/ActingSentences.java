/** Promises 29 to 51 of ../shared/DOC.md: a test for each sentence that names a boundary case. */
final class ActingSentences {
    private static final int MIN = Integer.MIN_VALUE;
    private static final int MAX = Integer.MAX_VALUE;
    private static final String SESSION = "`session`: number of a session";
    private static final String FROM = "`from`: number of an entry of its view";
    private static final String TO = "`to`: number of an entry, not less than from";
    private static final String FIRST = "`first`: any number";
    private static final String LAST = "`last`: any number";
    private static final String MODE = "`mode`: 0 they become the flags, 1 they are added, 2 they are taken away";
    private static final String FLAGS = "`flags`: a set of flags, 0 to 31";
    private static final String BOX = "`box`: number of a box";
    private static final String TARGET = "`box`: number of the box into which they come";
    private static final String SLOT = "`slot`: 0 or 1";
    private static final String NO_SESSION = "Throws `IndexOutOfBoundsException` if there is no such session";
    private static final String NO_ENTRY = "Throws `IndexOutOfBoundsException` if there is no such session or entry";
    private static final String NO_TARGET = "Throws `IndexOutOfBoundsException` if there is no such session, entry or box";
    private static final String NO_BOX = "Throws `IndexOutOfBoundsException` if there is no such box";
    private static final String NO_SLOT = "Throws `IndexOutOfBoundsException` if there is no such slot";
    private static final String NO_RANGE = "Throws `IllegalArgumentException` if to is less than from";
    private static final String REFUSED = "Throws `IllegalStateException` if the command is refused";
    private static final String MESSAGES = "Returns the number of messages in all boxes.";
    private static final String OUTPUT = "Returns the length of the output.";

    private ActingSentences() {
    }

    static void all() {
        select();
        noop();
        startIdle();
        stopIdle();
        fetch();
        store();
        uidStore();
        search();
        expunge();
        uidExpunge();
        copy();
        move();
        close();
        deliver();
        setLimit();
        keep();
        restore();
        undo();
        undoCount();
        writeBox();
        writeView();
        writeNotices();
        outputByte();
    }

    private static void select() {
        Sentences s = Sentences.of("Promise 29");
        s.holds("Selects a box, in place of that which was selected; nothing is removed.", () -> {
            MailSessions x = Checks.loaded("box a;box b;message a size 1 deleted;message b size 2;session s a;session t;");
            x.select(0, 1, false);
            Checks.due("the box", 1, () -> x.session(0, 0));
            Checks.due("the view", "1:1", () -> Checks.view(x, 0));
            Checks.due("nothing is removed", 1, () -> x.box(0, 0));
            Checks.due("no session has the other", 0, () -> x.box(0, 5));
            x.select(0, 1, true);
            Checks.due("the same again", 1, () -> x.box(1, 5));
            x.select(1, 0, true);
            Checks.due("in place of none", 0, () -> x.session(1, 0));
        });
        s.holds(SESSION, () -> Checks.due("the first and the last", "4 4", () -> {
            MailSessions x = Scenes.busy();
            return x.select(0, 0, false) + " " + x.select(3, 0, false);
        }));
        s.holds(BOX, () -> Checks.dueFrom(0, new Object[] {4, 2}, Scenes::busy, (x, box) -> x.select(3, box, false)));
        s.holds("`reads`: whether it only reads", () -> {
            MailSessions x = Scenes.busy();
            x.select(2, 0, false);
            Checks.due("no more", 0, () -> x.session(2, 1));
            Checks.due("it may remove", 0, () -> x.expunge(2));
            x.select(0, 0, true);
            Checks.due("from now on", 1, () -> x.session(0, 1));
            Checks.dueState("it may not remove", () -> x.expunge(0));
        });
        s.holds("Returns the number of entries.", () -> {
            Checks.due("none", 0, () -> Scenes.full().select(0, 1, false));
            Checks.due("thirty", 30, () -> Scenes.full().select(1, 0, false));
            Checks.due("no more of those that are gone", 30, () -> Scenes.wide(60).select(0, 0, false));
        });
        s.holds("Throws `IndexOutOfBoundsException` if there is no such session or box", () -> {
            Checks.refusedBeside(0, 3, Checks.INDEX, Scenes::busy, (x, session) -> x.select(session, 0, false));
            Checks.refusedBeside(0, 1, Checks.INDEX, Scenes::busy, (x, box) -> x.select(0, box, true));
            Checks.refused(Checks.INDEX, "of a new object", Scenes::fresh, x -> x.select(0, 0, true));
        });
        s.holds(REFUSED, () -> Checks.refused(Checks.STATE, "while idle", Scenes::busy, x -> x.select(1, 1, false)));
    }

    private static void noop() {
        Sentences s = Sentences.of("Promise 30");
        s.holds(SESSION, () -> Checks.dueFrom(0, new Object[] {0, "throws." + Checks.STATE, 3, "throws." + Checks.STATE},
                Scenes::busy, MailSessions::noop));
        s.holds("Returns how many notices its session was told.", () -> {
            Checks.due("none", 0, () -> Scenes.busy().noop(0));
            Checks.due("none of an empty box", 0, () -> Scenes.full().noop(1));
            Checks.due("one for thirty messages", 1, () -> Scenes.wide(60).noop(1));
            MailSessions x = Scenes.wide(60);
            x.noop(1);
            x.uidStore(1, 31, 60, 0, 8);
            Checks.due("thirty removals and thirty flags", 60, () -> x.noop(0));
            Checks.due("as many as there are", 60, () -> x.property(4));
            Checks.due("none then", 0, () -> x.noop(0));
        });
        s.holds(NO_SESSION, () -> Checks.refusedBeside(0, 3, Checks.INDEX, Scenes::busy, MailSessions::noop));
        s.holds(REFUSED, () -> {
            Checks.refused(Checks.STATE, "while idle", Scenes::busy, x -> x.noop(1));
            Checks.refused(Checks.STATE, "without a box", Scenes::busy, x -> x.noop(3));
        });
    }

    private static void startIdle() {
        Sentences s = Sentences.of("Promise 31");
        s.holds("The session is idle from now on.", () -> {
            MailSessions x = Scenes.busy();
            Checks.due("not yet", 0, () -> x.session(0, 2));
            x.startIdle(0);
            Checks.due("idle", 1, () -> x.session(0, 2));
            x.deliver(0, 1, 0);
            Checks.due("and told at once", "0+5 1+5", () -> Checks.notices(x));
            Checks.dueState("and refuses commands", () -> x.noop(0));
        });
        s.holds(SESSION, () -> Checks.dueFrom(0, new Object[] {0, "throws." + Checks.STATE, 3, "throws." + Checks.STATE},
                Scenes::busy, MailSessions::startIdle));
        s.holds("Returns how many notices it was told.", () -> {
            Checks.due("none", 0, () -> Scenes.busy().startIdle(0));
            Checks.due("three", 3, () -> Scenes.busy().startIdle(2));
            Checks.due("thirty", 30, () -> Scenes.wide(60).startIdle(0));
            MailSessions x = Scenes.busy();
            x.startIdle(2);
            Checks.due("each of them once", 3, () -> x.property(4));
        });
        s.holds(NO_SESSION, () -> Checks.refusedBeside(0, 3, Checks.INDEX, Scenes::busy, MailSessions::startIdle));
        s.holds(REFUSED, () -> {
            Checks.refused(Checks.STATE, "while idle", Scenes::busy, x -> x.startIdle(1));
            Checks.refused(Checks.STATE, "without a box", Scenes::busy, x -> x.startIdle(3));
        });
    }

    private static void stopIdle() {
        Sentences s = Sentences.of("Promise 32");
        s.holds("The session is idle no more.", () -> {
            MailSessions x = Scenes.busy();
            x.stopIdle(1);
            Checks.due("idle no more", 0, () -> x.session(1, 2));
            x.deliver(0, 1, 0);
            Checks.due("not told at once", "", () -> Checks.notices(x));
            Checks.due("takes commands", 1, () -> x.noop(1));
        });
        s.holds(SESSION, () -> {
            for (int session = 0; session < 4; session++) {
                int each = session;
                MailSessions x = Checks.loaded("box a;session p a;session q a;session r a;session s a;");
                x.startIdle(each);
                Checks.due("session " + session, 0, () -> x.stopIdle(each));
            }
        });
        s.holds("Returns how many notices it was told.", () -> {
            Checks.due("none", 0, () -> Scenes.busy().stopIdle(1));
            MailSessions x = Scenes.busy();
            x.deliver(0, 1, 0);
            Checks.due("it was told at once", 0, () -> x.stopIdle(1));
            Checks.due("no notices", 0, () -> x.property(4));
        });
        s.holds(NO_SESSION, () -> Checks.refusedBeside(0, 3, Checks.INDEX, Scenes::busy, MailSessions::stopIdle));
        s.holds(REFUSED, () -> {
            Checks.refused(Checks.STATE, "not idle", Scenes::busy, x -> x.stopIdle(0));
            Checks.refused(Checks.STATE, "only reading", Scenes::busy, x -> x.stopIdle(2));
            Checks.refused(Checks.STATE, "without a box", Scenes::busy, x -> x.stopIdle(3));
        });
    }

    private static void fetch() {
        Sentences s = Sentences.of("Promise 33");
        s.holds("Fetches messages. Without peek, and if the session does not only read, they get the flag seen.", () -> {
            MailSessions x = Checks.loaded("box a;message a size 1;message a size 2 draft;message a size 3;message a size 4 deleted;"
                    + "session s a;session t a;session u reads a;");
            x.fetch(2, 1, 4, false);
            Checks.due("it only reads", "1:1 2:2r 3:3 4:4d", () -> Checks.box(x, 0));
            x.fetch(0, 1, 4, true);
            Checks.due("peek", "1:1 2:2r 3:3 4:4d", () -> Checks.box(x, 0));
            x.fetch(2, 1, 4, true);
            Checks.due("both", "1:1 2:2r 3:3 4:4d", () -> Checks.box(x, 0));
            x.fetch(0, 2, 3, false);
            Checks.due("neither", "1:1 2:2sr 3:3s 4:4d", () -> Checks.box(x, 0));
            Checks.due("told of them", "0=2:sr 0=3:s", () -> Checks.notices(x));
            x.fetch(0, 2, 3, false);
            Checks.due("they have it already", "", () -> Checks.notices(x));
        });
        s.holds(SESSION, () -> Checks.dueFrom(0, new Object[] {10, "throws." + Checks.STATE, 10, "throws." + Checks.INDEX},
                Scenes::busy, (x, session) -> x.fetch(session, 1, 1, true)));
        s.holds(FROM, () -> {
            Checks.dueFrom(1, new Object[] {140, 130, 100, 60}, Scenes::busy, (x, from) -> x.fetch(0, from, 4, true));
            Checks.dueFrom(59, new Object[] {59, 30}, () -> Scenes.wide(60), (x, from) -> x.fetch(0, from, 60, true));
        });
        s.holds(TO, () -> {
            Checks.dueFrom(1, new Object[] {10, 40, 80, 140}, Scenes::busy, (x, to) -> x.fetch(0, 1, to, true));
            Checks.dueFrom(3, new Object[] {40, 100}, Scenes::busy, (x, to) -> x.fetch(0, 3, to, true));
            Checks.due("the 60th alone", 30, () -> Scenes.wide(60).fetch(0, 60, 60, true));
        });
        s.holds("`peek`: whether flags stay as they are", () -> {
            Checks.due("they stay", 16, () -> flagsBehind(true));
            Checks.due("they don't", 17, () -> flagsBehind(false));
        });
        s.holds("Returns the sum of the sizes of the messages of the range.", () -> {
            Checks.due("one", 10, () -> Scenes.busy().fetch(0, 1, 1, false));
            Checks.due("all", 140, () -> Scenes.busy().fetch(0, 1, 4, false));
            Checks.due("one that is gone", 0, () -> Scenes.busy().fetch(2, 2, 2, false));
            Checks.due("all but that", 80, () -> Scenes.busy().fetch(2, 1, 4, false));
            Checks.due("sixty, of which thirty are gone", 465, () -> Scenes.wide(60).fetch(0, 1, 60, false));
            Checks.due("30 of the greatest size", 299970, () -> {
                MailSessions x = Checks.loaded("box a;session s a;");
                for (int k = 0; k < 30; k++) {
                    x.deliver(0, 9999, 0);
                }
                x.noop(0);
                return x.fetch(0, 1, 30, false);
            });
        });
        s.holds(NO_ENTRY, () -> {
            Checks.refusedBeside(0, 3, Checks.INDEX, Scenes::busy, (x, session) -> x.fetch(session, 1, 1, false));
            Checks.refusedBeside(1, 4, Checks.INDEX, Scenes::busy, (x, from) -> x.fetch(0, from, 4, false));
            Checks.refusedBeside(1, 4, Checks.INDEX, Scenes::busy, (x, to) -> x.fetch(0, 1, to, false));
            Checks.refusedBeside(1, 60, Checks.INDEX, () -> Scenes.wide(60), (x, from) -> x.fetch(0, from, 60, false));
            Checks.refusedBeside(1, 60, Checks.INDEX, () -> Scenes.wide(60), (x, to) -> x.fetch(0, 1, to, false));
            Checks.refused(Checks.INDEX, "in an empty view", Scenes::full, x -> x.fetch(1, 1, 1, true));
            Checks.refused(Checks.INDEX, "0 to 0 in an empty view", Scenes::full, x -> x.fetch(1, 0, 0, true));
            Checks.refused(Checks.INDEX, "without a box", Scenes::busy, x -> x.fetch(3, 1, 1, true));
        });
        s.holds(NO_RANGE, () -> {
            Checks.refused(Checks.ARGUMENT, "by one", Scenes::busy, x -> x.fetch(0, 2, 1, false));
            Checks.refused(Checks.ARGUMENT, "by all", Scenes::busy, x -> x.fetch(0, 4, 1, false));
        });
        s.holds(REFUSED, () -> Checks.refused(Checks.STATE, "while idle", Scenes::busy, x -> x.fetch(1, 1, 4, false)));
    }

    private static int flagsBehind(boolean peek) {
        MailSessions x = Scenes.busy();
        x.fetch(0, 1, 1, peek);
        return x.message(0, 0, 2);
    }

    private static void store() {
        Sentences s = Sentences.of("Promise 34");
        s.holds("Sets flags of messages.", () -> {
            MailSessions x = Scenes.busy();
            x.store(0, 2, 3, 0, 31, false);
            Checks.due("of the range", "1:10r 3:30safdr 4:40safdr 5:60a", () -> Checks.box(x, 0));
            x.store(0, 1, 4, 0, 0, true);
            Checks.due("of all", "1:10 3:30 4:40 5:60", () -> Checks.box(x, 0));
        });
        s.holds(SESSION, () -> Checks.dueFrom(0, new Object[] {1, "throws." + Checks.STATE, "throws." + Checks.STATE,
            "throws." + Checks.INDEX}, Scenes::busy, (x, session) -> x.store(session, 1, 1, 0, 0, false)));
        s.holds(FROM, () -> {
            Checks.dueFrom(1, new Object[] {4, 3, 2, 1}, Scenes::busy, (x, from) -> x.store(0, from, 4, 0, 31, true));
            Checks.dueFrom(59, new Object[] {2, 1}, () -> Scenes.wide(60), (x, from) -> x.store(0, from, 60, 0, 31, true));
        });
        s.holds(TO, () -> {
            Checks.dueFrom(1, new Object[] {1, 2, 3, 4}, Scenes::busy, (x, to) -> x.store(0, 1, to, 0, 31, true));
            Checks.dueFrom(59, new Object[] {29, 30}, () -> Scenes.wide(60), (x, to) -> x.store(0, 1, to, 0, 31, true));
        });
        s.holds(MODE, () -> Checks.dueFrom(0, new Object[] {6, 22, 16}, Scenes::busy, (x, mode) -> {
            x.store(0, 1, 1, mode, 6, false);
            return x.message(0, 0, 2);
        }));
        s.holds(FLAGS, () -> {
            for (int flags = 0; flags <= 31; flags++) {
                int each = flags;
                MailSessions x = Scenes.busy();
                x.store(0, 2, 2, 0, flags, false);
                Checks.due("they become", each, () -> x.message(0, 1, 2));
                x.store(0, 4, 4, 1, flags, false);
                Checks.due("added to 2", 2 | each, () -> x.message(0, 3, 2));
                x.store(0, 2, 2, 0, 31, true);
                x.store(0, 2, 2, 2, flags, false);
                Checks.due("taken from 31", 31 - each, () -> x.message(0, 1, 2));
            }
        });
        s.holds("`silent`: whether the session counts as told of the flags behind it, for these messages, changed or not", () -> {
            Checks.due("loud", "0=1:a 1=1:a", () -> noticesOf(false));
            Checks.due("silent", "1=1:a", () -> noticesOf(true));
            MailSessions x = Checks.loaded("box a;message a size 1;message a size 2;message a size 3 deleted;session s a;session t a;");
            x.uidStore(0, 1, 3, 1, 4);
            x.uidExpunge(0, 3, 3);
            Checks.due("what another changed", 0, () -> x.store(1, 1, 1, 1, 4, true));
            Checks.due("not changed by it, told all the same; the others by notices", "1=2:f", () -> Checks.notices(x));
            Checks.due("one that is gone stays as it was told", "1:1f 2:2f 3:3d!", () -> {
                x.store(1, 1, 3, 1, 4, true);
                return Checks.view(x, 1);
            });
            x.store(0, 1, 1, 0, 1, false);
            Checks.due("no silence, and not changed", 0, () -> x.store(1, 1, 1, 0, 1, false));
            Checks.due("a notice", "1=1:s", () -> Checks.notices(x));
        });
        s.holds("Returns how many messages have other flags then.", () -> {
            Checks.due("none of one", 0, () -> Scenes.busy().store(0, 1, 1, 0, 16, false));
            Checks.due("none, as they have them", 0, () -> Scenes.busy().store(0, 4, 4, 1, 2, false));
            Checks.due("none, as they don't have them", 0, () -> Scenes.busy().store(0, 1, 4, 2, 8, false));
            Checks.due("three of four", 3, () -> Scenes.busy().store(0, 1, 4, 1, 4, true));
            Checks.due("the empty set", 0, () -> Scenes.busy().store(0, 1, 4, 1, 0, false));
            Checks.due("the empty set taken away", 0, () -> Scenes.busy().store(0, 1, 4, 2, 0, false));
            Checks.due("thirty of sixty, as thirty are gone", 30, () -> Scenes.wide(60).store(0, 1, 60, 0, 31, false));
        });
        s.holds(NO_ENTRY, () -> {
            Checks.refusedBeside(0, 3, Checks.INDEX, Scenes::busy, (x, session) -> x.store(session, 1, 1, 0, 0, false));
            Checks.refusedBeside(1, 4, Checks.INDEX, Scenes::busy, (x, from) -> x.store(0, from, 4, 0, 0, false));
            Checks.refusedBeside(1, 4, Checks.INDEX, Scenes::busy, (x, to) -> x.store(0, 1, to, 0, 0, true));
            Checks.refusedBeside(1, 60, Checks.INDEX, () -> Scenes.wide(60), (x, from) -> x.store(0, from, 60, 0, 0, true));
            Checks.refusedBeside(1, 60, Checks.INDEX, () -> Scenes.wide(60), (x, to) -> x.store(0, 1, to, 0, 0, true));
            Checks.refused(Checks.INDEX, "in an empty view", Scenes::full, x -> x.store(1, 1, 1, 0, 0, true));
            Checks.refused(Checks.INDEX, "without a box", Scenes::busy, x -> x.store(3, 1, 1, 0, 0, true));
        });
        s.holds("Throws `IllegalArgumentException` if to is less than from, or mode or flags is out of range", () -> {
            Checks.refused(Checks.ARGUMENT, "to", Scenes::busy, x -> x.store(0, 2, 1, 0, 0, false));
            Checks.refusedBeside(0, 2, Checks.ARGUMENT, Scenes::busy, (x, mode) -> x.store(0, 1, 4, mode, 0, false));
            Checks.refusedBeside(0, 31, Checks.ARGUMENT, Scenes::busy, (x, flags) -> x.store(0, 1, 4, 0, flags, false));
            Checks.refusedBeside(0, 31, Checks.ARGUMENT, Scenes::busy, (x, flags) -> x.store(0, 1, 4, 2, flags, true));
        });
        s.holds(REFUSED, () -> {
            Checks.refused(Checks.STATE, "while idle", Scenes::busy, x -> x.store(1, 1, 4, 0, 31, false));
            Checks.refused(Checks.STATE, "only reading", Scenes::busy, x -> x.store(2, 1, 4, 0, 31, true));
        });
    }

    private static String noticesOf(boolean silent) {
        MailSessions x = Scenes.busy();
        x.store(0, 1, 1, 0, 2, silent);
        return Checks.notices(x);
    }

    private static void uidStore() {
        Sentences s = Sentences.of("Promise 35");
        s.holds("Sets flags of the messages of the box of a session whose uid is from first to last, whether or not they have an entry.",
                () -> {
                    MailSessions x = Scenes.busy();
                    x.deliver(0, 70, 1);
                    x.uidStore(0, 4, 6, 0, 8);
                    Checks.due("the last has no entry", "1:10r 3:30s 4:40d 5:60d 6:70d", () -> Checks.box(x, 0));
                    Checks.due("it gets one", "0=3:d 0=4:d 0+5 1=3:d 1=4:d 1=5:d", () -> Checks.notices(x));
                    Checks.due("the other box stays", "1:50 2:70", () -> Checks.box(x, 1));
                    Checks.due("an empty view", 30, () -> {
                        MailSessions y = Scenes.wide(60);
                        return y.uidStore(1, 31, 60, 0, 31);
                    });
                    Checks.due("an empty box", 0, () -> Scenes.full().uidStore(1, 1, 30, 0, 31));
                });
        s.holds(SESSION, () -> Checks.dueFrom(0, new Object[] {4, "throws." + Checks.STATE, "throws." + Checks.STATE,
            "throws." + Checks.STATE}, Scenes::busy, (x, session) -> x.uidStore(session, 1, 5, 0, 31)));
        s.holds(FIRST, () -> {
            int[] firsts = {MIN, -1, 0, 1, 2, 3, 4, 5, 6, MAX};
            int[] due = {4, 4, 4, 4, 3, 3, 2, 1, 0, 0};
            for (int k = 0; k < firsts.length; k++) {
                int first = firsts[k];
                Checks.due("from " + first, due[k], () -> Scenes.busy().uidStore(0, first, 5, 0, 31));
                Checks.due("from " + first + " on", due[k], () -> Scenes.busy().uidStore(0, first, MAX, 0, 31));
            }
        });
        s.holds(LAST, () -> {
            int[] lasts = {MAX, 6, 5, 4, 3, 2, 1, 0, -1, MIN};
            int[] due = {4, 4, 4, 3, 2, 1, 1, 0, 0, 0};
            for (int k = 0; k < lasts.length; k++) {
                int last = lasts[k];
                Checks.due("to " + last, due[k], () -> Scenes.busy().uidStore(0, 1, last, 0, 31));
                Checks.due("up to " + last, due[k], () -> Scenes.busy().uidStore(0, MIN, last, 0, 31));
            }
            Checks.due("ahead of first", 0, () -> Scenes.busy().uidStore(0, 4, 3, 0, 31));
            Checks.due("far ahead of first", 0, () -> Scenes.busy().uidStore(0, MAX, MIN, 0, 31));
        });
        s.holds(MODE, () -> Checks.dueFrom(0, new Object[] {6, 22, 16}, Scenes::busy, (x, mode) -> {
            x.uidStore(0, 1, 1, mode, 6);
            return x.message(0, 0, 2);
        }));
        s.holds(FLAGS, () -> {
            for (int flags = 0; flags <= 31; flags++) {
                int each = flags;
                MailSessions x = Scenes.busy();
                x.uidStore(0, 3, 3, 0, flags);
                Checks.due("they become", each, () -> x.message(0, 1, 2));
                x.uidStore(0, 3, 3, 0, 31);
                x.uidStore(0, 3, 3, 2, flags);
                Checks.due("taken from 31", 31 - each, () -> x.message(0, 1, 2));
            }
        });
        s.holds("Returns how many messages have other flags then.", () -> {
            Checks.due("none", 0, () -> Scenes.busy().uidStore(0, 1, 1, 0, 16));
            Checks.due("three of four", 3, () -> Scenes.busy().uidStore(0, 1, 5, 1, 4));
            Checks.due("no uid there", 0, () -> Scenes.busy().uidStore(0, 2, 2, 0, 31));
            Checks.due("the empty set", 0, () -> Scenes.busy().uidStore(0, 1, 5, 1, 0));
            Checks.due("thirty", 30, () -> Scenes.full().uidStore(0, 1, 30, 0, 31));
        });
        s.holds(NO_SESSION, () -> Checks.refusedBeside(0, 3, Checks.INDEX, Scenes::busy,
                (x, session) -> x.uidStore(session, 1, 5, 0, 0)));
        s.holds("Throws `IllegalArgumentException` if mode or flags is out of range", () -> {
            Checks.refusedBeside(0, 2, Checks.ARGUMENT, Scenes::busy, (x, mode) -> x.uidStore(0, 1, 5, mode, 0));
            Checks.refusedBeside(0, 31, Checks.ARGUMENT, Scenes::busy, (x, flags) -> x.uidStore(0, 1, 5, 0, flags));
            Checks.refused(Checks.ARGUMENT, "where no message would change", Scenes::full, x -> x.uidStore(1, 2, 1, 3, 0));
        });
        s.holds(REFUSED, () -> {
            Checks.refused(Checks.STATE, "while idle", Scenes::busy, x -> x.uidStore(1, 1, 5, 0, 31));
            Checks.refused(Checks.STATE, "only reading", Scenes::busy, x -> x.uidStore(2, 1, 5, 0, 31));
            Checks.refused(Checks.STATE, "without a box", Scenes::busy, x -> x.uidStore(3, 1, 5, 0, 31));
        });
    }

    private static void search() {
        Sentences s = Sentences.of("Promise 36");
        s.holds("Searches the entries of a session that are not gone by a query (section 4).", () -> {
            Checks.due("not one that is gone", 18L, () -> Scenes.busy().search(2));
            Checks.due("nor one that has no entry", 0L, () -> Checks.found(Scenes.wide(60), 1, "all"));
            Checks.due("all but those that are gone", ((1L << 30) - 1) << 31, () -> Checks.found(Scenes.wide(60), 0, "all"));
            MailSessions x = Scenes.wide(60);
            x.noop(1);
            x.uidStore(1, 31, 60, 0, 8);
            x.expunge(1);
            Checks.due("all are gone", 0L, () -> Checks.found(x, 0, "all"));
        });
        s.holds("With a parse error nothing but the buffer and the parse error changes.", () -> {
            for (String query : new String[] {"", ")", "size < 10000", "((((((all))))))"}) {
                Checks.unchanged("search of " + query, () -> {
                    MailSessions x = Scenes.busy();
                    x.truncate(0);
                    Checks.searched(x, 1, query);
                    Checks.feed(x, "all");
                    return x;
                }, x -> {
                    x.truncate(0);
                    Checks.found(x, 2, query);
                    Checks.feed(x, "all");
                });
            }
        });
        s.holds(SESSION, () -> Checks.dueFrom(0, new Object[] {26L, "throws." + Checks.STATE, 18L, "throws." + Checks.STATE},
                Scenes::busy, MailSessions::search));
        s.holds("Returns the set of the numbers for which it holds, as a bit mask in which bit k stands for number k; "
                + "PARSE_ERROR if there is a parse error.", () -> {
                    Checks.due("none", 0L, () -> Checks.found(Scenes.full(), 0, "draft"));
                    Checks.due("number 1", 2L, () -> Checks.found(Scenes.full(), 0, "uid < 2"));
                    Checks.due("number 30", 1L << 30, () -> Checks.found(Scenes.full(), 0, "uid > 29"));
                    Checks.due("number 31", 1L << 31, () -> Checks.found(Scenes.wide(60), 0, "uid < 32"));
                    Checks.due("number 32", 1L << 32, () -> Checks.found(Scenes.wide(60), 0, "uid < 33 uid > 31"));
                    Checks.due("number 33", 1L << 33, () -> Checks.found(Scenes.wide(60), 0, "uid < 34 uid > 32"));
                    Checks.due("number 60", 1L << 60, () -> Checks.found(Scenes.wide(60), 0, "uid > 59"));
                    Checks.due("all of thirty", ((1L << 30) - 1) << 1, () -> Checks.found(Scenes.full(), 0, "all"));
                    Checks.due("an empty view", 0L, () -> Checks.found(Scenes.full(), 1, "not draft"));
                    Checks.due("a parse error", -4L, () -> Checks.found(Scenes.full(), 0, "all or"));
                    Checks.due("an empty query", -4L, () -> Scenes.full().search(1));
                });
        s.holds(NO_SESSION, () -> {
            Checks.refusedBeside(0, 3, Checks.INDEX, Scenes::busy, MailSessions::search);
            Checks.refused(Checks.INDEX, "of a new object", Scenes::fresh, x -> x.search(0));
        });
        s.holds(REFUSED, () -> {
            Checks.refused(Checks.STATE, "while idle", Scenes::busy, x -> x.search(1));
            Checks.refused(Checks.STATE, "without a box", Scenes::busy, x -> x.search(3));
            Checks.refused(Checks.STATE, "with a parse error", () -> {
                MailSessions x = Scenes.busy();
                Checks.feed(x, "))");
                return x;
            }, x -> x.search(1));
        });
    }

    private static void expunge() {
        Sentences s = Sentences.of("Promise 37");
        s.holds("Removes the messages of its box that have the flag deleted.", () -> {
            MailSessions x = Checks.loaded("box a;box b;message a size 1 deleted;message a size 2 seen answered flagged draft;"
                    + "message a size 3 deleted;message a size 4 seen answered flagged deleted draft;message b size 5 deleted;"
                    + "session s a;session t b;");
            x.deliver(0, 6, 8);
            Checks.due("with an entry or not", 4, () -> x.expunge(0));
            Checks.due("all others stay", "2:2safr", () -> Checks.box(x, 0));
            Checks.due("the other box too", 1, () -> x.box(1, 0));
            Checks.due("all of a box", 1, () -> x.expunge(1));
            Checks.due("none is left", "", () -> Checks.box(x, 1));
        });
        s.holds(SESSION, () -> Checks.dueFrom(0, new Object[] {0, "throws." + Checks.STATE, "throws." + Checks.STATE,
            "throws." + Checks.STATE}, Scenes::busy, MailSessions::expunge));
        s.holds("Returns how many were removed.", () -> {
            Checks.due("none", 0, () -> Scenes.full().expunge(0));
            Checks.due("none of an empty box", 0, () -> Scenes.full().expunge(1));
            MailSessions x = Scenes.full();
            x.uidStore(0, 1, 30, 0, 8);
            Checks.due("all thirty", 30, () -> x.expunge(0));
            Checks.due("none then", 0, () -> x.expunge(0));
        });
        s.holds(NO_SESSION, () -> Checks.refusedBeside(0, 3, Checks.INDEX, Scenes::busy, MailSessions::expunge));
        s.holds(REFUSED, () -> {
            Checks.refused(Checks.STATE, "while idle", ActingSentences::deleted, x -> x.expunge(1));
            Checks.refused(Checks.STATE, "only reading", ActingSentences::deleted, x -> x.expunge(2));
            Checks.refused(Checks.STATE, "without a box", ActingSentences::deleted, x -> x.expunge(3));
        });
    }

    /** As Scenes.busy(), but some messages have the flag deleted: what refuses must not remove them. */
    private static MailSessions deleted() {
        MailSessions x = Scenes.busy();
        x.store(0, 2, 3, 1, 8, false);
        return x;
    }

    private static void uidExpunge() {
        Sentences s = Sentences.of("Promise 38");
        s.holds("Removes the messages of its box that have the flag deleted and whose uid is from first to last.", () -> {
            MailSessions x = Checks.loaded("box a;box b;message a size 1 deleted;message a size 2 deleted;message a size 3;"
                    + "message a size 4 deleted;message a size 5 deleted;message b size 6 deleted;session s a;session t b;");
            x.uidExpunge(0, 2, 4);
            Checks.due("both ends count", "1:1d 3:3 5:5d", () -> Checks.box(x, 0));
            x.uidExpunge(0, 1, 1);
            Checks.due("one", "3:3 5:5d", () -> Checks.box(x, 0));
            x.deliver(0, 9, 8);
            x.uidExpunge(0, 6, 6);
            Checks.due("one without an entry", "3:3 5:5d", () -> Checks.box(x, 0));
            Checks.due("the other box stays", 1, () -> x.box(1, 0));
        });
        s.holds(SESSION, () -> Checks.dueFrom(0, new Object[] {2, "throws." + Checks.STATE, "throws." + Checks.STATE,
            "throws." + Checks.STATE}, ActingSentences::deleted, (x, session) -> x.uidExpunge(session, 1, 5)));
        s.holds(FIRST, () -> {
            int[] firsts = {MIN, -1, 0, 1, 3, 4, 5, MAX};
            int[] due = {2, 2, 2, 2, 2, 1, 0, 0};
            for (int k = 0; k < firsts.length; k++) {
                int first = firsts[k];
                Checks.due("from " + first, due[k], () -> deleted().uidExpunge(0, first, 5));
                Checks.due("from " + first + " on", due[k], () -> deleted().uidExpunge(0, first, MAX));
            }
        });
        s.holds(LAST, () -> {
            int[] lasts = {MAX, 5, 4, 3, 2, 0, -1, MIN};
            int[] due = {2, 2, 2, 1, 0, 0, 0, 0};
            for (int k = 0; k < lasts.length; k++) {
                int last = lasts[k];
                Checks.due("to " + last, due[k], () -> deleted().uidExpunge(0, 1, last));
                Checks.due("up to " + last, due[k], () -> deleted().uidExpunge(0, MIN, last));
            }
            Checks.due("ahead of first", 0, () -> deleted().uidExpunge(0, 4, 3));
            Checks.due("far ahead of first", 0, () -> deleted().uidExpunge(0, MAX, MIN));
        });
        s.holds("Returns how many were removed.", () -> {
            Checks.due("none", 0, () -> Scenes.full().uidExpunge(0, 1, 30));
            Checks.due("none of an empty box", 0, () -> Scenes.full().uidExpunge(1, 1, 30));
            MailSessions x = Scenes.full();
            x.uidStore(0, 1, 30, 0, 8);
            Checks.due("all thirty", 30, () -> x.uidExpunge(0, 1, 30));
        });
        s.holds(NO_SESSION, () -> Checks.refusedBeside(0, 3, Checks.INDEX, Scenes::busy, (x, session) -> x.uidExpunge(session, 1, 5)));
        s.holds(REFUSED, () -> {
            Checks.refused(Checks.STATE, "while idle", ActingSentences::deleted, x -> x.uidExpunge(1, 1, 5));
            Checks.refused(Checks.STATE, "only reading", ActingSentences::deleted, x -> x.uidExpunge(2, 1, 5));
            Checks.refused(Checks.STATE, "without a box", ActingSentences::deleted, x -> x.uidExpunge(3, 1, 5));
        });
    }

    private static void copy() {
        Sentences s = Sentences.of("Promise 39");
        s.holds("Copies messages: others with their sizes and flags come into a box, perhaps the same one, in their order.", () -> {
            MailSessions x = Checks.loaded("box a;box b;message a size 1 seen answered flagged deleted draft;message a size 9999;"
                    + "message a size 3 draft;session s a;");
            x.copy(0, 1, 3, 1);
            Checks.due("the other box", "1:1safdr 2:9999 3:3r", () -> Checks.box(x, 1));
            Checks.due("they stay", "1:1safdr 2:9999 3:3r", () -> Checks.box(x, 0));
            x.copy(0, 2, 3, 0);
            Checks.due("the same box", "1:1safdr 2:9999 3:3r 4:9999 5:3r", () -> Checks.box(x, 0));
            x.uidStore(0, 2, 2, 0, 1);
            Checks.due("they are others", "1:1safdr 2:9999s 3:3r 4:9999 5:3r", () -> Checks.box(x, 0));
        });
        s.holds(SESSION, () -> Checks.dueFrom(0, new Object[] {1, "throws." + Checks.STATE, 1, "throws." + Checks.INDEX},
                Scenes::busy, (x, session) -> x.copy(session, 1, 1, 1)));
        s.holds(FROM, () -> {
            Checks.dueFrom(2, new Object[] {3, 2, 1}, Scenes::busy, (x, from) -> x.copy(0, from, 4, 1));
            Checks.dueFrom(59, new Object[] {2, 1}, () -> Scenes.wide(60), (x, from) -> x.copy(0, from, 60, 1));
        });
        s.holds(TO, () -> {
            Checks.dueFrom(1, new Object[] {1, 2, 3}, Scenes::busy, (x, to) -> x.copy(0, 1, to, 1));
            Checks.dueFrom(59, new Object[] {29, 30}, () -> Scenes.wide(60), (x, to) -> x.copy(0, 1, to, 1));
        });
        s.holds(TARGET, () -> Checks.dueFrom(0, new Object[] {5, 3}, Scenes::busy, (x, box) -> {
            x.copy(0, 4, 4, box);
            return x.box(box, 0);
        }));
        s.holds("Returns how many were copied (0, if none is there; then there is always room).", () -> {
            Checks.due("one that is gone", 0, () -> Scenes.busy().copy(2, 2, 2, 0));
            Checks.due("two of three", 2, () -> Scenes.busy().copy(2, 1, 3, 1));
            Checks.due("none into a full box", 0, () -> Scenes.wide(60).copy(0, 1, 30, 0));
            Checks.due("none into one above a lowered limit", 0, () -> {
                MailSessions x = Scenes.wide(60);
                x.setLimit(1);
                return x.copy(0, 30, 30, 0);
            });
            Checks.due("thirty of sixty", 30, () -> Scenes.wide(60).copy(0, 1, 60, 1));
        });
        s.holds(NO_TARGET, () -> {
            Checks.refusedBeside(0, 3, Checks.INDEX, Scenes::busy, (x, session) -> x.copy(session, 1, 1, 1));
            Checks.refusedBeside(1, 4, Checks.INDEX, Scenes::busy, (x, from) -> x.copy(0, from, 4, 1));
            Checks.refusedBeside(1, 4, Checks.INDEX, Scenes::busy, (x, to) -> x.copy(0, 1, to, 1));
            Checks.refusedBeside(1, 60, Checks.INDEX, () -> Scenes.wide(60), (x, from) -> x.copy(0, from, 60, 1));
            Checks.refusedBeside(1, 60, Checks.INDEX, () -> Scenes.wide(60), (x, to) -> x.copy(0, 1, to, 1));
            Checks.refusedBeside(0, 1, Checks.INDEX, Scenes::busy, (x, box) -> x.copy(0, 1, 1, box));
            Checks.refused(Checks.INDEX, "in an empty view", Scenes::full, x -> x.copy(1, 1, 1, 1));
            Checks.refused(Checks.INDEX, "of one that is gone into no box", Scenes::busy, x -> x.copy(2, 2, 2, 2));
        });
        s.holds(NO_RANGE, () -> {
            Checks.refused(Checks.ARGUMENT, "by one", Scenes::busy, x -> x.copy(0, 2, 1, 1));
            Checks.refused(Checks.ARGUMENT, "by all", Scenes::busy, x -> x.copy(0, 4, 1, 1));
        });
        s.holds("Throws `IllegalStateException` if the command is refused, or the box has no room for all of them", () -> {
            Checks.refused(Checks.STATE, "while idle", Scenes::busy, x -> x.copy(1, 1, 1, 1));
            Checks.refused(Checks.STATE, "four where three have room", Scenes::busy, x -> x.copy(0, 1, 4, 1));
            Checks.due("three where three have room", 3, () -> Scenes.busy().copy(0, 1, 3, 1));
            Checks.refused(Checks.STATE, "two into its own box", Scenes::busy, x -> x.copy(0, 1, 2, 0));
            Checks.due("one into its own box", 1, () -> Scenes.busy().copy(0, 1, 1, 0));
            Checks.refused(Checks.STATE, "one into a full box", Scenes::full, x -> x.copy(0, 1, 1, 0));
            Checks.due("thirty into an empty box", 30, () -> Scenes.full().copy(0, 1, 30, 1));
            Checks.refused(Checks.STATE, "thirty where 29 have room", () -> {
                MailSessions x = Scenes.full();
                x.deliver(1, 1, 0);
                return x;
            }, x -> x.copy(0, 1, 30, 1));
            Checks.refused(Checks.STATE, "above a lowered limit", ActingSentences::lowered, x -> x.copy(0, 1, 1, 0));
            Checks.refused(Checks.STATE, "where the lowered limit is", ActingSentences::lowered, x -> x.copy(0, 1, 1, 1));
            Checks.due("below a limit that is raised again", 1, () -> {
                MailSessions x = lowered();
                x.setLimit(5);
                return x.copy(0, 1, 1, 0);
            });
        });
    }

    /** As Scenes.busy(), but the limit is 2: box a has 4 messages, b has 2. */
    private static MailSessions lowered() {
        MailSessions x = Scenes.busy();
        x.setLimit(2);
        return x;
    }

    private static void move() {
        Sentences s = Sentences.of("Promise 40");
        s.holds("Copies messages as copy() does, and then removes them from the box of the session.", () -> {
            MailSessions x = Checks.loaded("box a;box b;message a size 1 seen;message a size 2;message a size 3 draft;message a size 4;"
                    + "session s a;session t a;");
            x.move(0, 1, 2, 1);
            Checks.due("into the other box", "1:1s 2:2", () -> Checks.box(x, 1));
            Checks.due("from its own", "3:3r 4:4", () -> Checks.box(x, 0));
            x.move(0, 1, 2, 0);
            Checks.due("all into its own box", "5:3r 6:4", () -> Checks.box(x, 0));
            x.move(0, 2, 2, 0);
            Checks.due("the last one", "5:3r 7:4", () -> Checks.box(x, 0));
            Checks.due("those that are gone", 0, () -> x.move(1, 1, 2, 1));
            Checks.due("leave all as it is", "5:3r 7:4", () -> Checks.box(x, 0));
        });
        s.holds(SESSION, () -> Checks.dueFrom(0, new Object[] {1, "throws." + Checks.STATE, "throws." + Checks.STATE,
            "throws." + Checks.INDEX}, Scenes::busy, (x, session) -> x.move(session, 1, 1, 1)));
        s.holds(FROM, () -> {
            Checks.dueFrom(2, new Object[] {3, 2, 1}, Scenes::busy, (x, from) -> x.move(0, from, 4, 1));
            Checks.dueFrom(59, new Object[] {2, 1}, () -> Scenes.wide(60), (x, from) -> x.move(0, from, 60, 1));
        });
        s.holds(TO, () -> {
            Checks.dueFrom(1, new Object[] {1, 2, 3}, Scenes::busy, (x, to) -> x.move(0, 1, to, 1));
            Checks.dueFrom(59, new Object[] {29, 30}, () -> Scenes.wide(60), (x, to) -> x.move(0, 1, to, 1));
        });
        s.holds(TARGET, () -> Checks.dueFrom(0, new Object[] {4, 3}, Scenes::busy, (x, box) -> {
            x.move(0, 4, 4, box);
            return x.box(box, 0);
        }));
        s.holds("Returns how many were moved.", () -> {
            Checks.due("one", 1, () -> Scenes.busy().move(0, 4, 4, 1));
            Checks.due("one that is gone, into a full box", 0, () -> Scenes.wide(60).move(0, 30, 30, 0));
            Checks.due("thirty of sixty", 30, () -> Scenes.wide(60).move(0, 1, 60, 1));
            Checks.due("one of two", 1, () -> Scenes.wide(60).move(0, 30, 31, 1));
        });
        s.holds(NO_TARGET, () -> {
            Checks.refusedBeside(0, 3, Checks.INDEX, Scenes::busy, (x, session) -> x.move(session, 1, 1, 1));
            Checks.refusedBeside(1, 4, Checks.INDEX, Scenes::busy, (x, from) -> x.move(0, from, 4, 1));
            Checks.refusedBeside(1, 4, Checks.INDEX, Scenes::busy, (x, to) -> x.move(0, 1, to, 1));
            Checks.refusedBeside(1, 60, Checks.INDEX, () -> Scenes.wide(60), (x, from) -> x.move(0, from, 60, 1));
            Checks.refusedBeside(1, 60, Checks.INDEX, () -> Scenes.wide(60), (x, to) -> x.move(0, 1, to, 1));
            Checks.refusedBeside(0, 1, Checks.INDEX, Scenes::busy, (x, box) -> x.move(0, 1, 1, box));
            Checks.refused(Checks.INDEX, "in an empty view", Scenes::full, x -> x.move(1, 1, 1, 1));
        });
        s.holds(NO_RANGE, () -> {
            Checks.refused(Checks.ARGUMENT, "by one", Scenes::busy, x -> x.move(0, 2, 1, 1));
            Checks.refused(Checks.ARGUMENT, "by all", Scenes::busy, x -> x.move(0, 4, 1, 1));
        });
        s.holds("Throws `IllegalStateException` if the command is refused, or the box has no room for all of them (with these still there)",
                () -> {
                    Checks.refused(Checks.STATE, "while idle", Scenes::busy, x -> x.move(1, 1, 1, 1));
                    Checks.refused(Checks.STATE, "only reading", Scenes::busy, x -> x.move(2, 1, 1, 1));
                    Checks.refused(Checks.STATE, "four where three have room", Scenes::busy, x -> x.move(0, 1, 4, 1));
                    Checks.due("three where three have room", 3, () -> Scenes.busy().move(0, 1, 3, 1));
                    Checks.refused(Checks.STATE, "two in its own box, still there", Scenes::busy, x -> x.move(0, 1, 2, 0));
                    Checks.due("one in its own box", 1, () -> Scenes.busy().move(0, 1, 1, 0));
                    Checks.refused(Checks.STATE, "one in a full box, still there", Scenes::full, x -> x.move(0, 30, 30, 0));
                    Checks.due("thirty into an empty box", 30, () -> Scenes.full().move(0, 1, 30, 1));
                    Checks.refused(Checks.STATE, "above a lowered limit", ActingSentences::lowered, x -> x.move(0, 1, 1, 0));
                    Checks.refused(Checks.STATE, "where the lowered limit is", ActingSentences::lowered, x -> x.move(0, 1, 1, 1));
                });
    }

    private static void close() {
        Sentences s = Sentences.of("Promise 41");
        s.holds("Removes the messages of its box that have the flag deleted, unless the session only reads; it has no box then, "
                + "and is not told.", () -> {
                    MailSessions x = Checks.loaded("box a;box b;message a size 1 deleted;message a size 2;message a size 3 deleted;"
                            + "message b size 4 deleted;session s a;session t reads a;session u b;session v a;");
                    Checks.due("it only reads", 0, () -> x.close(1));
                    Checks.due("nothing is removed", 3, () -> x.box(0, 0));
                    Checks.due("it has no box all the same", -1, () -> x.session(1, 0));
                    x.deliver(0, 5, 8);
                    Checks.due("with an entry or not", 3, () -> x.close(0));
                    Checks.due("the others stay", "2:2", () -> Checks.box(x, 0));
                    Checks.due("the other box too", 1, () -> x.box(1, 0));
                    Checks.due("it has no box", -1, () -> x.session(0, 0));
                    Checks.due("nor entries", 0, () -> x.session(0, 3));
                    Checks.due("it is not told", "", () -> Checks.notices(x));
                    Checks.due("by the account", 0, () -> x.account(0, 1) + x.account(0, 2) + x.account(0, 3));
                    Checks.due("nor is another that is not idle", 2, () -> x.session(3, 4));
                    Checks.dueState("no box to close", () -> x.close(0));
                    Checks.due("the last message of a box", 1, () -> x.close(2));
                });
        s.holds(SESSION, () -> Checks.dueFrom(0, new Object[] {0, "throws." + Checks.STATE, 0, "throws." + Checks.STATE},
                Scenes::busy, MailSessions::close));
        s.holds("Returns how many were removed.", () -> {
            Checks.due("none", 0, () -> Scenes.full().close(0));
            Checks.due("none of an empty box", 0, () -> Scenes.full().close(1));
            Checks.due("two", 2, () -> deleted().close(0));
            Checks.due("none by one that only reads", 0, () -> deleted().close(2));
            MailSessions x = Scenes.full();
            x.uidStore(0, 1, 30, 0, 8);
            Checks.due("all thirty", 30, () -> x.close(0));
        });
        s.holds(NO_SESSION, () -> Checks.refusedBeside(0, 3, Checks.INDEX, Scenes::busy, MailSessions::close));
        s.holds(REFUSED, () -> {
            Checks.refused(Checks.STATE, "while idle", ActingSentences::deleted, x -> x.close(1));
            Checks.refused(Checks.STATE, "without a box", ActingSentences::deleted, x -> x.close(3));
        });
    }

    private static void deliver() {
        Sentences s = Sentences.of("Promise 42");
        s.holds("A message comes into a box.", () -> {
            MailSessions x = Checks.loaded("box a;box b;");
            x.deliver(1, 7, 5);
            Checks.due("an empty box", "1:7sf", () -> Checks.box(x, 1));
            x.deliver(1, 8, 0);
            Checks.due("behind the others", "1:7sf 2:8", () -> Checks.box(x, 1));
            Checks.due("not into another", "", () -> Checks.box(x, 0));
        });
        s.holds(BOX, () -> Checks.dueFrom(0, new Object[] {6, 3}, Scenes::busy, (x, box) -> x.deliver(box, 1, 0)));
        s.holds("`size`: 1 to 9999", () -> {
            for (int size : new int[] {1, 2, 255, 256, 9998, 9999}) {
                MailSessions x = Checks.loaded("box a;");
                x.deliver(0, size, 0);
                Checks.due("size " + size, size, () -> x.message(0, 0, 1));
            }
        });
        s.holds(FLAGS, () -> {
            for (int flags = 0; flags <= 31; flags++) {
                int each = flags;
                MailSessions x = Checks.loaded("box a;");
                x.deliver(0, 1, flags);
                Checks.due("flags " + flags, each, () -> x.message(0, 0, 2));
            }
        });
        s.holds("Returns its uid.", () -> {
            Checks.due("the first", 1, () -> Checks.loaded("box a;").deliver(0, 1, 0));
            Checks.due("behind one that was removed", 6, () -> Scenes.busy().deliver(0, 1, 0));
            Checks.due("the thirtieth", 30, () -> {
                MailSessions x = Checks.loaded("box a;");
                Scenes.deliver(x, 0, 29, 0);
                return x.deliver(0, 1, 0);
            });
            MailSessions x = Checks.loaded("limit 1;box a;session s a;");
            for (int uid = 1; uid <= 100; uid++) {
                Checks.due("the one that comes", uid, () -> x.deliver(0, 1, 8));
                x.expunge(0);
            }
        });
        s.holds(NO_BOX, () -> {
            Checks.refusedBeside(0, 1, Checks.INDEX, Scenes::busy, (x, box) -> x.deliver(box, 1, 0));
            Checks.refused(Checks.INDEX, "of a new object", Scenes::fresh, x -> x.deliver(0, 1, 0));
        });
        s.holds("Throws `IllegalArgumentException` if size or flags is out of range", () -> {
            Checks.refusedBeside(1, 9999, Checks.ARGUMENT, Scenes::busy, (x, size) -> x.deliver(0, size, 0));
            Checks.refusedBeside(0, 31, Checks.ARGUMENT, Scenes::busy, (x, flags) -> x.deliver(0, 1, flags));
        });
        s.holds("Throws `IllegalStateException` if the box has no room", () -> {
            Checks.refused(Checks.STATE, "a full box", Scenes::full, x -> x.deliver(0, 1, 0));
            Checks.due("the box beside it", 1, () -> Scenes.full().deliver(1, 1, 0));
            Checks.refused(Checks.STATE, "above a lowered limit", ActingSentences::lowered, x -> x.deliver(0, 1, 0));
            Checks.refused(Checks.STATE, "where the lowered limit is", ActingSentences::lowered, x -> x.deliver(1, 1, 0));
            MailSessions x = Checks.loaded("limit 2;box a;message a size 1;session s a;");
            Checks.due("the last that has room", 2, () -> x.deliver(0, 1, 8));
            Checks.dueState("one more", () -> x.deliver(0, 1, 0));
            x.expunge(0);
            Checks.due("behind a removal", 3, () -> x.deliver(0, 1, 0));
            Checks.dueState("full again", () -> x.deliver(0, 1, 0));
            x.setLimit(3);
            Checks.due("behind a raised limit", 4, () -> x.deliver(0, 1, 0));
            Checks.dueState("full once more", () -> x.deliver(0, 1, 0));
        });
    }

    private static void setLimit() {
        Sentences s = Sentences.of("Promise 43");
        s.holds("`limit`: 1 to 30; boxes may have more messages already", () -> {
            for (int limit : new int[] {1, 2, 29, 30}) {
                MailSessions x = Scenes.full();
                x.setLimit(limit);
                Checks.due("the limit", limit, () -> x.property(2));
                Checks.due("the messages stay", 30, () -> x.box(0, 0));
                Checks.due("so do the entries", 30, () -> x.session(0, 3));
                Checks.due("nothing is to be told", 0, x::stale);
                Checks.dueState("there is no room", () -> x.deliver(0, 1, 0));
                Scenes.deliver(x, 1, limit, 0);
                Checks.dueState("nor behind as many", () -> x.deliver(1, 1, 0));
            }
        });
        s.holds("Returns the previous limit.", () -> {
            MailSessions x = new MailSessions();
            Checks.due("without any", 30, () -> x.setLimit(1));
            Checks.due("1", 1, () -> x.setLimit(1));
            Checks.due("1 again", 1, () -> x.setLimit(30));
            Checks.due("30", 30, () -> x.setLimit(30));
            Checks.due("that of a text", 6, () -> Checks.loaded("limit 6;").setLimit(7));
        });
        s.holds("Throws `IllegalArgumentException` if limit is out of range", () -> {
            Checks.refusedBeside(1, 30, Checks.ARGUMENT, Scenes::busy, MailSessions::setLimit);
            Checks.refusedBeside(1, 30, Checks.ARGUMENT, Scenes::fresh, MailSessions::setLimit);
        });
    }

    private static void keep() {
        Sentences s = Sentences.of("Promise 44");
        s.holds("Keeps everything that undo() restores, but what can be undone, in a slot, in place of what was there.", () -> {
            MailSessions x = Scenes.busy();
            String before = Checks.kept(x);
            x.keep(0);
            x.keep(1);
            x.move(0, 1, 1, 1);
            x.keep(0);
            x.restore(1);
            Checks.due("everything", before, () -> Checks.kept(x));
            Checks.due("but what can be undone", 6, x::undoCount);
            x.restore(0);
            Checks.due("in place of what was there", 3, () -> x.box(0, 0));
            MailSessions y = new MailSessions();
            y.keep(0);
            y.setLimit(3);
            Checks.due("where nothing could be undone", 0, () -> y.restore(0));
            Checks.due("the limit", 30, () -> y.property(2));
            Checks.due("what can be undone goes on", 2, y::undoCount);
        });
        s.holds(SLOT, () -> {
            MailSessions x = new MailSessions();
            x.setLimit(11);
            x.keep(0);
            x.setLimit(12);
            x.keep(1);
            x.restore(0);
            Checks.due("slot 0", 11, () -> x.property(2));
            x.restore(1);
            Checks.due("slot 1", 12, () -> x.property(2));
        });
        s.holds(MESSAGES, () -> {
            Checks.due("of a new object", 0, () -> new MailSessions().keep(1));
            Checks.due("of two boxes", 6, () -> Scenes.busy().keep(0));
            Checks.due("thirty", 30, () -> Scenes.full().keep(1));
        });
        s.holds(NO_SLOT, () -> {
            Checks.refusedBeside(0, 1, Checks.INDEX, Scenes::busy, MailSessions::keep);
            Checks.refusedBeside(0, 1, Checks.INDEX, Scenes::fresh, MailSessions::keep);
        });
    }

    private static void restore() {
        Sentences s = Sentences.of("Promise 45");
        s.holds("Makes everything as it was kept in a slot, which keeps it.", () -> {
            MailSessions x = Scenes.busy();
            x.keep(1);
            String before = Checks.kept(x);
            x.truncate(0);
            Checks.feed(x, "box q;session w q;limit 1;");
            x.load();
            x.deliver(0, 1, 0);
            x.restore(1);
            Checks.due("everything", before, () -> Checks.kept(x));
            x.stopIdle(1);
            x.uidStore(1, 1, 9, 0, 31);
            x.close(2);
            x.restore(1);
            Checks.due("the slot keeps it", before, () -> Checks.kept(x));
        });
        s.holds(SLOT, () -> {
            MailSessions x = new MailSessions();
            x.keep(0);
            Checks.due("slot 0", 0, () -> x.restore(0));
            Checks.dueState("slot 1", () -> x.restore(1));
            MailSessions y = new MailSessions();
            y.keep(1);
            Checks.due("slot 1", 0, () -> y.restore(1));
            Checks.dueState("slot 0", () -> y.restore(0));
        });
        s.holds(MESSAGES, () -> {
            Checks.due("as kept", 4, () -> Scenes.busy().restore(0));
            MailSessions x = Scenes.full();
            x.keep(0);
            x.move(0, 1, 30, 1);
            Scenes.deliver(x, 0, 5, 0);
            Checks.due("not as they were ahead of it", 30, () -> x.restore(0));
        });
        s.holds(NO_SLOT, () -> Checks.refusedBeside(0, 1, Checks.INDEX, Scenes::busy, MailSessions::restore));
        s.holds("Throws `IllegalStateException` if nothing is kept there", () -> {
            Checks.refused(Checks.STATE, "slot 1", Scenes::busy, x -> x.restore(1));
            Checks.refused(Checks.STATE, "slot 0 of a new object", Scenes::fresh, x -> x.restore(0));
            Checks.refused(Checks.STATE, "slot 1 of a new object", Scenes::fresh, x -> x.restore(1));
            Checks.due("kept, though there was nothing", 0, () -> {
                MailSessions x = new MailSessions();
                x.keep(1);
                return x.restore(1);
            });
        });
    }

    private static void undo() {
        Sentences s = Sentences.of("Promise 46");
        s.holds("Undoes the latest call that can be undone (section 5).", () -> {
            MailSessions x = Scenes.busy();
            x.keep(1);
            x.searchBox(0);
            x.writeBox(0);
            Checks.dueState("a refused call", () -> x.noop(3));
            x.undo();
            Checks.due("it was store()", 0, () -> x.message(0, 0, 2));
            Checks.due("the view too", 0, () -> x.entry(0, 1, 1));
            Checks.due("that of the idle one", 0, () -> x.entry(1, 1, 1));
            x.undo();
            Checks.due("it was noop()", 3, () -> x.session(0, 3));
            x.undo();
            Checks.due("it was setLimit()", 6, () -> x.property(2));
            x.undo();
            Checks.due("it was deliver()", 3, () -> x.box(0, 0));
            Checks.due("its uid", 5, () -> x.box(0, 1));
        });
        s.holds("Returns how many calls can still be undone.", () -> {
            MailSessions x = Scenes.busy();
            for (int left = 5; left >= 0; left--) {
                Checks.due("undo", left, x::undo);
            }
            Checks.dueState("none", x::undo);
            x.setLimit(1);
            Checks.due("the only one", 0, x::undo);
        });
        s.holds("Throws `IllegalStateException` if there is nothing to undo", () -> {
            Checks.refused(Checks.STATE, "a new object", Scenes::fresh, x -> x.undo());
            Checks.refused(Checks.STATE, "all is undone", () -> {
                MailSessions x = Scenes.busy();
                for (int times = 0; times < 6; times++) {
                    x.undo();
                }
                return x;
            }, x -> x.undo());
            Checks.refused(Checks.STATE, "only what can't be", () -> {
                MailSessions x = new MailSessions();
                x.keep(0);
                x.load();
                return x;
            }, x -> x.undo());
        });
    }

    private static void undoCount() {
        Sentences s = Sentences.of("Promise 47");
        s.holds("Returns how many calls can be undone.", () -> {
            MailSessions x = new MailSessions();
            int[] due = {0, 1, 2, 3, 4, 5, 6, 6, 6};
            for (int count : due) {
                Checks.due("calls", count, x::undoCount);
                x.setLimit(3);
            }
            x.undo();
            Checks.due("behind undo()", 5, x::undoCount);
            x.keep(0);
            x.load();
            Checks.due("others don't count", 5, x::undoCount);
            x.restore(0);
            Checks.due("restore() does", 6, x::undoCount);
        });
    }

    private static void writeBox() {
        Sentences s = Sentences.of("Promise 48");
        s.holds("Writes a box to the output buffer, replacing its content: for each message its uid, a colon, its size, and for each of "
                + "its flags, in ascending order, one of the bytes s, a, f, d, r (draft); separated by spaces.", () -> {
                    MailSessions x = Checks.loaded("limit 30;box a;box b;session s a;");
                    for (int flags = 0; flags < 8; flags++) {
                        x.deliver(0, 9992 + flags, flags);
                    }
                    Checks.due("flags 0 to 7", "1:9992 2:9993s 3:9994a 4:9995sa 5:9996f 6:9997sf 7:9998af 8:9999saf",
                            () -> Checks.box(x, 0));
                    Checks.due("an empty box replaces it", 0, () -> x.writeBox(1));
                    Checks.dueIndex("no byte is left", () -> x.outputByte(0));
                    x.deliver(1, 1, 31);
                    Checks.due("one", "1:1safdr", () -> Checks.box(x, 1));
                    MailSessions y = Checks.loaded("box a;session s a;");
                    for (int k = 0; k < 30; k++) {
                        y.deliver(0, 9999, 31);
                    }
                    Checks.due("thirty of the longest", 9 * 12 + 21 * 13 - 1, () -> y.writeBox(0));
                    Checks.due("the last byte", (int) 'r', () -> y.outputByte(379));
                });
        s.holds(BOX, () -> Checks.dueFrom(0, new Object[] {23, 9}, Scenes::busy, MailSessions::writeBox));
        s.holds(OUTPUT, () -> {
            Checks.due("an empty box", 0, () -> Scenes.full().writeBox(1));
            Checks.due("a full one", 9 * 4 + 21 * 6 - 1, () -> Scenes.full().writeBox(0));
        });
        s.holds(NO_BOX, () -> {
            Checks.refusedBeside(0, 1, Checks.INDEX, Scenes::busy, MailSessions::writeBox);
            Checks.refused(Checks.INDEX, "of a new object", Scenes::fresh, x -> x.writeBox(0));
        });
    }

    private static void writeView() {
        Sentences s = Sentences.of("Promise 49");
        s.holds("Writes the view of a session to the output buffer, replacing its content: for each entry its number, a colon, its uid, "
                + "the bytes of the flags that it was told as above, and the byte ! if it is gone; separated by spaces.", () -> {
                    MailSessions x = Scenes.busy();
                    x.uidStore(0, 3, 3, 0, 30);
                    Checks.due("as it was told", "1:1 2:2d! 3:3s 4:4f", () -> Checks.view(x, 2));
                    Checks.due("without a box", 0, () -> x.writeView(3));
                    Checks.dueIndex("no byte is left", () -> x.outputByte(0));
                    Checks.due("all is told", "1:1r 2:3afdr 3:4f 4:5a", () -> Checks.view(x, 0));
                    MailSessions y = Checks.loaded("box a;message a size 1 seen answered flagged deleted draft;session s a;session t a;");
                    y.expunge(0);
                    Checks.due("all flags, and gone", "1:1safdr!", () -> Checks.view(y, 1));
                    Checks.due("an empty view", "", () -> Checks.view(y, 0));
                });
        s.holds(SESSION, () -> Checks.dueFrom(0, new Object[] {19, 19, 19, 0}, Scenes::busy, MailSessions::writeView));
        s.holds(OUTPUT, () -> {
            Checks.due("without a box", 0, () -> Scenes.busy().writeView(3));
            Checks.due("an empty view", 0, () -> Scenes.full().writeView(1));
            Checks.due("sixty entries", 9 * 6 + 21 * 8 + 30 * 6 - 1, () -> Scenes.wide(60).writeView(0));
        });
        s.holds(NO_SESSION, () -> {
            Checks.refusedBeside(0, 3, Checks.INDEX, Scenes::busy, MailSessions::writeView);
            Checks.refused(Checks.INDEX, "of a new object", Scenes::fresh, x -> x.writeView(0));
        });
    }

    private static void writeNotices() {
        Sentences s = Sentences.of("Promise 50");
        s.holds("Writes the notices of the latest act to the output buffer, replacing its content: for each the number of the session, "
                + "one of the bytes - (notice 0), = (1) and + (2), the number, and for notice 1 a colon and the bytes of the flags; "
                + "separated by spaces.", () -> {
                    MailSessions x = Scenes.busy();
                    x.noop(2);
                    Checks.due("each kind", "2-2 2=1:r 2+4", () -> Checks.notices(x));
                    x.uidStore(0, 1, 1, 0, 0);
                    Checks.due("no flags", "0=1: 1=1:", () -> Checks.notices(x));
                    x.uidStore(0, 1, 1, 0, 31);
                    Checks.due("all flags", "0=1:safdr 1=1:safdr", () -> Checks.notices(x));
                    x.noop(0);
                    Checks.due("none", 0, x::writeNotices);
                    Checks.dueIndex("no byte is left", () -> x.outputByte(0));
                    Checks.due("a new object", 0, () -> new MailSessions().writeNotices());
                });
        s.holds(OUTPUT, () -> {
            Checks.due("none", 0, () -> Scenes.fresh().writeNotices());
            Checks.due("one", 4, () -> Scenes.full().writeNotices());
            Checks.due("the number 60", 4, () -> Scenes.wide(60).writeNotices());
            MailSessions x = Checks.loaded("box a;session p a;session q a;session r a;session s a;");
            for (int session = 1; session < 4; session++) {
                x.startIdle(session);
            }
            Scenes.deliver(x, 0, 30, 8);
            x.noop(0);
            x.uidStore(0, 1, 30, 0, 31);
            Checks.due("120 of the longest", 4 * (9 * 10 + 21 * 11) - 1, x::writeNotices);
            Checks.due("the last byte", (int) 'r', () -> x.outputByte(1282));
        });
    }

    private static void outputByte() {
        Sentences s = Sentences.of("Promise 51");
        s.holds("`index`: index into the output buffer", () -> {
            MailSessions x = Scenes.busy();
            int length = x.writeBox(1);
            Checks.due("1:50 2:70", "1:50 2:70", () -> Checks.output(x, length));
        });
        s.holds("Returns the byte at that index.", () -> {
            MailSessions x = Checks.loaded("box a;message a size 1 seen answered flagged deleted draft;session s a;");
            int[] box = {49, 58, 49, 115, 97, 102, 100, 114};
            x.writeBox(0);
            for (int at = 0; at < box.length; at++) {
                int index = at;
                Checks.due("byte " + at, box[at], () -> x.outputByte(index));
            }
            x.expunge(0);
            x.writeNotices();
            Checks.due("the byte -", 45, () -> x.outputByte(1));
            x.deliver(0, 1, 0);
            x.deliver(0, 1, 0);
            x.noop(0);
            x.writeNotices();
            Checks.due("the byte +", 43, () -> x.outputByte(1));
            x.writeView(0);
            Checks.due("a space", 32, () -> x.outputByte(3));
        });
        s.holds("Throws `IndexOutOfBoundsException` if index is negative or not less than the output's length", () -> {
            Checks.refusedBeside(0, 18, Checks.INDEX, Scenes::busy, MailSessions::outputByte);
            Checks.due("the last", (int) 'f', () -> Scenes.busy().outputByte(18));
            Checks.refused(Checks.INDEX, "no output yet", Scenes::full, x -> x.outputByte(0));
            Checks.refused(Checks.INDEX, "of a new object", Scenes::fresh, x -> x.outputByte(0));
            Checks.refused(Checks.INDEX, "behind a shorter output", () -> {
                MailSessions x = Scenes.busy();
                x.writeBox(1);
                return x;
            }, x -> x.outputByte(9));
            Checks.refused(Checks.INDEX, "behind an empty output", () -> {
                MailSessions x = Scenes.busy();
                x.writeView(3);
                return x;
            }, x -> x.outputByte(0));
        });
    }
}
