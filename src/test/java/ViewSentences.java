/** Sections 2 and 3 of ../shared/DOC.md: a test for each sentence that names a boundary case. */
final class ViewSentences {
    private static final Sentences TWO = Sentences.of("Section 2");
    private static final Sentences THREE = Sentences.of("Section 3");
    private static final String TEXT = "box a;box b;message a size 10;message a size 20 deleted;message a size 30 seen;"
            + "session s a;session t a;session u reads a;session v;";

    private ViewSentences() {
    }

    static void all() {
        messages();
        views();
        removals();
        changes();
        additions();
        additionsToSixty();
        commands();
        refusals();
        telling();
        idle();
        ranges();
    }

    private static MailSessions load(String text) {
        return Checks.loaded(text);
    }

    private static void messages() {
        TWO.namesNone("2. BOXES AND VIEWS.");
        TWO.holds("The messages of a box are in the order in which they came.", () -> {
            MailSessions x = load("box a;session s a;");
            Checks.due("an empty box", "", () -> Checks.box(x, 0));
            x.deliver(0, 9, 0);
            x.deliver(0, 8, 8);
            x.deliver(0, 7, 0);
            Checks.due("as they came", "1:9 2:8d 3:7", () -> Checks.box(x, 0));
            x.expunge(0);
            x.deliver(0, 8, 0);
            Checks.due("the last one comes behind the others", "1:9 3:7 4:8", () -> Checks.box(x, 0));
            x.copy(0, 1, 1, 0);
            Checks.due("a copy too", "1:9 3:7 4:8 5:9", () -> Checks.box(x, 0));
        });
        TWO.holds("Each one gets the next uid of its box, from 1 on; a uid is never given again.", () -> {
            MailSessions x = load("box a;box b;session s a;");
            Checks.due("the first", 1, () -> x.deliver(0, 5, 8));
            Checks.due("the second", 2, () -> x.deliver(0, 5, 8));
            Checks.due("the first of another box", 1, () -> x.deliver(1, 5, 8));
            Checks.due("all are removed", 2, () -> x.expunge(0));
            Checks.due("the next", 3, () -> x.deliver(0, 5, 0));
            x.noop(0);
            x.move(0, 1, 1, 0);
            Checks.due("a moved one gets another", "4:5", () -> Checks.box(x, 0));
            x.move(0, 1, 1, 1);
            Checks.due("of the box into which it comes", "1:5d 2:5", () -> Checks.box(x, 1));
            Checks.due("and the next is", 5, () -> x.deliver(0, 5, 0));
        });
    }

    private static void views() {
        TWO.holds("A session may have selected a box.", () -> {
            MailSessions x = load("box a;session s;");
            Checks.due("or none", -1, () -> x.session(0, 0));
            Checks.due("then no entries", "", () -> Checks.view(x, 0));
            x.deliver(0, 1, 0);
            Checks.due("nor anything to be told", 0, () -> x.pending(0));
            x.select(0, 0, false);
            Checks.due("one", 0, () -> x.session(0, 0));
        });
        TWO.holds("Then it has a view: entries with the numbers 1, 2 and so on, at most 60.", () -> {
            MailSessions x = load(TEXT);
            Checks.due("three", "1:1 2:2d 3:3s", () -> Checks.view(x, 0));
            Checks.dueIndex("no number 0", () -> x.entry(0, 0, 0));
            Checks.dueIndex("no number 4", () -> x.entry(0, 4, 0));
            MailSessions empty = load("box a;session s a;");
            Checks.due("none", 0, () -> empty.session(0, 3));
            Checks.dueIndex("no number 1", () -> empty.entry(0, 1, 0));
            MailSessions wide = Scenes.wide(60);
            Checks.due("sixty", 60, () -> wide.session(0, 3));
            Checks.due("the last number", 60, () -> wide.entry(0, 60, 0));
            Checks.dueIndex("no number 61", () -> wide.entry(0, 61, 0));
            makeRoomForOne(wide);
            wide.deliver(0, 1, 0);
            wide.fetch(0, 1, 60, true);
            Checks.due("no more", 60, () -> wide.session(0, 3));
        });
        TWO.holds("An entry stands for a message of the box, by its uid, and has the flags that the session was told last.", () -> {
            MailSessions x = load(TEXT);
            x.uidStore(0, 1, 1, 0, 31);
            x.uidStore(0, 3, 3, 0, 0);
            Checks.due("told at once", "1:1safdr 2:2d 3:3", () -> Checks.view(x, 0));
            Checks.due("not told yet", "1:1 2:2d 3:3s", () -> Checks.view(x, 1));
            x.noop(1);
            Checks.due("all flags, and none", "1:1safdr 2:2d 3:3", () -> Checks.view(x, 1));
        });
        TWO.holds("It is gone if the message is not in the box any more; it stays in the view until the session is told.", () -> {
            MailSessions x = load(TEXT);
            x.uidStore(0, 1, 3, 1, 8);
            Checks.due("all are removed", 3, () -> x.expunge(0));
            Checks.due("they stay", "1:1! 2:2d! 3:3s!", () -> Checks.view(x, 1));
            Checks.due("gone", 3, () -> x.session(1, 4));
            x.fetch(1, 1, 3, true);
            Checks.due("told without removals", "1:1! 2:2d! 3:3s!", () -> Checks.view(x, 1));
            x.noop(1);
            Checks.due("told of them", "", () -> Checks.view(x, 1));
            Checks.due("another is not told of them", 3, () -> x.session(2, 4));
        });
        TWO.holds("Telling a session (all, or without removals) makes these notices, in this order:", () -> {
            MailSessions x = load(TEXT);
            x.noop(0);
            Checks.due("none", "", () -> Checks.notices(x));
            x.expunge(0);
            x.uidStore(0, 3, 3, 0, 4);
            x.deliver(0, 1, 0);
            x.fetch(1, 1, 1, true);
            Checks.due("without removals", "1=3:f 1+4", () -> Checks.notices(x));
            x.uidStore(0, 1, 1, 0, 4);
            x.deliver(0, 1, 0);
            x.noop(1);
            Checks.due("all", "1-2 1=1:f 1+4", () -> Checks.notices(x));
        });
    }

    /** Session 1 is told all, and removes the first message that is still there. */
    private static void makeRoomForOne(MailSessions wide) {
        wide.noop(1);
        int uid = wide.message(0, 0, 0);
        wide.uidStore(1, uid, uid, 1, 8);
        wide.uidExpunge(1, uid, uid);
    }

    private static void removals() {
        TWO.holds("0 not without removals: for each entry that is gone, in ascending order: its number then.", () -> {
            MailSessions x = load("box a;message a size 1 deleted;message a size 2;message a size 3 deleted;"
                    + "message a size 4 deleted;message a size 5;message a size 6 deleted;session s a;session t a;");
            x.expunge(0);
            Checks.due("the first, two side by side and the last", "0-1 0-2 0-2 0-3", () -> Checks.notices(x));
            x.fetch(1, 1, 6, true);
            Checks.due("not without removals", "", () -> Checks.notices(x));
            x.uidStore(0, 2, 5, 1, 8);
            x.expunge(0);
            x.noop(1);
            Checks.due("all of them", "1-1 1-1 1-1 1-1 1-1 1-1", () -> Checks.notices(x));
            MailSessions wide = Scenes.wide(60);
            wide.noop(1);
            wide.uidStore(1, 31, 60, 1, 8);
            wide.expunge(1);
            Checks.due("sixty", 60, () -> wide.noop(0));
            Checks.due("each is the first then", 60 * 4 - 1, wide::writeNotices);
        });
        TWO.holds("The entry leaves the view; the numbers of those behind it get less by 1", () -> {
            MailSessions x = load("box a;message a size 1 deleted;message a size 2;message a size 3 deleted;message a size 4;"
                    + "session s a;session t a;");
            x.expunge(0);
            Checks.due("two leave", "1:2 2:4", () -> Checks.view(x, 0));
            Checks.due("the number of the last", 2, () -> x.numberOf(0, 4));
            Checks.due("that of one that left", -1, () -> x.numberOf(0, 3));
            Checks.dueIndex("no number 3", () -> x.entry(0, 3, 0));
            x.uidStore(0, 4, 4, 1, 8);
            x.expunge(0);
            Checks.due("the last leaves", "1:2", () -> Checks.view(x, 0));
            x.uidStore(0, 2, 2, 1, 8);
            x.expunge(0);
            Checks.due("the only one leaves", "", () -> Checks.view(x, 0));
        });
    }

    private static void changes() {
        TWO.holds("1 for each entry that is not gone and whose message has other flags than the session was told last, "
                + "in ascending order: its number and the flags", () -> {
                    MailSessions x = load(TEXT);
                    x.uidStore(0, 1, 3, 0, 0);
                    Checks.due("all but one that has no others", "0=2: 0=3:", () -> Checks.notices(x));
                    x.uidStore(0, 1, 3, 0, 31);
                    Checks.due("all", "0=1:safdr 0=2:safdr 0=3:safdr", () -> Checks.notices(x));
                    x.uidExpunge(0, 1, 2);
                    x.fetch(1, 1, 3, true);
                    Checks.due("not of those that are gone", "1=3:safdr", () -> Checks.notices(x));
                    x.uidStore(0, 3, 3, 0, 1);
                    x.uidStore(0, 3, 3, 0, 31);
                    x.noop(1);
                    Checks.due("not of one that has them again", "1-1 1-1", () -> Checks.notices(x));
                    x.uidStore(0, 3, 3, 0, 30);
                    x.noop(1);
                    Checks.due("one flag less", "1=1:afdr", () -> Checks.notices(x));
                });
    }

    private static void additions() {
        TWO.holds("2 if there are messages of the box that have no entry and came behind all that had one ever since "
                + "the box was selected (all messages, if none ever had): these get entries behind the others, in their order, "
                + "with their flags,", () -> {
                    MailSessions x = load("box a;session s a;session t a;");
                    x.noop(0);
                    Checks.due("none", "", () -> Checks.notices(x));
                    x.deliver(0, 1, 8);
                    x.deliver(0, 2, 1);
                    x.noop(0);
                    Checks.due("all messages, if none ever had", "1:1d 2:2s", () -> Checks.view(x, 0));
                    x.expunge(0);
                    x.deliver(0, 3, 31);
                    x.deliver(0, 4, 0);
                    x.noop(0);
                    Checks.due("behind the others", "1:2s 2:3safdr 3:4", () -> Checks.view(x, 0));
                    x.uidStore(0, 1, 9, 1, 8);
                    x.expunge(0);
                    Checks.due("where all that had one are gone", "", () -> Checks.view(x, 0));
                    x.deliver(0, 5, 2);
                    x.noop(0);
                    Checks.due("the one that came behind them", "1:5a", () -> Checks.view(x, 0));
                    x.noop(1);
                    Checks.due("none of those that came and went", "1:5a", () -> Checks.view(x, 1));
                });
    }

    private static void additionsToSixty() {
        TWO.holds("as long as there are fewer than 60 entries;", () -> {
            MailSessions x = Scenes.wide(58);
            x.deliver(0, 1, 1);
            x.fetch(0, 1, 1, true);
            Checks.due("the 59th", "0+59", () -> Checks.notices(x));
            makeRoomForOne(x);
            x.deliver(0, 1, 1);
            x.deliver(0, 1, 2);
            x.fetch(0, 1, 1, true);
            Checks.due("the 60th, and no other", "0+60", () -> Checks.notices(x));
            Checks.due("the first of the two", 1, () -> x.entry(0, 60, 1));
            Checks.due("the other is left", 1, () -> x.session(0, 6));
            x.fetch(0, 1, 1, true);
            Checks.due("it gets none", "", () -> Checks.notices(x));
            Checks.due("31 leave, and then it has room", 32, () -> x.noop(0));
            Checks.due("behind the others", 30, () -> x.numberOf(0, 61));
        });
        TWO.holds("one notice, if any of them got an entry: how many entries there are then", () -> {
            MailSessions x = load("box a;message a size 1 deleted;session s a;session t a;");
            x.deliver(0, 1, 0);
            x.noop(0);
            Checks.due("for one", "0+2", () -> Checks.notices(x));
            Scenes.deliver(x, 0, 9, 0);
            x.noop(0);
            Checks.due("one for nine", "0+11", () -> Checks.notices(x));
            x.noop(0);
            Checks.due("for none", "", () -> Checks.notices(x));
            x.expunge(0);
            x.deliver(0, 1, 0);
            x.fetch(1, 1, 1, true);
            Checks.due("those that are gone are entries still", "1+12", () -> Checks.notices(x));
            MailSessions full = Scenes.wide(60);
            makeRoomForOne(full);
            full.deliver(0, 1, 0);
            full.fetch(0, 1, 1, true);
            Checks.due("none, if none got an entry", "", () -> Checks.notices(full));
        });
    }

    private static void commands() {
        THREE.namesNone("3. COMMANDS.");
        THREE.holds("select(), noop(), startIdle(), stopIdle(), fetch(), store(), uidStore(), search(), expunge(), uidExpunge(), "
                + "copy(), move() and close() are commands of a session.", () -> {
                    MailSessions x = load(TEXT);
                    x.select(0, 0, false);
                    x.noop(0);
                    x.startIdle(0);
                    x.stopIdle(0);
                    x.fetch(0, 1, 1, true);
                    x.store(0, 1, 1, 0, 0, false);
                    x.uidStore(0, 5, 4, 0, 0);
                    Checks.found(x, 0, "all");
                    x.expunge(0);
                    x.uidExpunge(0, 5, 4);
                    x.copy(0, 1, 1, 1);
                    x.move(0, 1, 1, 1);
                    x.close(0);
                    Checks.due("thirteen", 13, () -> x.account(0, 0));
                    x.deliver(0, 1, 1);
                    x.setLimit(30);
                    Checks.searched(x, 0, "all");
                    x.keep(0);
                    x.restore(0);
                    x.deliver(0, 1, 1);
                    x.undo();
                    Checks.due("no more", 13, () -> x.account(0, 0));
                    Checks.due("of another session none", 0, () -> x.account(1, 0));
                });
    }

    private static void refusals() {
        THREE.holds("A session that has no box, or is idle, refuses all commands but select() and stopIdle()", () -> {
            for (int session : new int[] {3, 1}) {
                Checks.refused(Checks.STATE, "noop", Scenes::busy, x -> x.noop(session));
                Checks.refused(Checks.STATE, "startIdle", Scenes::busy, x -> x.startIdle(session));
                Checks.refused(Checks.STATE, "uidStore", Scenes::busy, x -> x.uidStore(session, 1, 9, 0, 0));
                Checks.refused(Checks.STATE, "search", Scenes::busy, x -> x.search(session));
                Checks.refused(Checks.STATE, "expunge", Scenes::busy, x -> x.expunge(session));
                Checks.refused(Checks.STATE, "uidExpunge", Scenes::busy, x -> x.uidExpunge(session, 1, 9));
                Checks.refused(Checks.STATE, "close", Scenes::busy, x -> x.close(session));
            }
            Checks.refused(Checks.STATE, "fetch", Scenes::busy, x -> x.fetch(1, 1, 1, true));
            Checks.refused(Checks.STATE, "store", Scenes::busy, x -> x.store(1, 1, 1, 0, 0, true));
            Checks.refused(Checks.STATE, "copy", Scenes::busy, x -> x.copy(1, 1, 1, 1));
            Checks.refused(Checks.STATE, "move", Scenes::busy, x -> x.move(1, 1, 1, 1));
            Checks.due("select of one without a box", 4, () -> Scenes.busy().select(3, 0, false));
            Checks.due("stopIdle of one that is idle", 0, () -> Scenes.busy().stopIdle(1));
            Checks.due("a session that closed its box has none", "throws." + Checks.STATE, () -> {
                MailSessions x = Scenes.busy();
                x.close(0);
                return x.noop(0);
            });
        });
        THREE.holds("(only an idle session takes stopIdle();", () -> {
            Checks.refused(Checks.STATE, "one that has a box", Scenes::busy, x -> x.stopIdle(0));
            Checks.refused(Checks.STATE, "one that only reads", Scenes::busy, x -> x.stopIdle(2));
            Checks.refused(Checks.STATE, "one that has none", Scenes::busy, x -> x.stopIdle(3));
            MailSessions x = Scenes.busy();
            x.stopIdle(1);
            Checks.dueState("one that was idle", () -> x.stopIdle(1));
        });
        THREE.holds("select() is refused while idle).", () -> {
            Checks.refused(Checks.STATE, "the other box", Scenes::busy, x -> x.select(1, 1, false));
            Checks.refused(Checks.STATE, "its own box", Scenes::busy, x -> x.select(1, 0, true));
            MailSessions x = Scenes.busy();
            x.stopIdle(1);
            Checks.due("and taken behind it", 2, () -> x.select(1, 1, false));
        });
        THREE.holds("A session that only reads refuses store(), uidStore(), expunge(), uidExpunge() and move().", () -> {
            Checks.refused(Checks.STATE, "store", Scenes::busy, x -> x.store(2, 1, 1, 0, 0, true));
            Checks.refused(Checks.STATE, "uidStore", Scenes::busy, x -> x.uidStore(2, 1, 9, 0, 0));
            Checks.refused(Checks.STATE, "expunge", Scenes::busy, x -> x.expunge(2));
            Checks.refused(Checks.STATE, "uidExpunge", Scenes::busy, x -> x.uidExpunge(2, 1, 9));
            Checks.refused(Checks.STATE, "move", Scenes::busy, x -> x.move(2, 1, 1, 1));
            Checks.refused(Checks.STATE, "move of what is gone", Scenes::busy, x -> x.move(2, 2, 2, 1));
            Checks.due("noop", 3, () -> Scenes.busy().noop(2));
            Checks.due("startIdle", 3, () -> Scenes.busy().startIdle(2));
            Checks.due("fetch", 80, () -> Scenes.busy().fetch(2, 1, 4, false));
            Checks.due("search", 18L, () -> Scenes.busy().search(2));
            Checks.due("copy", 1, () -> Scenes.busy().copy(2, 1, 1, 1));
            Checks.due("close", 0, () -> Scenes.busy().close(2));
            Checks.due("select, and then expunge", 0, () -> {
                MailSessions x = Scenes.busy();
                x.select(2, 0, false);
                return x.expunge(2);
            });
        });
    }

    /** Session 1 lags behind by a removal, flags and a message. */
    private static MailSessions lagging() {
        MailSessions x = load("box a;box b;message a size 10;message a size 20 deleted;message a size 30 seen;"
                + "session s a;session t a;session u b;");
        x.expunge(0);
        x.uidStore(0, 3, 3, 0, 4);
        x.deliver(0, 5, 16);
        return x;
    }

    private static void told(String notices, Checks.Act command) {
        MailSessions x = lagging();
        command.on(x);
        Checks.due("notices", notices, () -> Checks.notices(x));
    }

    private static void telling() {
        THREE.holds("Each command ends with telling its session: without removals for fetch(), store() and search();", () -> {
            told("1=3:f 1+4", x -> x.fetch(1, 1, 1, true));
            told("1=1:s 1=3:sf 1+4", x -> x.fetch(1, 1, 3, false));
            told("1=1:a 1=3:f 1+4", x -> x.store(1, 1, 1, 1, 2, false));
            told("1=3:f 1+4", x -> x.store(1, 2, 2, 1, 2, false));
            told("1=3:f 1+4", x -> Checks.found(x, 1, "all"));
            told("1=3:f 1+4", x -> Checks.found(x, 1, "not all"));
            told("0+3", x -> x.fetch(0, 1, 2, true));
        });
        THREE.holds("all for the others", () -> {
            told("1-2 1=2:f 1+3", x -> x.noop(1));
            told("1-2 1=2:f 1+3", x -> x.startIdle(1));
            told("1-2 1=2:f 1+3", x -> x.uidStore(1, 9, 9, 0, 0));
            told("1-2 1=2:f 1+3", x -> x.expunge(1));
            told("1-2 1=2:f 1+3", x -> x.uidExpunge(1, 2, 2));
            told("1-2 1=2:f 1+3", x -> x.copy(1, 1, 1, 1));
            told("1-2 1=2:f 1+3", x -> x.copy(1, 2, 2, 1));
            told("1-1 1-1 1=1:f 1+2", x -> x.move(1, 1, 1, 1));
            told("1-2 1=2:f 1+3", x -> x.move(1, 2, 2, 1));
            MailSessions x = lagging();
            x.startIdle(1);
            x.stopIdle(1);
            Checks.due("stopIdle has nothing left to tell", "", () -> Checks.notices(x));
        });
        THREE.holds("(but close(); select() makes a new view instead: an entry for each message, with its flags, "
                + "without notices).", () -> {
                    told("", x -> x.close(1));
                    told("", x -> x.select(1, 0, false));
                    told("", x -> x.select(1, 1, true));
                    MailSessions x = lagging();
                    Checks.due("an entry for each message", 3, () -> x.select(1, 0, true));
                    Checks.due("with its flags", "1:1 2:3f 3:4r", () -> Checks.view(x, 1));
                    Checks.due("none is pending", 0, () -> x.pending(1));
                    Checks.due("an empty box", 0, () -> x.select(1, 1, false));
                    Checks.due("has an empty view", "", () -> Checks.view(x, 1));
                    Checks.due("a full box", 30, () -> Scenes.full().select(1, 0, false));
                    Checks.due("none was told", 0, () -> x.account(1, 1) + x.account(1, 2) + x.account(1, 3));
                });
    }

    private static void idle() {
        THREE.holds("Behind it, and behind deliver(), each idle session, in ascending order, is told all.", () -> {
            MailSessions x = load("box a;box b;message a size 1 deleted;message a size 2;session s a;session t a;session u a;"
                    + "session v a;");
            x.deliver(0, 1, 0);
            Checks.due("none is idle", "", () -> Checks.notices(x));
            x.startIdle(3);
            x.startIdle(0);
            Checks.due("both are told once", "0+3", () -> Checks.notices(x));
            x.deliver(0, 3, 0);
            Checks.due("behind deliver()", "0+4 3+4", () -> Checks.notices(x));
            x.deliver(1, 3, 0);
            Checks.due("of their box alone", "", () -> Checks.notices(x));
            x.fetch(2, 2, 2, false);
            Checks.due("behind the session of the command", "2=2:s 2+4 0=2:s 3=2:s", () -> Checks.notices(x));
            x.expunge(1);
            Checks.due("removals too", "1-1 1=1:s 1+3 0-1 3-1", () -> Checks.notices(x));
            x.close(1);
            Checks.due("nothing new", "", () -> Checks.notices(x));
            x.store(2, 2, 2, 0, 8, true);
            Checks.due("behind a command that is told nothing", "0=1:d 3=1:d", () -> Checks.notices(x));
            x.select(1, 0, false);
            x.close(1);
            Checks.due("behind close()", "0-1 3-1", () -> Checks.notices(x));
            x.startIdle(2);
            Checks.due("one that is idle from now on, once", "2-1 2-1", () -> Checks.notices(x));
            x.stopIdle(2);
            x.deliver(0, 4, 0);
            Checks.due("not one that is idle no more", "0+3 3+3", () -> Checks.notices(x));
        });
    }

    private static void ranges() {
        THREE.holds("Commands with numbers act on the entries of a range that are not gone.", () -> {
            MailSessions x = load("box a;box b;message a size 1 deleted;message a size 2;message a size 4 deleted;message a size 8;"
                    + "session s a;session t a;");
            x.expunge(0);
            Checks.due("fetch of all", 10, () -> x.fetch(1, 1, 4, true));
            Checks.due("fetch of the first", 0, () -> x.fetch(1, 1, 1, true));
            Checks.due("fetch of the last", 8, () -> x.fetch(1, 4, 4, true));
            Checks.due("fetch of two", 2, () -> x.fetch(1, 2, 3, true));
            Checks.due("store to all", 2, () -> x.store(1, 1, 4, 0, 16, true));
            Checks.due("what those that are gone were told stays", "1:1d! 2:2r 3:3d! 4:4r", () -> Checks.view(x, 1));
            Checks.due("store to one that is gone", 0, () -> x.store(1, 3, 3, 0, 16, true));
            Checks.due("copy of one that is gone", 0, () -> x.copy(1, 3, 3, 1));
            x.undo();
            Checks.due("copy of all", 2, () -> x.copy(1, 1, 4, 1));
            x.undo();
            Checks.due("move of one that is gone", 0, () -> x.move(1, 1, 1, 1));
            x.undo();
            Checks.due("move of all", 2, () -> x.move(1, 1, 4, 1));
            Checks.due("none is left", 0, () -> x.box(0, 0));
        });
    }
}
