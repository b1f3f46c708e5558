/** Promises 29 to 35 and 37 to 43: the commands, deliver() and setLimit(), and who is told what and when. */
public final class CommandsTest {
    /** Sessions 0 and 1 have box a, 2 only reads it, 3 has none. */
    private static final String TEXT = "box a;box b;message a size 10;message a size 20 deleted;message a size 30 seen;"
            + "message a size 40 deleted;session s a;session t a;session u reads a;session v;";

    public static void main(String[] args) {
        select();
        selectRefused();
        noop();
        startAndStopIdle();
        idleIsTold();
        refusals();
        fetch();
        fetchThrows();
        store();
        storeThrows();
        uidStore();
        expunge();
        uidExpunge();
        copy();
        copyRoom();
        copyThrows();
        move();
        moveThrows();
        close();
        deliver();
        setLimit();
        viewOfSixty();
        newsBehindAllEntries();
        Checks.end();
    }

    private static void select() {
        MailSessions x = Checks.loaded(TEXT);
        x.deliver(1, 5, 16);
        x.deliver(1, 6, 0);
        x.noop(0);
        Checks.due("select", 2, () -> x.select(0, 1, false));
        Checks.due("makes no notices", "", () -> Checks.notices(x));
        Checks.due("the view of b", "1:1r 2:2", () -> Checks.view(x, 0));
        Checks.due("nothing is removed", 4, () -> x.box(0, 0));
        Checks.due("sessions of a", 6, () -> x.box(0, 5));
        Checks.due("writes", 0, () -> x.session(0, 1));
        Checks.due("select to read", 4, () -> x.select(3, 0, true));
        Checks.due("only reads", 1, () -> x.session(3, 1));
        Checks.due("current", true, () -> x.isCurrent(3));
        Checks.due("select again to write", 4, () -> x.select(2, 0, false));
        Checks.due("writes from now on", 0, () -> x.session(2, 1));
        Checks.due("so it expunges", 2, () -> x.expunge(2));
        Checks.due("the one that reads still has 4", 4, () -> x.session(3, 3));
        Checks.due("selecting the same box makes a new view", 2, () -> x.select(3, 0, false));
        Checks.due("of these", "1:1 2:3s", () -> Checks.view(x, 3));
        x.startIdle(1);
        x.uidStore(0, 1, 1, 1, 1);
        Checks.due("select leaves the notices of its own act", 2, () -> x.select(3, 0, false));
        Checks.due("none", "", () -> Checks.notices(x));
        Checks.due("commands of 3", 3, () -> x.account(3, 0));
        Checks.due("it can be undone", 5, x::undo);
    }

    private static void selectRefused() {
        MailSessions x = Checks.loaded(TEXT);
        x.startIdle(0);
        Checks.dueUnchanged(x, "select while idle", "IllegalStateException", () -> x.select(0, 1, false));
        Checks.dueUnchanged(x, "select no box while idle", "IndexOutOfBoundsException", () -> x.select(0, 2, false));
        Checks.dueUnchanged(x, "select box -1", "IndexOutOfBoundsException", () -> x.select(1, -1, false));
        Checks.dueUnchanged(x, "select for session 4", "IndexOutOfBoundsException", () -> x.select(4, 0, false));
        Checks.dueUnchanged(x, "select for session -1", "IndexOutOfBoundsException", () -> x.select(-1, 0, false));
    }

    private static void noop() {
        MailSessions x = Checks.loaded("box a;message a size 1 deleted;message a size 2;message a size 3 deleted;"
                + "message a size 4 deleted;message a size 5;session s a;session t a;");
        x.expunge(0);
        Checks.due("removals as they are told", "0-1 0-2 0-2", () -> Checks.notices(x));
        x.uidStore(0, 1, 5, 1, 20);
        x.deliver(0, 9, 0);
        x.deliver(0, 8, 1);
        Checks.due("noop", 6, () -> x.noop(1));
        Checks.due("in this order", "1-1 1-2 1-2 1=1:fr 1=2:fr 1+4", () -> Checks.notices(x));
        Checks.due("the view", "1:2fr 2:5fr 3:6 4:7s", () -> Checks.view(x, 1));
        Checks.due("noop of one that is current", 0, () -> x.noop(1));
        Checks.due("has no notices", 0, () -> x.property(4));
        Checks.due("removals", 3, () -> x.account(1, 1));
        Checks.due("flags", 2, () -> x.account(1, 2));
        Checks.due("entries", 1, () -> x.account(1, 3));
        Checks.due("commands", 2, () -> x.account(1, 0));
        Checks.due("undo", 5, x::undo);
        Checks.dueIndex("noop of session 2", () -> x.noop(2));
        Checks.dueIndex("noop of session -1", () -> x.noop(-1));
    }

    private static void startAndStopIdle() {
        MailSessions x = Checks.loaded(TEXT);
        x.expunge(0);
        x.deliver(0, 1, 0);
        Checks.due("startIdle", 3, () -> x.startIdle(1));
        Checks.due("tells once", "1-2 1-3 1+3", () -> Checks.notices(x));
        Checks.due("idle", 1, () -> x.session(1, 2));
        Checks.dueUnchanged(x, "startIdle again", "IllegalStateException", () -> x.startIdle(1));
        Checks.dueUnchanged(x, "startIdle without a box", "IllegalStateException", () -> x.startIdle(3));
        Checks.dueUnchanged(x, "startIdle(4)", "IndexOutOfBoundsException", () -> x.startIdle(4));
        Checks.dueUnchanged(x, "stopIdle of one that is not", "IllegalStateException", () -> x.stopIdle(0));
        Checks.dueUnchanged(x, "stopIdle without a box", "IllegalStateException", () -> x.stopIdle(3));
        Checks.dueUnchanged(x, "stopIdle(-1)", "IndexOutOfBoundsException", () -> x.stopIdle(-1));
        Checks.due("stopIdle", 0, () -> x.stopIdle(1));
        Checks.due("idle no more", 0, () -> x.session(1, 2));
        Checks.due("both are commands", 2, () -> x.account(1, 0));
        x.deliver(0, 1, 0);
        Checks.due("and it is told no more", 1, () -> x.pending(1));
        x.undo();
        x.undo();
        Checks.due("undo makes it idle again", 1, () -> x.session(1, 2));
        Checks.due("one that only reads may be idle", 3, () -> x.startIdle(2));
    }

    private static void idleIsTold() {
        MailSessions x = Checks.loaded(TEXT);
        x.startIdle(2);
        x.startIdle(0);
        x.fetch(1, 1, 1, false);
        Checks.due("its own session first, then the idle ones in their order", "1=1:s 0=1:s 2=1:s", () -> Checks.notices(x));
        x.store(1, 1, 1, 0, 4, true);
        Checks.due("behind a silent store", "0=1:f 2=1:f", () -> Checks.notices(x));
        x.copy(1, 1, 2, 0);
        Checks.due("behind copy", "1+6 0+6 2+6", () -> Checks.notices(x));
        x.uidExpunge(1, 1, 5);
        Checks.due("behind uidExpunge", "1-2 1-3 0-2 0-3 2-2 2-3", () -> Checks.notices(x));
        x.deliver(0, 3, 1);
        Checks.due("behind deliver", "0+5 2+5", () -> Checks.notices(x));
        x.select(1, 0, false);
        x.store(1, 1, 5, 1, 8, true);
        x.close(1);
        Checks.due("behind close", "0-1 0-1 0-1 0-1 0-1 2-1 2-1 2-1 2-1 2-1", () -> Checks.notices(x));
        Checks.due("all of it was told", 0, x::stale);
        Checks.due("removals of 2", 7, () -> x.account(2, 1));
        Checks.due("flags of 2", 6, () -> x.account(2, 2));
        Checks.due("entries of 2", 2, () -> x.account(2, 3));
        x.deliver(1, 4, 0);
        Checks.due("another box is no news", "", () -> Checks.notices(x));
    }

    private static void refusals() {
        MailSessions x = Checks.loaded(TEXT);
        x.startIdle(0);
        Checks.dueUnchanged(x, "noop while idle", "IllegalStateException", () -> x.noop(0));
        Checks.dueUnchanged(x, "fetch while idle", "IllegalStateException", () -> x.fetch(0, 1, 1, true));
        Checks.dueUnchanged(x, "store while idle", "IllegalStateException", () -> x.store(0, 1, 1, 0, 0, true));
        Checks.dueUnchanged(x, "uidStore while idle", "IllegalStateException", () -> x.uidStore(0, 1, 1, 0, 0));
        Checks.dueUnchanged(x, "expunge while idle", "IllegalStateException", () -> x.expunge(0));
        Checks.dueUnchanged(x, "uidExpunge while idle", "IllegalStateException", () -> x.uidExpunge(0, 1, 1));
        Checks.dueUnchanged(x, "copy while idle", "IllegalStateException", () -> x.copy(0, 1, 1, 1));
        Checks.dueUnchanged(x, "move while idle", "IllegalStateException", () -> x.move(0, 1, 1, 1));
        Checks.dueUnchanged(x, "close while idle", "IllegalStateException", () -> x.close(0));
        Checks.dueUnchanged(x, "noop without a box", "IllegalStateException", () -> x.noop(3));
        Checks.dueUnchanged(x, "uidStore without a box", "IllegalStateException", () -> x.uidStore(3, 1, 1, 0, 0));
        Checks.dueUnchanged(x, "expunge without a box", "IllegalStateException", () -> x.expunge(3));
        Checks.dueUnchanged(x, "uidExpunge without a box", "IllegalStateException", () -> x.uidExpunge(3, 1, 1));
        Checks.dueUnchanged(x, "close without a box", "IllegalStateException", () -> x.close(3));
        Checks.dueUnchanged(x, "fetch without a box", "IndexOutOfBoundsException", () -> x.fetch(3, 1, 1, true));
        Checks.dueUnchanged(x, "store only reading", "IllegalStateException", () -> x.store(2, 1, 1, 0, 0, true));
        Checks.dueUnchanged(x, "uidStore only reading", "IllegalStateException", () -> x.uidStore(2, 1, 1, 0, 0));
        Checks.dueUnchanged(x, "expunge only reading", "IllegalStateException", () -> x.expunge(2));
        Checks.dueUnchanged(x, "uidExpunge only reading", "IllegalStateException", () -> x.uidExpunge(2, 1, 1));
        Checks.dueUnchanged(x, "move only reading", "IllegalStateException", () -> x.move(2, 1, 1, 1));
        Checks.due("fetch only reading", 10, () -> x.fetch(2, 1, 1, false));
        Checks.due("copy only reading", 2, () -> x.copy(2, 1, 2, 1));
        Checks.due("noop only reading", 0, () -> x.noop(2));
        Checks.dueIndex("expunge(4)", () -> x.expunge(4));
        Checks.dueIndex("expunge(-1)", () -> x.expunge(-1));
        Checks.dueIndex("uidExpunge(4)", () -> x.uidExpunge(4, 1, 1));
        Checks.dueIndex("close(4)", () -> x.close(4));
        Checks.dueIndex("close of a new object", () -> new MailSessions().close(0));
    }

    private static void fetch() {
        MailSessions x = Checks.loaded(TEXT);
        Checks.due("fetch with peek", 100, () -> x.fetch(0, 1, 4, true));
        Checks.due("leaves the flags", "1:10 2:20d 3:30s 4:40d", () -> Checks.box(x, 0));
        Checks.due("fetch of one that only reads", 10, () -> x.fetch(2, 1, 1, false));
        Checks.due("leaves the flags too", "1:10 2:20d 3:30s 4:40d", () -> Checks.box(x, 0));
        Checks.due("fetch", 50, () -> x.fetch(0, 2, 3, false));
        Checks.due("makes seen", "1:10 2:20sd 3:30s 4:40d", () -> Checks.box(x, 0));
        Checks.due("and tells of what changed", "0=2:sd", () -> Checks.notices(x));
        x.deliver(0, 50, 0);
        x.expunge(1);
        Checks.due("fetch of some that are gone", 40, () -> x.fetch(0, 1, 4, false));
        Checks.due("tells without removals", "0=1:s 0+5", () -> Checks.notices(x));
        Checks.due("the view", "1:1s 2:2sd! 3:3s 4:4d! 5:5", () -> Checks.view(x, 0));
        Checks.due("fetch of one that is gone", 0, () -> x.fetch(0, 2, 2, false));
        Checks.due("sums of fetch", 190, () -> x.account(0, 4));
        Checks.due("commands", 4, () -> x.account(0, 0));
        x.undo();
        x.undo();
        Checks.due("sums of fetch behind undo", 150, () -> x.account(0, 4));
    }

    private static void fetchThrows() {
        MailSessions x = Checks.loaded(TEXT);
        x.startIdle(1);
        Checks.dueUnchanged(x, "fetch from 0", "IndexOutOfBoundsException", () -> x.fetch(0, 0, 1, false));
        Checks.dueUnchanged(x, "fetch to 5", "IndexOutOfBoundsException", () -> x.fetch(0, 1, 5, false));
        Checks.dueUnchanged(x, "fetch from 5 to 1", "IndexOutOfBoundsException", () -> x.fetch(0, 5, 1, false));
        Checks.dueUnchanged(x, "fetch from 1 to 0", "IndexOutOfBoundsException", () -> x.fetch(0, 1, 0, false));
        Checks.dueUnchanged(x, "fetch from min to max", "IndexOutOfBoundsException",
                () -> x.fetch(0, Integer.MIN_VALUE, Integer.MAX_VALUE, false));
        Checks.dueUnchanged(x, "fetch from 2 to 1", "IllegalArgumentException", () -> x.fetch(0, 2, 1, false));
        Checks.dueUnchanged(x, "fetch from 2 to 1 while idle", "IllegalArgumentException", () -> x.fetch(1, 2, 1, false));
        Checks.dueUnchanged(x, "fetch of session 4", "IndexOutOfBoundsException", () -> x.fetch(4, 2, 1, false));
        Checks.dueUnchanged(x, "fetch of session -1", "IndexOutOfBoundsException", () -> x.fetch(-1, 1, 1, false));
    }

    private static void store() {
        MailSessions x = Checks.loaded(TEXT);
        Checks.due("store adds", 3, () -> x.store(0, 1, 3, 1, 8 | 2, false));
        Checks.due("added", "1:10ad 2:20ad 3:30sad 4:40d", () -> Checks.box(x, 0));
        Checks.due("told", "0=1:ad 0=2:ad 0=3:sad", () -> Checks.notices(x));
        Checks.due("store adds what is there", 0, () -> x.store(0, 1, 3, 1, 8, false));
        Checks.due("store takes", 3, () -> x.store(0, 1, 4, 2, 2, true));
        Checks.due("taken", "1:10d 2:20d 3:30sd 4:40d", () -> Checks.box(x, 0));
        Checks.due("silently", "", () -> Checks.notices(x));
        Checks.due("told all the same", "1:1d 2:2d 3:3sd 4:4d", () -> Checks.view(x, 0));
        Checks.due("store sets", 2, () -> x.store(1, 2, 3, 0, 31, true));
        Checks.due("set", "1:10d 2:20safdr 3:30safdr 4:40d", () -> Checks.box(x, 0));
        Checks.due("of others it is told", "1=1:d", () -> Checks.notices(x));
        Checks.due("silent store of what another set", 0, () -> x.store(0, 3, 3, 1, 31, true));
        Checks.due("counts as told, changed or not", "0=2:safdr", () -> Checks.notices(x));
        Checks.due("store to no flags", 4, () -> x.store(0, 1, 4, 0, 0, false));
        x.store(0, 1, 2, 1, 8, true);
        x.expunge(0);
        Checks.due("store with some that are gone", 2, () -> x.store(1, 1, 4, 0, 16, false));
        Checks.due("without removals", "1=3:r 1=4:r", () -> Checks.notices(x));
        Checks.due("silent store on one that is gone", 0, () -> x.store(1, 1, 2, 0, 1, true));
        Checks.due("leaves what it was told", "1:1d! 2:2safdr! 3:3r 4:4r", () -> Checks.view(x, 1));
    }

    private static void storeThrows() {
        MailSessions x = Checks.loaded(TEXT);
        x.startIdle(1);
        Checks.dueUnchanged(x, "store of session 4", "IndexOutOfBoundsException", () -> x.store(4, 1, 1, 3, 32, false));
        Checks.dueUnchanged(x, "store from 0", "IndexOutOfBoundsException", () -> x.store(0, 0, 1, 3, 0, false));
        Checks.dueUnchanged(x, "store to 5", "IndexOutOfBoundsException", () -> x.store(0, 1, 5, 0, 32, false));
        Checks.dueUnchanged(x, "store from 3 to 2", "IllegalArgumentException", () -> x.store(0, 3, 2, 0, 0, false));
        Checks.dueUnchanged(x, "store mode 3", "IllegalArgumentException", () -> x.store(0, 1, 1, 3, 0, false));
        Checks.dueUnchanged(x, "store mode -1", "IllegalArgumentException", () -> x.store(0, 1, 1, -1, 0, false));
        Checks.dueUnchanged(x, "store flags 32", "IllegalArgumentException", () -> x.store(0, 1, 1, 0, 32, false));
        Checks.dueUnchanged(x, "store flags -1", "IllegalArgumentException", () -> x.store(0, 1, 1, 0, -1, false));
        Checks.dueUnchanged(x, "store mode 3 while idle", "IllegalArgumentException", () -> x.store(1, 1, 1, 3, 0, false));
        Checks.dueUnchanged(x, "store flags 32 reading", "IllegalArgumentException", () -> x.store(2, 1, 1, 0, 32, false));
    }

    private static void uidStore() {
        MailSessions x = Checks.loaded(TEXT);
        x.deliver(0, 50, 0);
        x.deliver(0, 60, 1);
        Checks.due("uidStore, with an entry or not", 4, () -> x.uidStore(0, 3, 9, 1, 2));
        Checks.due("the box", "1:10 2:20d 3:30sa 4:40ad 5:50a 6:60sa", () -> Checks.box(x, 0));
        Checks.due("tells all", "0=3:sa 0=4:ad 0+6", () -> Checks.notices(x));
        Checks.due("uidStore takes", 2, () -> x.uidStore(0, Integer.MIN_VALUE, 4, 2, 2));
        Checks.due("uidStore sets", 2, () -> x.uidStore(0, 5, Integer.MAX_VALUE, 0, 31));
        Checks.due("uidStore of none", 0, () -> x.uidStore(0, 4, 3, 0, 5));
        Checks.due("uidStore of uids that are not there", 0, () -> x.uidStore(0, 7, 100, 0, 5));
        Checks.due("uidStore of one", 1, () -> x.uidStore(0, 2, 2, 0, 5));
        Checks.due("uidStore of what it is", 0, () -> x.uidStore(0, 2, 2, 0, 5));
        x.expunge(1);
        x.uidStore(0, 1, 1, 1, 2);
        Checks.due("tells of removals too", "0-4 0-4 0-4 0=1:a", () -> Checks.notices(x));
        x.startIdle(1);
        Checks.dueUnchanged(x, "uidStore mode 3 while idle", "IllegalArgumentException", () -> x.uidStore(1, 1, 1, 3, 0));
        Checks.dueUnchanged(x, "uidStore mode -1", "IllegalArgumentException", () -> x.uidStore(0, 1, 1, -1, 0));
        Checks.dueUnchanged(x, "uidStore flags 32", "IllegalArgumentException", () -> x.uidStore(0, 1, 1, 0, 32));
        Checks.dueUnchanged(x, "uidStore flags -1 without a box", "IllegalArgumentException", () -> x.uidStore(3, 1, 1, 0, -1));
        Checks.dueUnchanged(x, "uidStore of 4", "IndexOutOfBoundsException", () -> x.uidStore(4, 1, 1, 3, 0));
    }

    private static void expunge() {
        MailSessions x = Checks.loaded(TEXT);
        x.deliver(0, 50, 8);
        Checks.due("expunge, with an entry or not", 3, () -> x.expunge(0));
        Checks.due("the box", "1:10 3:30s", () -> Checks.box(x, 0));
        Checks.due("told", "0-2 0-3", () -> Checks.notices(x));
        Checks.due("the next uid", 6, () -> x.box(0, 1));
        Checks.due("of another session", 2, () -> x.session(1, 4));
        Checks.due("whose entries are still there", "1:1 2:2d! 3:3s 4:4d!", () -> Checks.view(x, 1));
        Checks.due("expunge of none", 0, () -> x.expunge(1));
        Checks.due("tells of what is gone", "1-2 1-3", () -> Checks.notices(x));
        Checks.due("a uid is never given again", 6, () -> x.deliver(0, 1, 0));
    }

    private static void uidExpunge() {
        MailSessions x = Checks.loaded(TEXT);
        Checks.due("uidExpunge of none", 0, () -> x.uidExpunge(0, 4, 2));
        Checks.due("uidExpunge of one not deleted", 0, () -> x.uidExpunge(0, 3, 3));
        Checks.due("uidExpunge", 1, () -> x.uidExpunge(0, 3, 4));
        Checks.due("the box", "1:10 2:20d 3:30s", () -> Checks.box(x, 0));
        Checks.due("told", "0-4", () -> Checks.notices(x));
        Checks.due("uidExpunge from the first", 1, () -> x.uidExpunge(0, 2, 2));
        Checks.due("undo", 4, x::undo);
        Checks.due("uidExpunge from far", 1, () -> x.uidExpunge(0, Integer.MIN_VALUE, Integer.MAX_VALUE));
    }

    private static void copy() {
        MailSessions x = Checks.loaded(TEXT);
        x.select(3, 1, false);
        Checks.due("copy", 3, () -> x.copy(0, 2, 4, 1));
        Checks.due("the other box", "1:20d 2:30s 3:40d", () -> Checks.box(x, 1));
        Checks.due("the same box", "1:10 2:20d 3:30s 4:40d", () -> Checks.box(x, 0));
        Checks.due("none is told", "", () -> Checks.notices(x));
        Checks.due("but would be", 1, () -> x.pending(3));
        Checks.due("copy into its own box", 2, () -> x.copy(0, 1, 2, 0));
        Checks.due("in their order", "1:10 2:20d 3:30s 4:40d 5:10 6:20d", () -> Checks.box(x, 0));
        Checks.due("it is told", "0+6", () -> Checks.notices(x));
        x.expunge(1);
        Checks.due("copy of some that are gone", 2, () -> x.copy(0, 2, 5, 1));
        Checks.due("tells with removals", "0-2 0-3 0-4", () -> Checks.notices(x));
        Checks.due("the other box then", "1:20d 2:30s 3:40d 4:30s 5:10", () -> Checks.box(x, 1));
        Checks.due("copy of the flags now", 1, () -> copyBehindChange(x));
    }

    private static int copyBehindChange(MailSessions x) {
        x.uidStore(1, 1, 1, 0, 16);
        int copied = x.copy(0, 1, 1, 1);
        Checks.due("has them", "1:20d 2:30s 3:40d 4:30s 5:10 6:10r", () -> Checks.box(x, 1));
        return copied;
    }

    private static void copyRoom() {
        MailSessions x = Checks.loaded("limit 5;box a;box b;message a size 1;message a size 2 deleted;"
                + "message a size 3;message b size 4;message b size 5;session s a;session t a;");
        Checks.due("copy to the limit", 3, () -> x.copy(0, 1, 3, 1));
        Checks.dueUnchanged(x, "copy over the limit", "IllegalStateException", () -> x.copy(0, 1, 1, 1));
        Checks.dueUnchanged(x, "copy over the limit in its box", "IllegalStateException", () -> x.copy(0, 1, 3, 0));
        x.setLimit(2);
        x.expunge(1);
        Checks.due("there is room for none", 0, () -> x.copy(0, 2, 2, 1));
        Checks.due("and that is a command", "0-2", () -> Checks.notices(x));
        Checks.dueUnchanged(x, "copy above a lowered limit", "IllegalStateException", () -> x.copy(0, 1, 1, 0));
        x.setLimit(3);
        Checks.due("copy below it", 1, () -> x.copy(0, 1, 1, 0));
    }

    private static void copyThrows() {
        MailSessions x = Checks.loaded("limit 4;" + TEXT);
        x.startIdle(1);
        Checks.dueUnchanged(x, "copy into box 2", "IndexOutOfBoundsException", () -> x.copy(0, 2, 1, 2));
        Checks.dueUnchanged(x, "copy into box -1", "IndexOutOfBoundsException", () -> x.copy(1, 1, 1, -1));
        Checks.dueUnchanged(x, "copy from 0", "IndexOutOfBoundsException", () -> x.copy(0, 0, 1, 1));
        Checks.dueUnchanged(x, "copy to 5", "IndexOutOfBoundsException", () -> x.copy(0, 1, 5, 1));
        Checks.dueUnchanged(x, "copy of session 4", "IndexOutOfBoundsException", () -> x.copy(4, 1, 1, 1));
        Checks.dueUnchanged(x, "copy without a box", "IndexOutOfBoundsException", () -> x.copy(3, 1, 1, 1));
        Checks.dueUnchanged(x, "copy from 2 to 1 without room", "IllegalArgumentException", () -> x.copy(0, 2, 1, 0));
        Checks.dueUnchanged(x, "copy from 2 to 1 while idle", "IllegalArgumentException", () -> x.copy(1, 2, 1, 1));
        Checks.dueUnchanged(x, "copy without room", "IllegalStateException", () -> x.copy(0, 1, 1, 0));
    }

    private static void move() {
        MailSessions x = Checks.loaded(TEXT);
        x.startIdle(1);
        Checks.due("move", 2, () -> x.move(0, 2, 3, 1));
        Checks.due("from", "1:10 4:40d", () -> Checks.box(x, 0));
        Checks.due("into", "1:20d 2:30s", () -> Checks.box(x, 1));
        Checks.due("told", "0-2 0-2 1-2 1-2", () -> Checks.notices(x));
        Checks.due("move into its own box", 2, () -> x.move(0, 1, 2, 0));
        Checks.due("of new uids", "5:10 6:40d", () -> Checks.box(x, 0));
        Checks.due("told so", "0-1 0-1 0+2 1-1 1-1 1+2", () -> Checks.notices(x));
        x.stopIdle(1);
        x.expunge(1);
        Checks.due("move of one that is gone", 0, () -> x.move(0, 2, 2, 1));
        Checks.due("tells of it", "0-2", () -> Checks.notices(x));
        Checks.due("undo", 5, x::undo);
    }

    private static void moveThrows() {
        MailSessions x = Checks.loaded("limit 4;" + TEXT);
        x.startIdle(1);
        Checks.dueUnchanged(x, "move into box 2", "IndexOutOfBoundsException", () -> x.move(0, 2, 1, 2));
        Checks.dueUnchanged(x, "move from 0", "IndexOutOfBoundsException", () -> x.move(0, 0, 1, 1));
        Checks.dueUnchanged(x, "move to 5", "IndexOutOfBoundsException", () -> x.move(0, 1, 5, 1));
        Checks.dueUnchanged(x, "move of session 4", "IndexOutOfBoundsException", () -> x.move(4, 1, 1, 1));
        Checks.dueUnchanged(x, "move from 2 to 1 only reading", "IllegalArgumentException", () -> x.move(2, 2, 1, 1));
        Checks.dueUnchanged(x, "move without room, these still there", "IllegalStateException", () -> x.move(0, 1, 1, 0));
        x.setLimit(3);
        Checks.dueUnchanged(x, "move of 4 into room for 3", "IllegalStateException", () -> x.move(0, 1, 4, 1));
        x.stopIdle(1);
        Checks.due("move of 3", 3, () -> x.move(0, 1, 3, 1));
        Checks.due("move of none into a box without room", 0, () -> x.move(1, 1, 3, 1));
    }

    private static void close() {
        MailSessions x = Checks.loaded(TEXT);
        x.deliver(0, 50, 8);
        Checks.due("close only reading", 0, () -> x.close(2));
        Checks.due("removes nothing", 5, () -> x.box(0, 0));
        Checks.due("no box", -1, () -> x.session(2, 0));
        Checks.due("nor does it only read any more", 0, () -> x.session(2, 1));
        Checks.due("sessions of the box", 3, () -> x.box(0, 5));
        Checks.due("close", 3, () -> x.close(0));
        Checks.due("removes", "1:10 3:30s", () -> Checks.box(x, 0));
        Checks.due("is not told", "", () -> Checks.notices(x));
        Checks.due("no removals counted", 0, () -> x.account(0, 1));
        Checks.due("a command counted", 1, () -> x.account(0, 0));
        Checks.due("no entries", 0, () -> x.session(0, 3));
        Checks.due("nothing pending", 0, () -> x.pending(0));
        Checks.due("not current", false, () -> x.isCurrent(0));
        Checks.due("not stale", 2, x::stale);
        Checks.dueUnchanged(x, "close again", "IllegalStateException", () -> x.close(0));
        Checks.due("undo", 3, x::undo);
        Checks.due("has the view again", "1:1 2:2d 3:3s 4:4d", () -> Checks.view(x, 0));
    }

    private static void deliver() {
        MailSessions x = Checks.loaded("limit 3;" + "box a;box b;message a size 1;session s a;session t a;");
        Checks.due("deliver", 2, () -> x.deliver(0, 9999, 31));
        Checks.due("deliver the least", 3, () -> x.deliver(0, 1, 0));
        Checks.due("the box", "1:1 2:9999safdr 3:1", () -> Checks.box(x, 0));
        Checks.due("none is told", "", () -> Checks.notices(x));
        Checks.dueUnchanged(x, "deliver without room", "IllegalStateException", () -> x.deliver(0, 1, 0));
        Checks.dueUnchanged(x, "deliver size 0 without room", "IllegalArgumentException", () -> x.deliver(0, 0, 0));
        Checks.dueUnchanged(x, "deliver size 10000", "IllegalArgumentException", () -> x.deliver(1, 10000, 0));
        Checks.dueUnchanged(x, "deliver flags 32", "IllegalArgumentException", () -> x.deliver(1, 1, 32));
        Checks.dueUnchanged(x, "deliver flags -1", "IllegalArgumentException", () -> x.deliver(1, 1, -1));
        Checks.dueUnchanged(x, "deliver to box 2", "IndexOutOfBoundsException", () -> x.deliver(2, 0, 0));
        Checks.dueUnchanged(x, "deliver to box -1", "IndexOutOfBoundsException", () -> x.deliver(-1, 1, 0));
        Checks.due("deliver to b", 1, () -> x.deliver(1, 5, 2));
        Checks.due("messages", 4, () -> x.property(3));
        x.uidStore(0, 1, 9, 1, 8);
        x.expunge(0);
        Checks.due("deliver behind expunge", 4, () -> x.deliver(0, 1, 0));
        Checks.due("can be undone", 6, x::undoCount);
        x.undo();
        Checks.due("and its uid is free again", 4, () -> x.deliver(0, 1, 0));
    }

    private static void setLimit() {
        MailSessions x = Checks.loaded("limit 3;box a;message a size 1;message a size 2;session s a;");
        x.startIdle(0);
        x.deliver(0, 1, 0);
        Checks.dueUnchanged(x, "setLimit(0)", "IllegalArgumentException", () -> x.setLimit(0));
        Checks.dueUnchanged(x, "setLimit(31)", "IllegalArgumentException", () -> x.setLimit(31));
        Checks.due("setLimit(30)", 3, () -> x.setLimit(30));
        Checks.due("has no notices", 0, () -> x.property(4));
        Checks.due("setLimit(1)", 30, () -> x.setLimit(1));
        Checks.due("the limit", 1, () -> x.property(2));
        Checks.due("the messages", 3, () -> x.property(3));
        Checks.dueState("deliver above a lowered limit", () -> x.deliver(0, 1, 0));
        Checks.due("the same limit", 1, () -> x.setLimit(1));
        Checks.due("can be undone", 6, x::undoCount);
        x.undo();
        x.undo();
        Checks.due("undone", 30, () -> x.property(2));
    }

    /** Session 0 keeps the numbers of 30 that are gone, so that its view has room for 30 more. */
    private static void viewOfSixty() {
        MailSessions x = Checks.loaded("box a;session s a;session t a;");
        for (int k = 0; k < 30; k++) {
            x.deliver(0, 1, 8);
        }
        Checks.due("30 entries, one notice", 1, () -> x.noop(0));
        x.expunge(1);
        for (int k = 0; k < 28; k++) {
            x.deliver(0, 1, 8);
        }
        x.fetch(0, 1, 1, true);
        Checks.due("28 more", "0+58", () -> Checks.notices(x));
        x.noop(1);
        x.uidStore(1, 31, 32, 0, 0);
        x.expunge(1);
        for (int k = 0; k < 5; k++) {
            x.deliver(0, 1, 0);
        }
        Checks.due("messages for notice 2", 5, () -> x.session(0, 6));
        x.fetch(0, 1, 1, true);
        Checks.due("room for two of five", "0=31: 0=32: 0+60", () -> Checks.notices(x));
        Checks.due("the last entry", 60, () -> x.entry(0, 60, 0));
        Checks.due("messages left over", 3, () -> x.session(0, 6));
        x.fetch(0, 1, 1, true);
        Checks.due("no room, no notice", "", () -> Checks.notices(x));
        Checks.due("60 entries", 60, () -> x.session(0, 3));
        Checks.due("entries that are gone", 56, () -> x.session(0, 4));
        Checks.due("telling all would make room", 57, () -> x.pending(0));
        Checks.due("and does", 57, () -> x.noop(0));
        Checks.due("the view then", "1:31 2:32 3:59 4:60 5:61 6:62 7:63", () -> Checks.view(x, 0));
        Checks.due("removals told", 56, () -> x.account(0, 1));
        x.undo();
        Checks.due("fetch to entry 60", 2, () -> x.fetch(0, 59, 60, false));
        Checks.due("store to entry 60", 2, () -> x.store(0, 59, 60, 2, 1, false));
        Checks.due("copy to entry 60", 2, () -> x.copy(0, 59, 60, 0));
    }

    private static void newsBehindAllEntries() {
        MailSessions x = Checks.loaded("box a;message a size 1 deleted;message a size 1 deleted;session s a;session t a;");
        x.expunge(0);
        Checks.due("an empty box", 0, () -> x.session(0, 3));
        Checks.due("all of them had an entry once", 0, () -> x.session(0, 6));
        x.deliver(0, 7, 0);
        Checks.due("this one had none", 1, () -> x.session(0, 6));
        x.noop(0);
        x.uidStore(0, 3, 3, 0, 8);
        x.expunge(0);
        x.deliver(0, 8, 8);
        x.uidExpunge(1, 4, 4);
        Checks.due("one that came and went is no news", 0, () -> x.noop(0));
        MailSessions y = Checks.loaded("box a;session s a;");
        y.deliver(0, 8, 2);
        Checks.due("all messages, if none ever had", "0+1", () -> {
            y.noop(0);
            return Checks.notices(y);
        });
    }
}
