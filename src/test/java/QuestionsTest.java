/** Promises 9 to 27: what is asked of boxes, messages, sessions, entries, counts and notices. */
public final class QuestionsTest {
    /** Box a has a view that lags behind: ann (0) and bob (1, only reads) have it, cat (2) has b, dan (3) none. */
    private static MailSessions lagging() {
        MailSessions x = Checks.loaded("box a;box b;message a size 10 seen;message a size 20;message a size 40 deleted;"
                + "message a size 40 flagged;message b size 5;session ann a;session bob reads a;session cat b;session dan;");
        x.expunge(0);
        x.store(0, 1, 2, 1, 2, true);
        x.deliver(0, 7, 1);
        x.deliver(0, 8, 0);
        return x;
    }

    public static void main(String[] args) {
        property();
        box();
        message();
        indexOf();
        session();
        entry();
        numberOfAndNumberThen();
        pendingAndStale();
        firstUnseen();
        largest();
        common();
        holders();
        fractions();
        account();
        notice();
        nothingIsChanged();
        Checks.end();
    }

    private static void property() {
        MailSessions x = lagging();
        int[] due = {2, 4, 30, 6, 0};
        for (int what = 0; what < due.length; what++) {
            int asked = what;
            Checks.due("property " + what, due[what], () -> x.property(asked));
        }
        x.noop(1);
        Checks.due("notices", 4, () -> x.property(4));
        Checks.dueArgument("property 5", () -> x.property(5));
        Checks.dueArgument("property -1", () -> x.property(-1));
    }

    private static void box() {
        MailSessions x = lagging();
        int[] due = {5, 7, 85, 3, 0, 3};
        for (int what = 0; what < due.length; what++) {
            int asked = what;
            Checks.due("box 0, " + what, due[what], () -> x.box(0, asked));
        }
        x.uidStore(0, 1, 4, 0, 8);
        Checks.due("deleted ones", 3, () -> x.box(0, 4));
        Checks.due("unseen ones", 4, () -> x.box(0, 3));
        Checks.due("sessions of b", 4, () -> x.box(1, 5));
        Checks.dueIndex("no box -1", () -> x.box(-1, 0));
        Checks.dueIndex("no box 2", () -> x.box(2, 9));
        Checks.dueArgument("box 0, 6", () -> x.box(0, 6));
        Checks.dueArgument("box 0, -1", () -> x.box(0, -1));
    }

    private static void message() {
        MailSessions x = lagging();
        Checks.due("uid", 4, () -> x.message(0, 2, 0));
        Checks.due("size", 40, () -> x.message(0, 2, 1));
        Checks.due("flags", 4, () -> x.message(0, 2, 2));
        Checks.due("flags of the first", 3, () -> x.message(0, 0, 2));
        Checks.due("last uid", 6, () -> x.message(0, 4, 0));
        Checks.dueIndex("message 5", () -> x.message(0, 5, 0));
        Checks.dueIndex("message -1", () -> x.message(0, -1, 7));
        Checks.dueIndex("message of box 2", () -> x.message(2, 0, 7));
        Checks.dueArgument("message 3", () -> x.message(0, 0, 3));
        Checks.dueArgument("message -1", () -> x.message(0, 0, -1));
    }

    private static void indexOf() {
        MailSessions x = lagging();
        int[] due = {-1, 0, 1, -1, 2, 3, 4, -1};
        for (int uid = 0; uid < due.length; uid++) {
            int asked = uid;
            Checks.due("index of " + uid, due[uid], () -> x.indexOf(0, asked));
        }
        Checks.due("index of a great uid", -1, () -> x.indexOf(0, Integer.MAX_VALUE));
        Checks.due("index of a negative uid", -1, () -> x.indexOf(0, -1));
        Checks.dueIndex("box 2", () -> x.indexOf(2, 1));
        Checks.dueIndex("box -1", () -> x.indexOf(-1, 1));
    }

    private static void session() {
        MailSessions x = lagging();
        int[][] due = {{0, 0, 0, 3, 0, 0, 2}, {0, 1, 0, 4, 1, 2, 2}, {1, 0, 0, 1, 0, 0, 0}, {-1, 0, 0, 0, 0, 0, 0}};
        for (int session = 0; session < 4; session++) {
            for (int what = 0; what < 7; what++) {
                int asking = session;
                int asked = what;
                Checks.due("session " + session + ", " + what, due[session][what], () -> x.session(asking, asked));
            }
        }
        x.startIdle(1);
        Checks.due("idle", 1, () -> x.session(1, 2));
        Checks.due("entries of an idle one", 5, () -> x.session(1, 3));
        x.close(2);
        Checks.due("no box", -1, () -> x.session(2, 0));
        Checks.due("no entries", 0, () -> x.session(2, 3));
        Checks.dueIndex("session 4", () -> x.session(4, 9));
        Checks.dueIndex("session -1", () -> x.session(-1, 0));
        Checks.dueArgument("session 0, 7", () -> x.session(0, 7));
        Checks.dueArgument("session 3, -1", () -> x.session(3, -1));
    }

    private static void entry() {
        MailSessions x = lagging();
        int[][] due = {{1, 1, 0, 10, 3}, {2, 0, 0, 20, 2}, {3, 8, 1, 0, 0}, {4, 4, 0, 40, 4}};
        for (int number = 1; number <= 4; number++) {
            for (int what = 0; what < 5; what++) {
                int asking = number;
                int asked = what;
                Checks.due("entry " + number + ", " + what, due[number - 1][what], () -> x.entry(1, asking, asked));
            }
        }
        Checks.dueIndex("entry 5", () -> x.entry(1, 5, 9));
        Checks.dueIndex("entry 0", () -> x.entry(1, 0, 0));
        Checks.dueIndex("entry without a box", () -> x.entry(3, 1, 0));
        Checks.dueIndex("entry of session 4", () -> x.entry(4, 1, 0));
        Checks.dueArgument("entry 1, 5", () -> x.entry(1, 1, 5));
        Checks.dueArgument("entry 1, -1", () -> x.entry(1, 1, -1));
    }

    private static void numberOfAndNumberThen() {
        MailSessions x = lagging();
        int[] ofAnn = {-1, 1, 2, -1, 3, -1};
        int[] ofBob = {-1, 1, 2, 3, 4, -1};
        for (int uid = 0; uid < 6; uid++) {
            int asked = uid;
            Checks.due("number of " + uid + " for ann", ofAnn[uid], () -> x.numberOf(0, asked));
            Checks.due("number of " + uid + " for bob", ofBob[uid], () -> x.numberOf(1, asked));
            Checks.due("number of " + uid + " without a box", -1, () -> x.numberOf(3, asked));
        }
        Checks.due("number of a negative uid", -1, () -> x.numberOf(0, Integer.MIN_VALUE));
        Checks.dueIndex("session 4", () -> x.numberOf(4, 1));
        int[] then = {1, 2, -1, 3};
        for (int number = 1; number <= 4; number++) {
            int asked = number;
            Checks.due("number then of " + number, then[number - 1], () -> x.numberThen(1, asked));
        }
        Checks.dueIndex("entry 5", () -> x.numberThen(1, 5));
        Checks.dueIndex("entry 0", () -> x.numberThen(1, 0));
        Checks.dueIndex("entry of session -1", () -> x.numberThen(-1, 1));
    }

    private static void pendingAndStale() {
        MailSessions x = lagging();
        int[] pending = {1, 4, 0, 0};
        int[] current = {0, 0, 1, 0};
        for (int session = 0; session < 4; session++) {
            int asked = session;
            Checks.due("pending " + session, pending[session], () -> x.pending(asked));
            Checks.due("current " + session, current[session], () -> x.isCurrent(asked));
        }
        Checks.due("stale", 3, x::stale);
        x.noop(1);
        Checks.due("stale behind noop", 1, x::stale);
        Checks.due("current behind noop", true, () -> x.isCurrent(1));
        x.uidStore(0, 2, 2, 1, 16);
        Checks.due("stale by flags alone", 2, x::stale);
        Checks.due("pending by flags alone", 1, () -> x.pending(1));
        x.uidStore(0, 6, 6, 1, 16);
        Checks.due("flags of the last entry", 2, () -> x.session(1, 5));
        x.uidStore(0, 6, 6, 2, 16);
        x.uidStore(0, 2, 2, 2, 16);
        Checks.due("flags that are back again are no news", 0, x::stale);
        Checks.dueIndex("pending 4", () -> x.pending(4));
        Checks.dueIndex("current -1", () -> x.isCurrent(-1));
    }

    private static void firstUnseen() {
        MailSessions x = lagging();
        Checks.due("first unseen", 2, () -> x.firstUnseen(0));
        x.uidStore(0, 1, 2, 1, 1);
        Checks.due("what it was told counts", 2, () -> x.firstUnseen(1));
        Checks.due("the next one", 3, () -> x.firstUnseen(0));
        MailSessions gone = Checks.loaded("box a;message a size 1 seen;message a size 1 deleted;session s a;session t a;");
        gone.expunge(1);
        Checks.due("one that is gone counts", 2, () -> gone.firstUnseen(0));
        Checks.due("none", -1, () -> gone.firstUnseen(1));
        Checks.due("without a box", -1, () -> x.firstUnseen(3));
        Checks.dueIndex("session 4", () -> x.firstUnseen(4));
    }

    private static void largest() {
        MailSessions x = Checks.loaded("box a;message a size 5;message a size 9;message a size 7;message a size 9;"
                + "session s a;session t a;session u;");
        Checks.due("the lowest of several", 2, () -> x.largest(0));
        x.store(1, 2, 2, 1, 8, false);
        x.expunge(1);
        Checks.due("the first, of size 1", 1, () -> Checks.loaded("box a;message a size 1;session s a;").largest(0));
        Checks.due("one that is not gone", 4, () -> x.largest(0));
        Checks.due("of the other's numbers", 3, () -> x.largest(1));
        x.uidStore(1, 1, 9, 0, 8);
        x.expunge(1);
        Checks.due("all gone", -1, () -> x.largest(0));
        Checks.due("no entries", -1, () -> x.largest(1));
        Checks.due("without a box", -1, () -> x.largest(2));
        Checks.dueIndex("session 3", () -> x.largest(3));
    }

    private static void common() {
        MailSessions x = lagging();
        Checks.due("ann and bob", 3, () -> x.common(0, 1));
        Checks.due("bob and ann", 3, () -> x.common(1, 0));
        Checks.due("bob alone", 4, () -> x.common(1, 1));
        Checks.due("other boxes with the same uids", 0, () -> x.common(0, 2));
        Checks.due("without boxes", 0, () -> x.common(3, 3));
        Checks.dueIndex("other 4", () -> x.common(0, 4));
        Checks.dueIndex("session -1", () -> x.common(-1, 0));
    }

    private static void holders() {
        MailSessions x = lagging();
        int[] due = {0, 3, 3, 2, 3, 0};
        for (int uid = 0; uid < due.length; uid++) {
            int asked = uid;
            Checks.due("holders of " + uid, due[uid], () -> x.holders(0, asked));
        }
        Checks.due("holders in b", 4, () -> x.holders(1, 1));
        Checks.due("holders of a negative uid", 0, () -> x.holders(0, -1));
        Checks.dueIndex("box 2", () -> x.holders(2, 1));
    }

    private static void fractions() {
        MailSessions x = Checks.loaded("box a;box b;box c;message a size 1;message a size 3;message a size 9998 seen;"
                + "message b size 9 seen;");
        Checks.due("unseen of a", 2.0f / 3.0f, () -> x.unseen(0));
        Checks.due("unseen of b", 0.0f, () -> x.unseen(1));
        Checks.due("unseen of c", 0.0f, () -> x.unseen(2));
        Checks.due("mean of a", 10002.0 / 3.0, () -> x.mean(0));
        Checks.due("mean of b", 9.0, () -> x.mean(1));
        Checks.due("mean of c", 0.0, () -> x.mean(2));
        x.deliver(0, 7, 2);
        Checks.due("unseen of a then", 0.75f, () -> x.unseen(0));
        Checks.due("mean of a then", 10009.0 / 4.0, () -> x.mean(0));
        x.deliver(2, 6, 30);
        Checks.due("unseen of one", 1.0f, () -> x.unseen(2));
        Checks.dueIndex("unseen of 3", () -> x.unseen(3));
        Checks.dueIndex("mean of -1", () -> x.mean(-1));
    }

    private static void account() {
        MailSessions x = lagging();
        x.noop(1);
        x.fetch(1, 1, 3, false);
        x.fetch(1, 1, 1, true);
        Checks.dueState("a refused one does not count", () -> x.expunge(1));
        Checks.feed(x, "(");
        x.search(1);
        x.startIdle(1);
        x.deliver(0, 9, 0);
        int[] due = {4, 1, 2, 2, 80};
        for (int what = 0; what < due.length; what++) {
            int asked = what;
            Checks.due("account 1, " + what, due[what], () -> x.account(1, asked));
        }
        int[] ann = {2, 1, 0, 0, 0};
        for (int what = 0; what < ann.length; what++) {
            int asked = what;
            Checks.due("account 0, " + what, ann[what], () -> x.account(0, asked));
        }
        Checks.dueArgument("account 5", () -> x.account(0, 5));
        Checks.dueArgument("account -1", () -> x.account(0, -1));
        Checks.dueIndex("account of 4", () -> x.account(4, 5));
        x.select(2, 0, false);
        x.close(2);
        x.stopIdle(1);
        Checks.due("select and close count, and stay counted", 2, () -> x.account(2, 0));
        Checks.due("stopIdle counts", 5, () -> x.account(1, 0));
    }

    private static void notice() {
        MailSessions x = lagging();
        x.noop(1);
        int[][] due = {{1, 0, 3, 0}, {1, 1, 1, 3}, {1, 1, 2, 2}, {1, 2, 5, 0}};
        for (int index = 0; index < 4; index++) {
            for (int what = 0; what < 4; what++) {
                int asking = index;
                int asked = what;
                Checks.due("notice " + index + ", " + what, due[index][what], () -> x.notice(asking, asked));
            }
        }
        Checks.due("no notice 4", "throws.NoSuchElementException", () -> x.notice(4, 0));
        Checks.due("no notice -1", "throws.NoSuchElementException", () -> x.notice(-1, 3));
        Checks.dueArgument("what 4", () -> x.notice(0, 4));
        Checks.dueArgument("what -1 of no notice", () -> x.notice(9, -1));
    }

    private static void nothingIsChanged() {
        MailSessions x = lagging();
        Checks.feed(x, "left");
        String before = Checks.everything(x);
        x.unseen(0);
        x.mean(0);
        x.indexOf(0, 1);
        x.holders(0, 1);
        x.common(0, 1);
        for (int session = 0; session < 4; session++) {
            x.pending(session);
            x.isCurrent(session);
            x.firstUnseen(session);
            x.largest(session);
            x.numberOf(session, 1);
        }
        x.numberThen(1, 4);
        Checks.due("asking changes nothing", before, () -> Checks.everything(x));
    }
}
