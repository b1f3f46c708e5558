/** Objects in states that many tests begin with. */
final class Scenes {
    private static final String TEXT = "limit 6;box a;box b;message a size 10;message a size 20 deleted;"
            + "message a size 30 seen;message a size 40 flagged;message b size 50;"
            + "session s a;session t a;session u reads a;session v;";

    private Scenes() {
    }

    /**
     * Two boxes and the limit 5: a has 4 messages (uids 1, 3, 4 and 5), b has 2. Session 0 is told all, 1 is idle,
     * 2 only reads and its view lags behind by one removal, flags and two messages, 3 has no box.
     * More than 6 calls can be undone, slot 0 is kept, slot 1 is empty, there are notices, output, a query in the
     * input buffer and a parse error of an earlier one.
     */
    static MailSessions busy() {
        MailSessions x = Checks.loaded(TEXT);
        x.startIdle(1);
        x.fetch(2, 1, 4, true);
        x.uidExpunge(0, 2, 2);
        x.keep(0);
        x.deliver(1, 70, 0);
        x.deliver(0, 60, 2);
        x.setLimit(5);
        x.noop(0);
        x.store(0, 1, 1, 1, 16, false);
        Checks.feed(x, "not (");
        x.searchBox(0);
        x.writeView(2);
        Checks.feed(x, "not seen");
        return x;
    }

    /**
     * As busy(), but with fewer calls that can be undone, no limit, and no parse error: three boxes, of which the last
     * is empty; session 0 is told all, 1 is idle, 2 only reads and lags behind, 3 has no box. Slot 1 is empty.
     */
    static MailSessions little() {
        MailSessions x = Checks.loaded("box a;box b;box c;message a size 1 deleted;message a size 2 seen;message b size 3;"
                + "session s a;session t b;session u reads a;session v;");
        x.keep(0);
        x.startIdle(1);
        x.uidStore(0, 1, 2, 1, 2);
        x.writeBox(0);
        Checks.feed(x, "all");
        return x;
    }

    /** Box a has 30 messages, the most that any limit takes; b and c have none. Session 0 has a, 1 has b. */
    static MailSessions full() {
        MailSessions x = Checks.loaded("box a;box b;box c;session s a;session t b;");
        deliver(x, 0, 30, 0);
        x.noop(0);
        return x;
    }

    /** Nothing is loaded. */
    static MailSessions fresh() {
        return new MailSessions();
    }

    /** Messages of the sizes 1, 2 and so on come into a box. */
    static void deliver(MailSessions x, int box, int messages, int flags) {
        for (int size = 1; size <= messages; size++) {
            x.deliver(box, size, flags);
        }
    }

    /**
     * Session 0 has a view of some entries, 30 to 60: the first 30 are gone, and the others stand for all the
     * messages that the box has. Session 1 has the same box, and its view lags behind.
     */
    static MailSessions wide(int entries) {
        MailSessions x = Checks.loaded("box a;box b;session s a;session t a;");
        deliver(x, 0, 30, 8);
        x.noop(0);
        x.expunge(1);
        deliver(x, 0, entries - 30, 0);
        x.fetch(0, 1, 1, true);
        return x;
    }
}
