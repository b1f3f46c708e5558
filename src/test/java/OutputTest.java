/** Promises 48 to 51: what is written to the output buffer. */
public final class OutputTest {
    public static void main(String[] args) {
        writeBox();
        writeView();
        writeNotices();
        outputByte();
        longest();
        Checks.end();
    }

    private static MailSessions some() {
        return Checks.loaded("box a;box b;message a size 10 seen answered;message a size 9999 flagged deleted;"
                + "message a size 7 draft;session s a;session t a;session u;");
    }

    private static void writeBox() {
        MailSessions x = some();
        Checks.due("length of a box", 20, () -> x.writeBox(0));
        Checks.due("a box", "1:10sa 2:9999fd 3:7r", () -> Checks.box(x, 0));
        Checks.due("an empty box", 0, () -> x.writeBox(1));
        Checks.dueIndex("replaces the content", () -> x.outputByte(0));
        x.writeBox(0);
        Checks.dueIndex("box 2", () -> x.writeBox(2));
        Checks.dueIndex("box -1", () -> x.writeBox(-1));
        Checks.due("a throw leaves the output", (int) '1', () -> x.outputByte(0));
        x.expunge(0);
        x.deliver(0, 100, 31);
        Checks.due("a box then", "1:10sa 3:7r 4:100safdr", () -> Checks.box(x, 0));
    }

    private static void writeView() {
        MailSessions x = some();
        x.expunge(0);
        x.store(0, 1, 1, 0, 0, true);
        x.deliver(0, 3, 1);
        Checks.due("a view as it was told", "1:1sa 2:2fd! 3:3r", () -> Checks.view(x, 1));
        Checks.due("length of a view", 17, () -> x.writeView(1));
        Checks.due("the other view", "1:1 2:3r", () -> Checks.view(x, 0));
        Checks.due("without a box", 0, () -> x.writeView(2));
        Checks.dueIndex("view 3", () -> x.writeView(3));
        Checks.dueIndex("view -1", () -> x.writeView(-1));
        x.noop(1);
        Checks.due("behind noop", "1:1 2:3r 3:4s", () -> Checks.view(x, 1));
    }

    private static void writeNotices() {
        MailSessions x = some();
        Checks.due("no notices", 0, x::writeNotices);
        x.startIdle(1);
        x.expunge(0);
        x.uidStore(0, 1, 3, 0, 31);
        Checks.due("flags", "0=1:safdr 0=2:safdr 1=1:safdr 1=2:safdr", () -> Checks.notices(x));
        x.uidStore(0, 1, 1, 0, 0);
        Checks.due("no flags", "0=1: 1=1:", () -> Checks.notices(x));
        x.move(0, 2, 2, 0);
        Checks.due("removals and entries", "0-2 0+2 1-2 1+2", () -> Checks.notices(x));
        Checks.due("length of notices", 15, x::writeNotices);
        for (int k = 0; k < 9; k++) {
            x.deliver(0, 1, 0);
        }
        Checks.due("a number of two digits", "1+11", () -> Checks.notices(x));
        x.writeBox(0);
        Checks.due("writing leaves the notices", 1, () -> x.property(4));
    }

    private static void outputByte() {
        MailSessions x = some();
        int length = x.writeView(0);
        Checks.due("first byte", (int) '1', () -> x.outputByte(0));
        Checks.due("second byte", (int) ':', () -> x.outputByte(1));
        Checks.due("last byte", (int) 'r', () -> x.outputByte(length - 1));
        Checks.dueIndex("byte behind the last", () -> x.outputByte(length));
        Checks.dueIndex("byte -1", () -> x.outputByte(-1));
        Checks.dueIndex("byte min", () -> x.outputByte(Integer.MIN_VALUE));
        Checks.dueIndex("byte max", () -> x.outputByte(Integer.MAX_VALUE));
    }

    /** Four sessions, three of them idle, are told of 30 changes each: no notice and no byte is left out. */
    private static void longest() {
        MailSessions x = Checks.loaded("box a;session s a;session t a;session u a;session v a;");
        for (int k = 0; k < 30; k++) {
            x.deliver(0, 9999, 8);
        }
        for (int session = 1; session < 4; session++) {
            x.startIdle(session);
        }
        x.noop(0);
        Checks.due("flags for all", 30, () -> x.uidStore(0, 1, 30, 0, 31));
        Checks.due("notices of flags", 120, () -> x.property(4));
        Checks.due("their bytes", 4 * (9 * 10 + 21 * 11) - 1, x::writeNotices);
        Checks.due("removals for all", 30, () -> x.expunge(0));
        Checks.due("notices of removals", 120, () -> x.property(4));
        Checks.due("the last one is of", 3, () -> x.notice(119, 0));
        for (int k = 0; k < 30; k++) {
            x.deliver(0, 9999, 31);
        }
        x.noop(0);
        Checks.due("a long box", 30 * 13 - 1, () -> x.writeBox(0));
        Checks.due("a long view", 9 * 10 + 21 * 11 - 1, () -> x.writeView(0));
        sixtyRemovals();
    }

    /** Session 1 keeps the numbers of 30 messages that are gone, and then those of 30 more. */
    private static void sixtyRemovals() {
        MailSessions x = Checks.loaded("box a;session s a;session t a;");
        for (int round = 0; round < 2; round++) {
            for (int k = 0; k < 30; k++) {
                x.deliver(0, 1, 8);
            }
            if (round == 0) {
                x.noop(1);
            }
            x.fetch(1, 1, 1, true);
            x.expunge(0);
        }
        for (int k = 0; k < 30; k++) {
            x.deliver(0, 1, 8);
        }
        Checks.due("a view of 60 that are gone", 111 + 111 + 60 * 3 + 59, () -> x.writeView(1));
        Checks.due("60 removals and 30 entries", 61, () -> x.noop(1));
        Checks.due("their bytes", 60 * 4 + 4, x::writeNotices);
        Checks.due("the last one", 30, () -> x.notice(60, 2));
    }
}
