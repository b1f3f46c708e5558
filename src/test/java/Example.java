/** How the class is used; README.md shows this file and what it prints. */
public final class Example {
    public static void main(String[] args) {
        MailSessions server = new MailSessions();
        put(server, "box inbox; message inbox size 500 flagged; message inbox size 900;"
                + " session ann inbox; session bob inbox;");
        System.out.println("messages: " + server.load());

        System.out.println("uid of a new message: " + server.deliver(0, 70, 0));
        System.out.println("ann is told notices: " + server.noop(0));
        System.out.println("they are: " + output(server, server.writeNotices()));

        put(server, "flagged or size > 800");
        System.out.println("numbers found, as bits: " + server.search(0));

        System.out.println("bob changes flags of: " + server.store(1, 2, 2, 1, 8, false));
        System.out.println("bob removes: " + server.expunge(1));
        System.out.println("he is told: " + output(server, server.writeNotices()));
        System.out.println("ann's view, not told yet: " + output(server, server.writeView(0)));
        System.out.println("entry 3 would have the number: " + server.numberThen(0, 3));

        System.out.println("undone, and can still be undone: " + server.undo());
        System.out.println("messages: " + server.box(0, 0));

        put(server, "size 800");
        System.out.println("found: " + (server.search(0) == MailSessions.PARSE_ERROR ? "parse error" : "messages"));
        System.out.println("its code and position: " + server.errorCode() + " " + server.errorPosition());

        try {
            server.fetch(0, 1, 9, true);
        } catch (IndexOutOfBoundsException thrown) {
            System.out.println("there is no entry 9");
        }
    }

    /** Makes a text the content of the input buffer: 20 bytes a call, and what is too much is cut off. */
    private static void put(MailSessions server, String text) {
        server.truncate(0);
        for (int at = 0; at < text.length(); at += 20) {
            server.append(four(text, at), four(text, at + 4), four(text, at + 8), four(text, at + 12), four(text, at + 16));
        }
        server.truncate(text.length());
    }

    private static int four(String text, int from) {
        int bytes = 0;
        for (int at = from; at < from + 4; at++) {
            bytes = bytes << 8 | (at < text.length() ? text.charAt(at) : ' ');
        }
        return bytes;
    }

    private static String output(MailSessions server, int length) {
        StringBuilder text = new StringBuilder();
        for (int at = 0; at < length; at++) {
            text.append((char) server.outputByte(at));
        }
        return text.toString();
    }
}
