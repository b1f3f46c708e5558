/** Promises 28 and 36 and section 4: searches of boxes and of sessions by queries. */
public final class QueryTest {
    private static final String TEXT = "box a;box b;message a size 10 seen;message a size 20 seen answered;"
            + "message a size 30 flagged deleted;message a size 9999 draft;message a size 1;"
            + "session s a;session t a;session u;session v reads b;";

    public static void main(String[] args) {
        answers();
        errors();
        depth();
        searchBoxChangesNoMore();
        searchBoxThrows();
        search();
        searchTells();
        searchWithError();
        searchRefused();
        Checks.end();
    }

    private static void answers() {
        MailSessions x = Checks.loaded(TEXT);
        answer(x, "all", 31);
        answer(x, "seen", 3);
        answer(x, "answered", 2);
        answer(x, "flagged", 4);
        answer(x, "deleted", 4);
        answer(x, "draft", 8);
        answer(x, "not seen", 28);
        answer(x, "not not seen", 3);
        answer(x, "seen not answered", 1);
        answer(x, "not answered seen", 1);
        answer(x, "seen answered", 2);
        answer(x, "seen or draft", 11);
        answer(x, "seen answered or draft", 10);
        answer(x, "draft or seen answered", 10);
        answer(x, "seen (answered or draft)", 2);
        answer(x, "not (seen or draft)", 20);
        answer(x, "not seen or draft", 28);
        answer(x, "size < 20", 17);
        answer(x, "size > 20", 12);
        answer(x, "size<20 size>1", 1);
        answer(x, "size > 9998", 8);
        answer(x, "size > 9999", 0);
        answer(x, "size < 9999", 23);
        answer(x, "size > 0", 31);
        answer(x, "size < 0", 0);
        answer(x, "uid < 3", 3);
        answer(x, "uid > 3", 24);
        answer(x, "uid<00004uid>001", 6);
        answer(x, "\n( ( all ) )\n", 31);
        answer(x, "draft or size < 2 or uid < 2", 25);
        answer(x, "not not not not not seen", 28);
        answer(x, "(((((seen))))) (((((all)))))", 3);
        answer(x, "not(not(not seen))not(not(not answered))", 28);
        x.uidStore(0, 1, 1, 0, 4);
        answer(x, "flagged", 5);
        answer(x, "seen", 2);
        x.deliver(0, 2, 31);
        answer(x, "seen draft", 32);
        Checks.feed(x, "all");
        Checks.due("all of an empty box", 0, () -> x.searchBox(1));
        Checks.feed(x, "not seen");
        Checks.due("not seen of an empty box", 0, () -> x.searchBox(1));
        MailSessions full = Checks.loaded("box a;");
        for (int k = 0; k < 30; k++) {
            full.deliver(0, 1, 0);
        }
        answer(full, "not seen", (1 << 30) - 1);
        answer(full, "uid > 29", 1 << 29);
    }

    private static void answer(MailSessions x, String query, int due) {
        Checks.feed(x, query);
        Checks.due("searchBox of " + query, due, () -> x.searchBox(0));
        Checks.due("errorCode of " + query, 0, x::errorCode);
        Checks.due("errorPosition of " + query, -1, x::errorPosition);
        Checks.due("input behind " + query, 0, () -> Checks.inputLength(x));
    }

    private static void errors() {
        error("", 1, 0);
        error("  ", 1, 2);
        error("or", 1, 0);
        error("seen or", 1, 7);
        error("seen or or all", 1, 8);
        error("not", 1, 3);
        error("not or all", 1, 4);
        error("(", 1, 1);
        error("()", 1, 1);
        error("(all", 1, 4);
        error("all)", 1, 3);
        error("(all))", 1, 5);
        error("(not)", 1, 4);
        error("all;", 1, 3);
        error("size", 1, 4);
        error("size 3", 1, 5);
        error("size = 3", 1, 5);
        error("size <", 1, 6);
        error("size < all", 1, 7);
        error("size <> 3", 1, 6);
        error("size < -3", 1, 7);
        error("size < 10000", 2, 7);
        error("uid > 10000", 2, 6);
        error("uid > 99999999999", 2, 6);
        error("uid > 4294967296 )", 2, 6);
        error("uid 3", 1, 4);
        error("box", 1, 0);
        error("limit", 1, 0);
        error("message", 1, 0);
        error("session", 1, 0);
        error("reads", 1, 0);
        error("inbox", 1, 0);
        error("all 3", 1, 4);
        error("seenanswered", 1, 0);
        error("all\u0000", 1, 3);
    }

    private static void depth() {
        MailSessions x = Checks.loaded(TEXT);
        error("not not not not not not seen", 5, 20);
        error("((((((all))))))", 5, 5);
        error("not(not(not(all)))", 5, 11);
        error("(((((not all)))))", 5, 5);
        error("not (((( all or not seen ))))", 5, 16);
        error("((((( not", 5, 6);
        error("size ((((((", 1, 5);
        answer(x, "not (((( all ))))", 0);
        answer(x, "not not not not not all not not not not not all", 0);
        answer(x, "((((all) not (all)))) or not ((all) (not all))", 31);
        String full = "(((((all)))))".repeat(53) + " ".repeat(11);
        answer(x, full, 31);
        error(full.substring(0, 699) + ")", 1, 699);
        error("(((((all)))))".repeat(53) + "(((((((((((", 5, 694);
    }

    private static void error(String query, int code, int position) {
        MailSessions x = Checks.loaded(TEXT);
        Checks.feed(x, query);
        Checks.due("searchBox of " + query, -4, () -> x.searchBox(0));
        Checks.due("errorCode of " + query, code, x::errorCode);
        Checks.due("errorPosition of " + query, position, x::errorPosition);
        Checks.due("input behind " + query, 0, () -> Checks.inputLength(x));
        Checks.feed(x, query);
        Checks.due("search of " + query, -4, () -> x.search(0));
        Checks.due("errorCode of a search of " + query, code, x::errorCode);
        Checks.due("errorPosition of a search of " + query, position, x::errorPosition);
        Checks.due("input behind a search of " + query, 0, () -> Checks.inputLength(x));
    }

    private static void searchBoxChangesNoMore() {
        String before = Checks.everything(changed());
        MailSessions x = changed();
        Checks.searched(x, 0, "all");
        Checks.due("searchBox is no command", before, () -> Checks.everything(x));
        MailSessions y = changed();
        Checks.searched(y, 0, "all all )");
        String error = before.replace("error 0@-1", "error 1@8");
        Checks.due("nor with an error", error, () -> Checks.everything(y));
    }

    private static MailSessions changed() {
        MailSessions x = Checks.loaded(TEXT);
        x.startIdle(1);
        x.uidStore(0, 1, 5, 1, 2);
        return x;
    }

    private static void searchBoxThrows() {
        MailSessions x = Checks.loaded(TEXT);
        Checks.feed(x, "all");
        Checks.dueUnchanged(x, "searchBox(2)", "IndexOutOfBoundsException", () -> x.searchBox(2));
        Checks.dueUnchanged(x, "searchBox(-1)", "IndexOutOfBoundsException", () -> x.searchBox(-1));
        Checks.due("the query is still there", 31, () -> x.searchBox(0));
    }

    private static void search() {
        MailSessions x = Checks.loaded(TEXT);
        x.expunge(1);
        x.uidStore(1, 5, 5, 1, 16);
        x.deliver(0, 3, 16);
        Checks.feed(x, "all");
        Checks.due("numbers of entries that are not gone", 54L, () -> x.search(0));
        Checks.feed(x, "draft");
        Checks.due("what messages are now, and the entry it was told of", 112L, () -> x.search(0));
        Checks.feed(x, "size < 10");
        Checks.due("for the other's numbers", 16L, () -> x.search(1));
        Checks.feed(x, "size < 10");
        Checks.due("which was told by then", 48L, () -> x.search(1));
        Checks.feed(x, "all");
        Checks.due("an empty view", 0L, () -> x.search(3));
    }

    private static void searchTells() {
        MailSessions x = Checks.loaded(TEXT);
        x.startIdle(1);
        x.uidStore(0, 3, 3, 1, 1);
        x.expunge(0);
        x.undo();
        x.stopIdle(1);
        x.expunge(1);
        x.deliver(0, 3, 16);
        Checks.feed(x, "all");
        Checks.due("search", 54L, () -> x.search(0));
        Checks.due("tells without removals", "0+6", () -> Checks.notices(x));
        Checks.due("the view", "1:1s 2:2sa 3:3sfd! 4:4r 5:5 6:6r", () -> Checks.view(x, 0));
        Checks.due("it counts", 2, () -> x.account(0, 0));
        Checks.due("it can be undone", 6, x::undoCount);
        x.undo();
        Checks.due("and is", 5, () -> x.session(0, 3));
        MailSessions wide = Checks.loaded("box a;session s a;session t a;");
        for (int k = 0; k < 30; k++) {
            wide.deliver(0, 1, 8);
        }
        wide.noop(0);
        wide.expunge(1);
        for (int k = 0; k < 30; k++) {
            wide.deliver(0, 1, 8);
        }
        wide.fetch(0, 1, 1, true);
        Checks.due("a view of 60", 60, () -> wide.session(0, 3));
        Checks.feed(wide, "all");
        Checks.due("bits to 60", ((1L << 30) - 1) << 31, () -> wide.search(0));
    }

    private static void searchWithError() {
        MailSessions x = Checks.loaded(TEXT);
        x.uidStore(0, 3, 3, 1, 1);
        String before = Checks.everything(x).replace("error 0@-1", "error 1@3");
        Checks.feed(x, "not");
        Checks.due("search with an error", -4L, () -> x.search(1));
        Checks.due("tells nothing and leaves the notices", before, () -> Checks.everything(x));
    }

    private static void searchRefused() {
        MailSessions x = Checks.loaded(TEXT);
        Checks.feed(x, "all");
        Checks.dueUnchanged(x, "search(4)", "IndexOutOfBoundsException", () -> x.search(4));
        Checks.dueUnchanged(x, "search(-1)", "IndexOutOfBoundsException", () -> x.search(-1));
        Checks.dueUnchanged(x, "search without a box", "IllegalStateException", () -> x.search(2));
        x.startIdle(1);
        Checks.dueUnchanged(x, "search while idle", "IllegalStateException", () -> x.search(1));
        Checks.due("one that only reads searches", 0L, () -> x.search(3));
    }
}
