/** Section 4 of ../shared/DOC.md: a test for each sentence that names a boundary case. */
final class QuerySentences {
    private static final Sentences S = Sentences.of("Section 4");

    private QuerySentences() {
    }

    static void all() {
        input();
        forms();
        factors();
        depth();
    }

    /** Sizes 10, 20, 30, 9999 and 1; b is empty. */
    private static MailSessions scene() {
        return Checks.loaded("box a;box b;message a size 10 seen;message a size 20 seen answered;"
                + "message a size 30 flagged deleted;message a size 9999 draft;message a size 1;session s a;session t b;");
    }

    private static void holds(int due, String query) {
        MailSessions x = scene();
        Checks.due("searchBox of " + query, due, () -> Checks.searched(x, 0, query));
        Checks.due("search of " + query, (long) due << 1, () -> Checks.found(x, 0, query));
    }

    private static void input() {
        S.namesNone("4. QUERIES.");
        S.holds("The input buffer, which is emptied, is a query:", () -> {
            MailSessions x = scene();
            Checks.searched(x, 0, "all");
            Checks.due("emptied by searchBox()", 0, () -> Checks.inputLength(x));
            Checks.found(x, 0, "all");
            Checks.due("emptied by search()", 0, () -> Checks.inputLength(x));
            Checks.searched(x, 0, "all or");
            Checks.due("with a parse error too", 0, () -> Checks.inputLength(x));
            Checks.found(x, 0, "all or");
            Checks.due("of both", 0, () -> Checks.inputLength(x));
            Checks.queryError(1, "^");
            holds(31, "all" + " ".repeat(694) + "all");
            holds(31, " ".repeat(697) + "all");
            holds(2, "seen answered");
        });
    }

    private static void forms() {
        S.holds("QUERY is TERM { or TERM };", () -> {
            holds(3, "seen");
            holds(11, "seen or draft");
            holds(15, "seen or draft or flagged");
            holds(31, "all" + " or all".repeat(99));
            Checks.queryError(1, "^or seen");
            Checks.queryError(1, "seen or ^");
            Checks.queryError(1, "seen or ^or draft");
            Checks.queryError(1, "seen or ^)");
            Checks.queryError(1, "seen^;");
            Checks.queryError(1, "seen ^and draft");
            Checks.queryError(1, "seen ^)");
        });
        S.holds("TERM is FACTOR { FACTOR }, all of which must hold;", () -> {
            holds(2, "seen answered");
            holds(0, "seen answered draft");
            holds(10, "seen answered or draft");
            holds(10, "draft or seen answered");
            holds(4, "flagged deleted size > 20 uid < 4 all not seen (flagged)");
            holds(31, "all ".repeat(175));
            Checks.queryError(1, "seen ^3");
            Checks.queryError(1, "seen ^inbox");
            Checks.queryError(1, "seen ^limit");
        });
    }

    private static void factors() {
        S.holds("FACTOR is not FACTOR, ( QUERY ), all, a FLAG, size < N, size > N, uid < N or uid > N (N 0 to 9999).", () -> {
            holds(28, "not seen");
            holds(3, "not not seen");
            holds(1, "not answered seen");
            holds(28, "not seen or draft");
            holds(20, "not (seen or draft)");
            holds(2, "(seen or draft) answered");
            holds(31, "all");
            holds(0, "not all");
            int[] flags = {3, 2, 4, 4, 8};
            String[] words = {"seen", "answered", "flagged", "deleted", "draft"};
            for (int k = 0; k < 5; k++) {
                holds(flags[k], words[k]);
            }
            holds(0, "size < 1");
            holds(16, "size < 2");
            holds(16, "size < 10");
            holds(17, "size < 11");
            holds(23, "size < 9999");
            holds(31, "size > 0");
            holds(15, "size > 1");
            holds(8, "size > 9998");
            holds(0, "size > 9999");
            holds(0, "size < 0");
            holds(0, "uid < 0");
            holds(0, "uid < 1");
            holds(1, "uid < 2");
            holds(31, "uid < 6");
            holds(31, "uid < 9999");
            holds(31, "uid > 0");
            holds(30, "uid > 1");
            holds(16, "uid > 4");
            holds(0, "uid > 5");
            holds(0, "uid > 9999");
            for (String size : new String[] {"size", "uid"}) {
                for (String sign : new String[] {"<", ">"}) {
                    Checks.queryError(2, size + sign + "^10000");
                    Checks.queryError(2, size + sign + "^2147483648");
                    Checks.queryError(1, size + sign + "^-1");
                    Checks.queryError(1, size + sign + "^all");
                    Checks.queryError(1, size + sign + "^");
                    Checks.queryError(1, size + sign + "^=3");
                }
                Checks.queryError(1, size + " ^3");
                Checks.queryError(1, size + " ^=3");
                Checks.queryError(1, size + " ^");
            }
            Checks.queryError(1, "not ^");
            Checks.queryError(1, "not ^or seen");
            Checks.queryError(1, "(^)");
            Checks.queryError(1, "(not ^)");
            Checks.queryError(1, "(seen^");
            Checks.queryError(1, "(seen ^;");
            Checks.queryError(1, "^3");
            Checks.queryError(1, "^inbox");
            Checks.queryError(1, "^reads");
        });
        S.holds("They ask what messages are now.", () -> {
            MailSessions x = Checks.loaded("box a;box b;message a size 1;message a size 2 deleted;session s a;session t a;");
            x.uidStore(0, 1, 1, 0, 31);
            Checks.due("flags that session 1 was not told", 2L, () -> Checks.found(x, 1, "draft"));
            x.uidStore(0, 1, 1, 0, 0);
            Checks.due("and that it was told, but are no more", 0L, () -> Checks.found(x, 1, "draft"));
            x.expunge(0);
            Checks.due("not of those that are gone", 2L, () -> Checks.found(x, 1, "all"));
            Checks.due("no not either", 2L, () -> Checks.found(x, 1, "not seen"));
            Checks.due("nor in the box", 1, () -> Checks.searched(x, 0, "not seen"));
            Checks.due("an empty box", 0, () -> Checks.searched(x, 1, "all"));
            Checks.due("not of an empty box", 0, () -> Checks.searched(x, 1, "not seen"));
            Checks.due("an empty view", 0L, () -> {
                x.select(1, 1, false);
                return Checks.found(x, 1, "not seen");
            });
        });
    }

    private static void depth() {
        S.holds("At most 5 of the words not and the symbols ( are open at one time (a not until the end of its FACTOR).", () -> {
            holds(0, "not not not not not all");
            Checks.queryError(5, "not not not not not ^not all");
            holds(31, "(((((all)))))");
            Checks.queryError(5, "(((((^(all))))))");
            holds(0, "not (not (not all))");
            Checks.queryError(5, "not (not (not ^(all)))");
            holds(0, "not not not not not all not not not not not all");
            holds(0, "not not not not not all or not not not not not all");
            holds(3, "(((((seen) (all)))))");
            Checks.queryError(5, "((((seen (all ^(all))))))");
            holds(3, "((((seen (all) (all)))))");
            holds(3, "((((seen not draft not draft))))");
            Checks.queryError(5, "((((seen not ^not draft))))");
            holds(31, "not (((not all)) all)");
            holds(31, "(((((all)))))".repeat(53));
            Checks.queryError(5, "(((((all)))))".repeat(53) + "(((((^(");
        });
        S.holds("Errors are as in section 1.", () -> {
            Checks.queryError(1, "^");
            Checks.queryError(2, "size < ^99999999999999999999");
            Checks.queryError(1, "size ^!");
            Checks.queryError(1, "seen  ^abcdefg");
            Checks.queryError(1, "all^\t");
            Checks.queryError(1, "all ^\u00ff");
            Checks.queryError(1, "((seen)  ^");
            Checks.queryError(1, " ".repeat(700) + "^");
        });
    }
}
