/** Section 1 of ../shared/DOC.md, and what stands ahead of it: a test for each sentence that names a boundary case. */
final class InputSentences {
    private static final String[] KEYWORDS = {"limit", "box", "message", "size", "session", "reads", "seen", "answered",
        "flagged", "deleted", "draft", "all", "uid", "not", "or"};
    private static final String MESSAGE = "message a size 1;";
    private static final Sentences S = Sentences.of("Section 1");

    private InputSentences() {
    }

    static void all() {
        whatItIs();
        buffer();
        words();
        numbersAndSymbols();
        keywordsAndNames();
        flags();
        limit();
        boxes();
        messages();
        sessions();
        errors();
        firstTwoCodes();
        namesThatAreWrong();
        noRoom();
        tooDeep();
    }

    private static MailSessions load(String text) {
        return Checks.loaded(text);
    }

    private static void whatItIs() {
        Sentences.of("What it is").namesNone("A server of mailboxes with sessions: messages with names that never change, "
                + "and numbers that shift for each session when it is told so; flags that several sessions set, notices that "
                + "are held back inside commands and told at once while idle, removed messages in ranges, copies and moves, "
                + "searches by queries, and changes of all this.");
        Sentences.of("What it is").holds("An object is used for at most 512 calls after it has been made; "
                + "what later calls answer is free.", () -> {
                    MailSessions x = new MailSessions();
                    for (int call = 1; call <= 511; call++) {
                        x.setLimit(1 + call % 30);
                    }
                    Checks.due("the 512th call", 2, () -> x.setLimit(7));
                });
    }

    private static void buffer() {
        S.namesNone("1. INPUT.");
        S.holds("The input buffer holds at most 700 bytes.", () -> {
            MailSessions x = new MailSessions();
            Checks.feed(x, " ".repeat(693) + "box abc");
            Checks.due("700 bytes are there", 700, () -> Checks.inputLength(x));
            Checks.dueState("no more", () -> x.append(0, 0, 0, 0, 0));
            Checks.due("all of them are read", -4, x::load);
            Checks.due("up to the 700th", 700, x::errorPosition);
            Checks.due("the last byte counts", 1, () -> load(" ".repeat(694) + "box a;").property(0));
        });
        S.holds("load() parses it as a text of one or more statements; each statement ends with ';'.", () -> {
            Checks.error(1, "^");
            Checks.due("one", 1, () -> load("box a;").property(0));
            Checks.due("two", 2, () -> load("box a;box b;").property(0));
            Checks.error(1, "^;");
            Checks.error(1, "box a;^;");
            Checks.error(1, "box a^");
            Checks.error(1, "box a ^box b;");
            Checks.error(1, "box a;box b ^");
            Checks.error(1, "limit 3^");
            Checks.error(1, "limit 3 ^box a;");
            Checks.error(1, "box a;" + "message a size 1^");
            Checks.error(1, "box a;" + "message a size 1 ^message a size 1;");
            Checks.error(1, "session s^");
            Checks.error(1, "session s ^:");
            Checks.error(1, "box a;session s a ^session t;");
        });
    }

    private static void words() {
        S.holds("Tokens: a word is a maximal run of lowercase letters a-z;", () -> {
            Checks.due("the letters a and z", 0, () -> named("box az;", "az"));
            Checks.due("z alone", 0, () -> named("box z;", "z"));
            Checks.error(1, "box ^`;");
            Checks.error(1, "box ^{;");
            Checks.error(1, "box a^`;");
            Checks.error(1, "box z^{;");
            Checks.error(1, "box ^A;");
            Checks.error(1, "box a^Z;");
            Checks.error(1, "^boxa;");
            Checks.error(1, "^limitlimit 3;");
            Checks.error(1, "box a;message a ^sizeseen 3;");
            Checks.error(1, "box ^" + "a".repeat(600) + ";");
        });
        S.holds("Spaces and newlines only separate tokens.", () -> {
            String spaced = "  \n limit\n30 ;\nbox \n a\n;  message a\n\nsize 7  seen \n draft ; \n";
            Checks.due("wherever they stand", Checks.kept(load("limit 30;box a;message a size 7 seen draft;")),
                    () -> Checks.kept(load(spaced)));
            Checks.due("where none must", Checks.kept(load("limit 30;box a;message a size 7 seen draft;")),
                    () -> Checks.kept(load("limit30;box a;message a size7seen draft;")));
            Checks.due("ahead of all and behind all", 1,
                    () -> load("\n" + " ".repeat(340) + "box a;" + "\n".repeat(353)).property(0));
            Checks.error(1, "^li mit 3;");
            Checks.error(1, "limit 1 ^2;");
            Checks.error(1, "box a ^b;");
            Checks.error(1, "box a\n^b;");
            Checks.due("in a query too", 1, () -> Checks.searched(load("box a;message a size 3;"), 0, "\n size <\n 4 "));
        });
    }

    private static int named(String text, String name) {
        MailSessions x = load(text);
        Checks.feed(x, name);
        return x.findBox();
    }

    private static void numbersAndSymbols() {
        S.holds("a number is a maximal run of decimal digits, of any length;", () -> {
            Checks.due("the digits 0 to 9", "1:1234 2:5678 3:90",
                    () -> Checks.box(load("box a;message a size 1234;message a size 5678;message a size 90;"), 0));
            Checks.due("zeros ahead", 7, () -> load("limit " + "0".repeat(600) + "7;").property(2));
            Checks.due("zeros ahead of the greatest size", "1:9999",
                    () -> Checks.box(load("box a;message a size " + "0".repeat(600) + "9999;"), 0));
            Checks.error(2, "limit ^" + "0".repeat(600) + ";");
            Checks.error(2, "limit ^257;");
            for (String digits : new String[] {"100000", "65537", "2147483648", "4294967297", "4294967303",
                "9223372036854775809", "18446744073709551617", "18446744073709551623", "1" + "0".repeat(400),
                "9".repeat(640), "0".repeat(300) + "4294967297"}) {
                Checks.error(2, "limit ^" + digits + ";");
                Checks.error(2, "box a;message a size ^" + digits + ";");
                Checks.queryError(2, "size < ^" + digits);
                Checks.queryError(2, "uid > ^" + digits);
            }
            Checks.due("zeros ahead in a query", 1,
                    () -> Checks.searched(load("box a;message a size 3;"), 0, "size < " + "0".repeat(600) + "4"));
            Checks.error(1, "limit ^/1;");
            Checks.error(1, "limit 1^:;");
            Checks.error(1, "limit ^-1;");
            Checks.error(1, "limit ^+1;");
            Checks.error(1, "limit 1^.0;");
            Checks.error(1, "limit 1^a;");
        });
        S.holds("each other byte except space (32) and newline (10) is a symbol of its own.", () -> {
            for (int sign = 0; sign < 256; sign++) {
                boolean taken = sign == ' ' || sign == '\n' || sign >= 'a' && sign <= 'z' || sign == ';';
                char each = (char) sign;
                if (!taken) {
                    errorAt("box a" + each + ";", 5);
                }
                if (!taken && (sign < '0' || sign > '9')) {
                    errorAt("limit 3" + each + "0;", 7);
                    queryErrorAt("all" + each + "all", sign == '(' ? 7 : 3);
                }
            }
            errorAt("box a" + "\u0000\u0000;", 5);
            errorAt("box \u0080\u0080;", 4);
            Checks.due("two symbols side by side", 1, () -> Checks.searched(load("box a;message a size 3;"), 0, "((all))"));
        });
    }

    private static void errorAt(String text, int position) {
        MailSessions x = new MailSessions();
        Checks.feed(x, text);
        Checks.due("load of " + text, -4, x::load);
        Checks.due("errorCode of " + text, 1, x::errorCode);
        Checks.due("errorPosition of " + text, position, x::errorPosition);
    }

    /** Behind a FACTOR the symbol ( may stand: then it is the end that is wrong. */
    private static void queryErrorAt(String query, int position) {
        MailSessions x = load("box a;");
        Checks.due("searchBox of " + query, -4, () -> Checks.searched(x, 0, query));
        Checks.due("errorCode of " + query, 1, x::errorCode);
        Checks.due("errorPosition of " + query, position, x::errorPosition);
    }

    private static void keywordsAndNames() {
        S.holds("The keywords are limit, box, message, size, session, reads, seen, answered, flagged, deleted, draft, all, "
                + "uid, not and or;", () -> {
                    for (String word : KEYWORDS) {
                        Checks.error(1, "box ^" + word + ";");
                        Checks.error(1, "session ^" + word + ";");
                        String less = word.substring(0, word.length() - 1);
                        String more = word + "x";
                        String other = "x" + word.substring(1);
                        if (other.length() <= 6) {
                            Checks.due("the name " + other, 0, () -> named("box " + other + ";", other));
                        }
                        if (less.length() <= 6) {
                            Checks.due("the name " + less, 0, () -> named("box " + less + ";", less));
                        }
                        if (more.length() <= 6) {
                            Checks.due("the name " + more, 0, () -> named("box " + more + ";", more));
                        }
                    }
                });
        S.holds("a NAME is a word of 1 to 6 letters that is not a keyword;", () -> {
            for (String name : new String[] {"a", "ab", "abc", "abcd", "abcde", "abcdef"}) {
                Checks.due("the box " + name, 0, () -> named("box " + name + ";", name));
                Checks.due("the session " + name, 0, () -> load("box " + name + ";session " + name + " " + name + ";").session(0, 0));
                Checks.due("a message in " + name, 1, () -> load("box " + name + ";message " + name + " size 1;").box(0, 0));
            }
            for (String word : new String[] {"abcdefg", "answers", "aaaaaaa", "z".repeat(300), "reads", "1"}) {
                Checks.error(1, "box ^" + word + ";");
                Checks.error(1, "session ^" + word + ";");
                Checks.error(1, "box a;message ^" + word + " size 1;");
                Checks.error(1, "box a;session s reads ^" + word + ";");
            }
            Checks.error(1, "box ^;");
        });
    }

    private static void flags() {
        S.holds("FLAG is seen, answered, flagged, deleted or draft;", () -> {
            String[] flags = {"seen", "answered", "flagged", "deleted", "draft"};
            for (int k = 0; k < flags.length; k++) {
                String flag = flags[k];
                Checks.due(flag, 1 << k, () -> load("box a;message a size 1 " + flag + ";").message(0, 0, 2));
            }
            for (String other : new String[] {"limit", "box", "message", "size", "session", "reads", "all", "uid", "not", "or",
                "see", "seens", "drafts", "flag", "1"}) {
                Checks.error(1, "box a;message a size 1 seen ^" + other + ";");
            }
        });
        S.holds("[ ] means that something may be left out, { } any number of repetitions, also none.", () -> {
            Checks.due("no box", -1, () -> load("box a;session s;").session(0, 0));
            Checks.due("a box without reads", 0, () -> load("box a;session s a;").session(0, 1));
            Checks.due("a box with reads", 1, () -> load("box a;session s reads a;").session(0, 1));
            Checks.error(1, "box a;session s reads^;");
            Checks.error(1, "box a;session s reads ^reads a;");
            Checks.error(1, "box a;session s a ^a;");
            Checks.due("no flag", 0, () -> load("box a;message a size 1;").message(0, 0, 2));
            Checks.due("one flag", 16, () -> load("box a;message a size 1 draft;").message(0, 0, 2));
            Checks.due("all flags", 31,
                    () -> load("box a;message a size 1 draft seen deleted answered flagged;").message(0, 0, 2));
        });
        S.holds("The flags are numbered 0 seen, 1 answered, 2 flagged, 3 deleted, 4 draft; a set of flags is a bit mask.", () -> {
            MailSessions x = load("box a;message a size 1 seen;message a size 1 answered;message a size 1 flagged;"
                    + "message a size 1 deleted;message a size 1 draft;message a size 1;message a size 1 seen draft;");
            Checks.due("each, none, and the first with the last", "1:1s 2:1a 3:1f 4:1d 5:1r 6:1 7:1sr", () -> Checks.box(x, 0));
            int[] masks = {1, 2, 4, 8, 16, 0, 17};
            for (int k = 0; k < masks.length; k++) {
                int index = k;
                Checks.due("mask " + k, masks[k], () -> x.message(0, index, 2));
            }
        });
    }

    private static void limit() {
        S.namesNone("The statements are:");
        S.holds("limit N how many messages a box may have, 1 to 30; 30 without it.", () -> {
            Checks.due("limit 1", 1, () -> load("limit 1;").property(2));
            Checks.due("limit 30", 30, () -> load("limit 30;").property(2));
            Checks.error(2, "limit ^0;");
            Checks.error(2, "limit ^31;");
            Checks.error(2, "limit ^2147483647;");
            Checks.error(2, "limit ^2147483648;");
            Checks.due("without it", 30, () -> load("box a;").property(2));
            Checks.due("without it, behind a load with it", 30, () -> {
                MailSessions x = load("limit 3;box a;");
                Checks.feed(x, "box a;");
                x.load();
                return x.property(2);
            });
            Checks.due("30 messages", 30, () -> load("box a;" + MESSAGE.repeat(30)).property(3));
            Checks.error(4, "box a;" + MESSAGE.repeat(30) + "message ^a size 1;");
            Checks.due("one message", 1, () -> load("limit 1;box a;" + MESSAGE).property(3));
            Checks.error(4, "limit 1;box a;" + MESSAGE + "message ^a size 1;");
        });
        S.holds("At most once, and only ahead of the message statements", () -> {
            Checks.error(3, "limit 3;^limit 3;");
            Checks.error(3, "limit 3;box a;session s;^limit 4;");
            Checks.due("behind a box and a session", 3, () -> load("box a;session s;limit 3;" + MESSAGE).property(2));
            Checks.error(1, "box a;" + MESSAGE + "^limit 3;");
            Checks.error(1, "box a;" + MESSAGE + "session s;^limit 3;");
            Checks.due("once in each text", 4, () -> {
                MailSessions x = load("limit 3;box a;" + MESSAGE);
                Checks.feed(x, "limit 4;");
                x.load();
                return x.property(2);
            });
        });
    }

    private static void boxes() {
        S.holds("box NAME a box. At most 3 boxes, with different names", () -> {
            Checks.due("three", 3, () -> load("box a;box b;box c;").property(0));
            Checks.error(4, "box a;box b;box c;^box d;");
            Checks.error(3, "box a;box b;box ^a;");
            Checks.error(3, "box a;box b;box ^b;");
            Checks.error(3, "box abcdef;box abcdeg;box ^abcdef;");
            Checks.due("names of one that begins with another", 3, () -> load("box ab;box abc;box a;").property(0));
            Checks.due("as many in the next text, with the same names", 3, () -> {
                MailSessions x = load("box a;box b;box c;");
                Checks.feed(x, "box c;box b;box a;");
                x.load();
                return x.property(0);
            });
        });
        S.holds("Boxes and sessions are numbered from 0.", () -> {
            MailSessions x = load("box a;session p;box b;session q;box c;session r;session s;");
            String[] names = {"a", "b", "c"};
            for (int k = 0; k < 3; k++) {
                Checks.feed(x, names[k]);
                Checks.due("box " + names[k], k, x::findBox);
            }
            String[] others = {"p", "q", "r", "s"};
            for (int k = 0; k < 4; k++) {
                Checks.feed(x, others[k]);
                Checks.due("session " + others[k], k, x::findSession);
            }
        });
        S.holds("Boxes are told ahead of the messages and sessions that name them;", () -> {
            Checks.error(3, "message ^a size 1;box a;");
            Checks.error(3, "session s ^a;box a;");
            Checks.error(3, "session s reads ^a;box a;");
            Checks.error(3, "box b;message ^a size 1;box a;");
            Checks.due("right behind them", 2, () -> load("box a;message a size 1;box b;session s b;message b size 1;").property(3));
            Checks.due("boxes of an earlier text do not count", -4, () -> {
                MailSessions x = load("box a;");
                Checks.feed(x, "message a size 1;");
                return x.load();
            });
        });
    }

    private static void messages() {
        S.holds("message NAME size N { FLAG } a message in a box told ahead: its size, 1 to 9999, and its flags", () -> {
            MailSessions x = load("box a;message a size 1;message a size 9999 seen;");
            Checks.due("the sizes 1 and 9999", "1:1 2:9999s", () -> Checks.box(x, 0));
            Checks.error(2, "box a;message a size ^0;");
            Checks.error(2, "box a;message a size ^10000;");
            Checks.error(2, "box a;message a size ^2147483648;");
            Checks.error(1, "box a;message a size ^;");
            Checks.error(1, "box a;message a size ^seen;");
            Checks.error(1, "box a;message a ^1;");
            Checks.error(1, "box a;message a ^seen size 1;");
            Checks.error(1, "box a;message ^size 1;");
            Checks.error(3, "box a;message ^b size 1;");
        });
        S.holds("a session statement selects the box as it is at the end of the text.", () -> {
            MailSessions none = load("box a;session s a;");
            Checks.due("an empty box", "", () -> Checks.view(none, 0));
            MailSessions late = load("box a;session s a;message a size 1 draft;session t reads a;message a size 2;");
            Checks.due("messages told behind it", "1:1r 2:2", () -> Checks.view(late, 0));
            Checks.due("for both", "1:1r 2:2", () -> Checks.view(late, 1));
            Checks.due("none is to be told of them", 0, late::stale);
            MailSessions most = load("box a;session s a;" + MESSAGE.repeat(30));
            Checks.due("30 messages", 30, () -> most.session(0, 3));
        });
    }

    private static void sessions() {
        S.holds("session NAME [ [reads] NAME ] a session, and the box that it selects (with reads: only to read). "
                + "At most 4 sessions, with different names", () -> {
                    MailSessions x = load("box a;box b;session p;session q b;session r reads a;session s reads b;");
                    int[][] due = {{-1, 0}, {1, 0}, {0, 1}, {1, 1}};
                    for (int k = 0; k < 4; k++) {
                        int session = k;
                        Checks.due("box of " + k, due[k][0], () -> x.session(session, 0));
                        Checks.due("reads of " + k, due[k][1], () -> x.session(session, 1));
                    }
                    Checks.due("four", 4, () -> x.property(1));
                    Checks.error(4, "session p;session q;session r;session s;^session t;");
                    Checks.error(3, "session p;session q;session r;session ^p;");
                    Checks.error(3, "session abcdef;session ^abcdef;");
                    Checks.error(3, "box a;session s ^b;");
                    Checks.error(3, "box a;session s reads ^b;");
                    Checks.error(1, "session ^;");
                    Checks.error(1, "session ^1;");
                    Checks.error(1, "session s ^1;");
                });
    }

    private static void errors() {
        S.holds("The parser reads tokens from left to right and stops at the first token that has an error;", () -> {
            Checks.error(2, "limit ^31;box 1;message z size 0;");
            Checks.error(1, "box a ^b;limit 0;");
            Checks.error(3, "box a;message ^b;");
            Checks.error(4, "limit 1;box a;message a size 1;message ^a size 0 seen seen");
            Checks.error(4, "box a;box b;box c;^box");
            Checks.error(4, "box a;box b;box c;^box a;");
            Checks.error(4, "session a;session b;session c;session d;^session a;");
            Checks.error(3, "session s ^a 1;");
            Checks.queryError(5, "not not not not not ^not )");
            Checks.queryError(1, "all ^) size < 10000");
            Checks.queryError(2, "size < ^10000 )");
        });
        S.holds("if that token has several errors, the smallest code counts.", () -> {
            // both a limit behind a message (1) and a second one (3)
            Checks.error(1, "limit 3;box a;message a size 1;^limit 3;");
            // both too long for a NAME (1) and no box's name (3)
            Checks.error(1, "message ^abcdefg size 1;");
            Checks.error(1, "session s ^abcdefg;");
            // a keyword (1) that no box has for a name (3)
            Checks.error(1, "message ^size size 1;");
            // neither can a number stand here (1), nor is it in any range (2)
            Checks.error(1, "box ^99999999999;");
            Checks.error(1, "^0 box a;");
            Checks.error(1, "box a;message a size 1 ^0;");
            // both the word of a fourth box (4) and no NAME (1)
            Checks.error(1, "box a;box b;box c;message ^box size 1;");
            Checks.error(1, "session a;session b;session c;session d ^session e;");
            // both the 6th that is open (5) and where it can't stand (1)
            Checks.queryError(1, "not not not not not size ^not");
            Checks.queryError(1, "(((((size < ^(");
        });
        S.holds("The error position is the offset of the token's first byte; for the end of the text it is the text's length.",
                () -> {
                    Checks.error(1, "^seen;");
                    Checks.error(2, "limit   ^0000099;");
                    Checks.error(1, "box a;  \n ^abcdefghij;");
                    Checks.error(3, "box abcdef;box\n^abcdef;");
                    Checks.error(1, "^");
                    Checks.error(1, "box a^");
                    Checks.error(1, "box a  \n ^");
                    Checks.error(1, " ".repeat(700) + "^");
                    Checks.error(1, "limit 3;" + " ".repeat(691) + "^;");
                    Checks.error(1, "box a" + "\n".repeat(695) + "^");
                    Checks.error(1, "box ^" + "a".repeat(696));
                    Checks.queryError(1, "^");
                    Checks.queryError(1, "all or  ^");
                    Checks.queryError(1, "all  ^box");
                    Checks.queryError(1, "all" + " ".repeat(696) + "^;");
                    Checks.queryError(1, "(all" + " ".repeat(696) + "^");
                });
    }

    private static void firstTwoCodes() {
        S.namesNone("Codes:");
        S.holds("1 the token cannot stand here", () -> {
            for (String word : KEYWORDS) {
                if (!word.equals("limit") && !word.equals("box") && !word.equals("message") && !word.equals("session")) {
                    Checks.error(1, "^" + word + " a;");
                }
            }
            Checks.error(1, "^a;");
            Checks.error(1, "^1;");
            Checks.error(1, "limit ^a;");
            Checks.error(1, "limit ^;");
            Checks.error(1, "box ^;");
            Checks.error(1, "box a ^1;");
            Checks.error(1, "box a;message a ^;");
            Checks.error(1, "box a;message a size 1 ^1;");
            Checks.error(1, "box a;message a size 1 ^a;");
            Checks.error(1, "box a;session s a ^reads;");
        });
        S.holds("(also the word limit behind a message statement,", () -> {
            Checks.error(1, "box a;message a size 1;^limit 3;");
            Checks.error(1, "box a;message a size 1;box b;session s;^limit");
        });
        S.holds("a word of more than 6 letters where a NAME is expected,", () -> {
            Checks.due("6 letters", 1, () -> load("box abcdef;").property(0));
            Checks.error(1, "box ^abcdefg;");
            Checks.error(1, "session ^abcdefg;");
            Checks.error(1, "box a;message ^abcdefg size 1;");
            Checks.error(1, "box a;session s ^abcdefg;");
            Checks.error(1, "box a;session s reads ^abcdefg;");
        });
        S.holds("and the end of an empty text)", () -> {
            Checks.error(1, "^");
            Checks.error(1, " ^");
            Checks.error(1, " \n^");
            Checks.queryError(1, "^");
            Checks.queryError(1, "\n^");
        });
        S.holds("2 a number is out of range", () -> {
            Checks.error(2, "limit ^0;");
            Checks.error(2, "limit ^31;");
            Checks.error(2, "box a;message a size ^0;");
            Checks.error(2, "box a;message a size ^10000;");
            Checks.queryError(2, "size < ^10000");
            Checks.queryError(2, "size > ^10000");
            Checks.queryError(2, "uid < ^10000");
            Checks.queryError(2, "uid > ^10000");
        });
    }

    private static void namesThatAreWrong() {
        S.holds("3 a NAME that another box, or another session, has;", () -> {
            Checks.error(3, "box a;box ^a;");
            Checks.error(3, "box a;box b;box ^a;");
            Checks.error(3, "session s;session ^s;");
            Checks.error(3, "session s;session t;session u;session ^s;");
        });
        S.holds("a NAME of a box that no box has;", () -> {
            Checks.error(3, "message ^a size 1;");
            Checks.error(3, "session s;message ^s size 1;");
            Checks.error(3, "box ab;session s ^a;");
            Checks.error(3, "box a;session s reads ^ab;");
        });
        S.holds("a flag that the message has already;", () -> {
            for (String flag : new String[] {"seen", "answered", "flagged", "deleted", "draft"}) {
                Checks.error(3, "box a;message a size 1 " + flag + " ^" + flag + ";");
            }
            Checks.error(3, "box a;message a size 1 seen answered flagged deleted draft ^seen;");
            Checks.due("of another message", 1, () -> load("box a;message a size 1 seen;message a size 1 seen;").message(0, 1, 2));
        });
        S.holds("the word limit of a second limit statement", () -> {
            Checks.error(3, "limit 3;^limit 3;");
            Checks.error(3, "limit 3;box a;^limit");
        });
    }

    private static void noRoom() {
        S.holds("4 the word box of a fourth box,", () -> {
            Checks.error(4, "box a;box b;box c;^box d;");
            Checks.error(4, "box a;box b;box c;message a size 1;session s;^box");
        });
        S.holds("the word session of a fifth session,", () -> {
            Checks.error(4, "session a;session b;session c;session d;^session e;");
            Checks.error(4, "session a;session b;session c;session d;box e;^session");
        });
        S.holds("the NAME of the box of a message for which it has no room", () -> {
            Checks.error(4, "limit 1;box a;box b;message a size 1;message b size 1;message ^a size 1;");
            Checks.error(4, "limit 2;box a;box b;message b size 1;message b size 1;message a size 1;message ^b");
            Checks.error(4, "box a;" + MESSAGE.repeat(30) + "message ^a size 1;");
            Checks.error(4, "limit 29;box a;" + MESSAGE.repeat(29) + "message ^a size 1;");
        });
    }

    private static void tooDeep() {
        S.holds("5 in a query, the 6th of the words not and the symbols ( that are open at one time", () -> {
            Checks.queryError(5, "not not not not not ^not all");
            Checks.queryError(5, "(((((^(all))))))");
            Checks.queryError(5, "not(not(not^(all)))");
            Checks.queryError(5, "((((( ^not");
            Checks.queryError(5, "not (((( all or ^not seen ))))");
            Checks.queryError(5, "not not not not not all or not not not not not ^( all )");
            MailSessions x = load("box a;message a size 10;");
            Checks.due("five words not", 0, () -> Checks.searched(x, 0, "not not not not not all"));
            Checks.due("five symbols (", 1, () -> Checks.searched(x, 0, "(((((all)))))"));
            Checks.due("five of both", 0, () -> Checks.searched(x, 0, "not(not(not all))"));
            Checks.due("closed ones count no more", 1, () -> Checks.searched(x, 0, "(((((all))))) (((((all)))))"));
        });
    }
}
