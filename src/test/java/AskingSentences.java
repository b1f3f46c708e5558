/** Promises 1 to 28 of ../shared/DOC.md: a test for each sentence that names a boundary case. */
final class AskingSentences {
    private static final int MIN = Integer.MIN_VALUE;
    private static final int MAX = Integer.MAX_VALUE;
    private static final String NO_SESSION = "Throws `IndexOutOfBoundsException` if there is no such session";
    private static final String NO_ENTRY = "Throws `IndexOutOfBoundsException` if there is no such session or entry";
    private static final String NO_BOX = "Throws `IndexOutOfBoundsException` if there is no such box";
    private static final String NO_WHAT = "Throws `IllegalArgumentException` if what is out of range";
    private static final String RETURNED = "Returns that number.";

    private AskingSentences() {
    }

    static void all() {
        newObject();
        append();
        truncate();
        load();
        errorCode();
        errorPosition();
        find("Promise 7", true);
        find("Promise 8", false);
        property();
        box();
        message();
        indexOf();
        session();
        entry();
        numberOf();
        numberThen();
        pending();
        isCurrent();
        firstUnseen();
        largest();
        common();
        holders();
        stale();
        unseen();
        mean();
        account();
        notice();
        searchBox();
    }

    private static void newObject() {
        Sentences s = Sentences.of("Promise 1");
        s.holds("Creates a server as described in the section on exceptions, with empty buffers and slots.", () -> {
            int[] none = {0, 0, 30, 0, 0};
            for (int what = 0; what < 5; what++) {
                int asked = what;
                Checks.due("property " + what, none[what], () -> new MailSessions().property(asked));
            }
            Checks.due("nothing to undo", 0, () -> new MailSessions().undoCount());
            Checks.due("no input", 20, () -> new MailSessions().append(0, 0, 0, 0, 0));
            Checks.due("nor anything to cut", "throws." + Checks.ARGUMENT, () -> truncated(new MailSessions(), 1));
            Checks.dueIndex("no output", () -> new MailSessions().outputByte(0));
            Checks.dueState("slot 0", () -> new MailSessions().restore(0));
            Checks.dueState("slot 1", () -> new MailSessions().restore(1));
            Checks.due("two objects have nothing in common", 0, () -> {
                Scenes.busy();
                return new MailSessions().property(0);
            });
        });
    }

    private static void append() {
        Sentences s = Sentences.of("Promise 2");
        s.holds("Appends 20 bytes to the input buffer: the four bytes of each parameter, most significant byte first.", () -> {
            MailSessions x = new MailSessions();
            // "box abcd;box efgh;b" and "ox i;": bytes of all five parameters, over the end of a call
            x.append(0x626f7820, 0x61626364, 0x3b626f78, 0x20656667, 0x683b626f);
            x.append(0x7820693b, 0x20202020, 0x20202020, 0x20202020, 0x20202020);
            Checks.due("load", 0, x::load);
            String[] names = {"abcd", "efgh", "i"};
            for (int k = 0; k < 3; k++) {
                Checks.feed(x, names[k]);
                Checks.due("box " + names[k], k, x::findBox);
            }
            for (int place = 0; place < 20; place++) {
                int[] words = {0x20202020, 0x20202020, 0x20202020, 0x20202020, 0x20202020};
                words[place / 4] ^= (0x20 ^ 0xff) << 24 - place % 4 * 8;
                MailSessions y = new MailSessions();
                y.append(words[0], words[1], words[2], words[3], words[4]);
                y.load();
                Checks.due("the byte 255 in place " + place, place, y::errorPosition);
            }
            for (int word : new int[] {0, -1, MIN, MAX, 0x80808080}) {
                MailSessions y = new MailSessions();
                Checks.due("append of " + word, 20, () -> y.append(word, word, word, word, word));
                Checks.due("no text", -4, y::load);
                Checks.due("wrong at once", 0, y::errorPosition);
            }
        });
        s.holds("Returns the new length of the buffer.", () -> {
            MailSessions x = new MailSessions();
            for (int times = 1; times <= 35; times++) {
                int length = times * 20;
                Checks.due("append " + times, length, () -> x.append(1, 2, 3, 4, 5));
            }
            x.truncate(0);
            Checks.due("behind truncate(0)", 20, () -> x.append(1, 2, 3, 4, 5));
            x.truncate(7);
            Checks.due("behind truncate(7)", 27, () -> x.append(1, 2, 3, 4, 5));
            x.load();
            Checks.due("behind load()", 20, () -> x.append(1, 2, 3, 4, 5));
        });
        s.holds("Throws `IllegalStateException` if the buffer would hold more than 700 bytes", () -> {
            Checks.due("20 bytes to 680", 700, () -> ofLength(680).append(0, 0, 0, 0, 0));
            for (int length : new int[] {681, 699, 700}) {
                Checks.refused(Checks.STATE, "20 bytes to " + length, () -> ofLength(length), x -> x.append(0, 0, 0, 0, 0));
            }
            Checks.due("the last of 35", 700, () -> ofLength(680).append(-1, -1, -1, -1, -1));
        });
    }

    private static MailSessions ofLength(int length) {
        MailSessions x = new MailSessions();
        Checks.feed(x, "+".repeat(length));
        return x;
    }

    private static int truncated(MailSessions x, int length) {
        x.truncate(length);
        return Checks.inputLength(x);
    }

    private static void truncate() {
        Sentences s = Sentences.of("Promise 3");
        s.holds("Cuts the input buffer to its first length bytes.", () -> {
            MailSessions x = new MailSessions();
            Checks.feed(x, "box a;box b;box c;");
            x.truncate(12);
            Checks.due("the first bytes stay", 0, x::load);
            Checks.due("the others don't", 2, () -> x.property(0));
            Checks.feed(x, "box a;box b;");
            x.truncate(6);
            Checks.feed(x, "box z;");
            x.load();
            Checks.feed(x, "z");
            Checks.due("what is appended comes behind them", 1, x::findBox);
        });
        s.holds("`length`: the new length, 0 to the current length", () -> {
            for (int length : new int[] {0, 1, 10, 20}) {
                Checks.due("of 20 bytes", length, () -> truncated(ofLength(20), length));
            }
            Checks.due("of no bytes", 0, () -> truncated(new MailSessions(), 0));
            Checks.due("700 of 700", 700, () -> truncated(ofLength(700), 700));
            Checks.due("0 of 700", 0, () -> truncated(ofLength(700), 0));
        });
        s.holds("Throws `IllegalArgumentException` if length is out of range", () -> {
            Checks.refusedBeside(0, 20, Checks.ARGUMENT, () -> ofLength(20), AskingSentences::truncated);
            Checks.refusedBeside(0, 0, Checks.ARGUMENT, Scenes::fresh, AskingSentences::truncated);
            Checks.refusedBeside(0, 700, Checks.ARGUMENT, () -> ofLength(700), AskingSentences::truncated);
            Checks.refused(Checks.ARGUMENT, "what was cut off", () -> {
                MailSessions x = ofLength(20);
                x.truncate(5);
                return x;
            }, x -> truncated(x, 6));
        });
    }

    private static void load() {
        Sentences s = Sentences.of("Promise 4");
        s.holds("Parses the input buffer and empties it.", () -> {
            MailSessions x = new MailSessions();
            Checks.feed(x, "box a;");
            x.load();
            Checks.due("emptied", 0, () -> Checks.inputLength(x));
            Checks.feed(x, "box a");
            x.load();
            Checks.due("emptied with a parse error", 0, () -> Checks.inputLength(x));
            Checks.due("empty already", -4, x::load);
            Checks.due("still empty", 0, () -> Checks.inputLength(x));
            MailSessions full = ofLength(700);
            full.load();
            Checks.due("a full one", 0, () -> Checks.inputLength(full));
        });
        s.holds("On success everything but the two slots and the output buffer is that of the text.", () -> {
            MailSessions x = Scenes.busy();
            x.writeView(0);
            String output = Checks.output(x, x.writeBox(0));
            x.truncate(0);
            Checks.feed(x, "box z;message z size 3;session q z;");
            x.load();
            Checks.due("everything", Checks.kept(Checks.loaded("box z;message z size 3;session q z;")), () -> Checks.kept(x));
            Checks.due("no parse error", 0, x::errorCode);
            Checks.due("no notices", 0, () -> x.property(4));
            Checks.due("but the output", output, () -> Checks.output(x, output.length()));
            Checks.due("and the slot that was kept", 4, () -> x.restore(0));
            Checks.due("and the one that was not", "throws." + Checks.STATE, () -> x.restore(1));
            MailSessions y = Scenes.full();
            Checks.feed(y, "limit 1;");
            Checks.due("a text without boxes", 0, y::load);
            Checks.dueIndex("no box is left", () -> y.box(0, 0));
            Checks.dueIndex("no session is left", () -> y.session(0, 0));
            String full = "box a;box b;message a size 7 seen draft;message b size 8 deleted;session s a;session t reads b;";
            for (String bare : new String[] {"box a;box b;message a size 1;session s;session t;", "box b;session s reads b;",
                "box a;box b;message b size 2 draft;session t b;session s;", "session s;", "limit 3;"}) {
                MailSessions z = Checks.loaded(full);
                Checks.feed(z, full);
                z.load();
                Checks.feed(z, bare);
                z.load();
                Checks.due("behind a text that has more", Checks.kept(Checks.loaded(bare)), () -> Checks.kept(z));
                z.undo();
                Checks.due("and that back again", Checks.kept(Checks.loaded(full)), () -> Checks.kept(z));
            }
        });
        s.holds("Returns the number of messages;", () -> {
            Checks.due("none", 0, () -> loads("box a;"));
            Checks.due("one", 1, () -> loads("box a;message a size 1;"));
            Checks.due("of two boxes", 3, () -> loads("box a;box b;message b size 1;message a size 1;message b size 1;"));
            Checks.due("30", 30, () -> loads("box a;" + "message a size 1;".repeat(30)));
        });
        s.holds("PARSE_ERROR if there is a parse error (then only the buffer and the parse error change).", () -> {
            for (String text : new String[] {"box a;message a size 1", "limit 0;", "limit 1;limit 1;", "box c;;", ""}) {
                Checks.due("load of " + text, -4, () -> loads(text));
                MailSessions x = Scenes.busy();
                String before = Checks.everything(x).replaceAll("input .*?,", "");
                x.truncate(0);
                Checks.feed(x, text);
                x.load();
                Checks.due("as ahead of " + text, before, () -> Checks.everything(x).replaceAll("input .*?,", ""));
                MailSessions y = Scenes.busy();
                y.truncate(0);
                Checks.feed(y, text);
                y.load();
                Checks.due("the slot too", 4, () -> y.restore(0));
                Checks.due("and what can be undone", 5, y::undo);
                y.undo();
                Checks.due("the calls ahead of it", 0, () -> y.message(0, 0, 2));
            }
        });
    }

    private static int loads(String text) {
        MailSessions x = new MailSessions();
        Checks.feed(x, text);
        return x.load();
    }

    private static void errorCode() {
        Sentences s = Sentences.of("Promise 5");
        s.holds("Returns the code of the parse error of the latest call of load(), search() or searchBox() that read a text; "
                + "0 if it had none or there was no such call.", () -> {
                    MailSessions x = new MailSessions();
                    Checks.due("no such call", 0, x::errorCode);
                    String[] texts = {"box a;;", "limit 0;", "box a;box a;", "box a;box b;box c;box d;", "((((((", "box a;"};
                    int[] codes = {1, 2, 3, 4, 1, 0};
                    for (int k = 0; k < 6; k++) {
                        Checks.feed(x, texts[k]);
                        x.load();
                        Checks.due("of " + texts[k], codes[k], x::errorCode);
                    }
                    Checks.searched(x, 0, "((((((");
                    Checks.due("of searchBox()", 5, x::errorCode);
                    Checks.searched(x, 0, "all");
                    Checks.due("of searchBox() without one", 0, x::errorCode);
                    MailSessions y = Scenes.busy();
                    Checks.dueState("a refused search()", () -> y.search(3));
                    Checks.dueIndex("a search() of no session", () -> y.search(4));
                    Checks.dueIndex("a searchBox() of no box", () -> y.searchBox(2));
                    y.findBox();
                    y.noop(0);
                    y.undo();
                    Checks.due("none of these read a text", 1, y::errorCode);
                    Checks.found(y, 0, "uid < 10000");
                    Checks.due("of search()", 2, y::errorCode);
                    Checks.found(y, 0, "uid < 9999");
                    Checks.due("of search() without one", 0, y::errorCode);
                });
    }

    private static void errorPosition() {
        Sentences s = Sentences.of("Promise 6");
        s.holds("Returns the position of the parse error of that call; NONE if it had none or there was no such call.", () -> {
            MailSessions x = new MailSessions();
            Checks.due("no such call", -1, x::errorPosition);
            x.load();
            Checks.due("an empty text", 0, x::errorPosition);
            Checks.feed(x, "box a;session s a;" + " ".repeat(681) + "?");
            x.load();
            Checks.due("the 700th byte", 699, x::errorPosition);
            Checks.feed(x, "box a;session s a;" + " ".repeat(682));
            x.load();
            Checks.due("it had none", -1, x::errorPosition);
            Checks.searched(x, 0, "all all )");
            Checks.due("of searchBox()", 8, x::errorPosition);
            x.noop(0);
            x.undo();
            Checks.due("still that one", 8, x::errorPosition);
            Checks.found(x, 0, "all");
            Checks.due("search() had none", -1, x::errorPosition);
        });
    }

    private static void find(String promise, boolean ofBox) {
        Sentences s = Sentences.of(promise);
        s.holds("Finds the " + (ofBox ? "box" : "session") + " whose name is the whole content of the input buffer, byte by byte.",
                () -> {
                    String[] names = {"a", "abc", "abcdef"};
                    for (int k = 0; k < 3; k++) {
                        Checks.due(names[k], k, found(names[k], ofBox));
                    }
                    for (String other : new String[] {"ab", "abcd", "abcde", "abcdeg", "bbcdef", "abd", "a ", " a", "a\n", "A", "a;",
                        "a\u0000", "\u0000a", "\u0000\u0000abc", "abcdef\u0000", "abcdefg", "abcdefabcdef", "aabc", "z", "\u00e1"}) {
                        Checks.due("not " + other, -1, found(other, ofBox));
                    }
                    Checks.due("not in 700 bytes", -1, found("a".repeat(700), ofBox));
                });
        s.holds("The buffer is empty afterwards.", () -> {
            for (String name : new String[] {"a", "nobody", "", "a".repeat(700)}) {
                MailSessions x = Checks.loaded("box a;session a;");
                Checks.feed(x, name);
                int found = ofBox ? x.findBox() : x.findSession();
                Checks.due("behind " + found, 0, () -> Checks.inputLength(x));
            }
        });
        s.holds("Returns the " + (ofBox ? "box" : "session") + "; NONE if there is none.", () -> {
            Checks.due("an empty name", -1, found("", ofBox));
            Checks.due("one of the other kind", -1, found(ofBox ? "s" : "b", ofBox));
            Checks.due("a new object", -1, () -> {
                MailSessions x = new MailSessions();
                Checks.feed(x, "a");
                return ofBox ? x.findBox() : x.findSession();
            });
            Checks.due("a new object without a name", -1, () -> {
                MailSessions x = new MailSessions();
                return ofBox ? x.findBox() : x.findSession();
            });
            Checks.due("one of an earlier text", -1, () -> {
                MailSessions x = Checks.loaded("box a;box b;session a;session b;");
                Checks.feed(x, "box a;session a;");
                x.load();
                Checks.feed(x, "b");
                return ofBox ? x.findBox() : x.findSession();
            });
            Checks.due("the last one", ofBox ? 2 : 3, () -> {
                MailSessions x = Checks.loaded("box a;box b;box z;session a;session b;session c;session z;");
                Checks.feed(x, "z");
                return ofBox ? x.findBox() : x.findSession();
            });
        });
    }

    private static Checks.Call foundBy(String text, String name, boolean ofBox) {
        return () -> {
            MailSessions x = Checks.loaded(text);
            Checks.feed(x, name);
            return ofBox ? x.findBox() : x.findSession();
        };
    }

    private static Checks.Call found(String name, boolean ofBox) {
        String text = ofBox ? "box a;box abc;box abcdef;session s;" : "session a;session abc;session abcdef;box b;";
        return foundBy(text, name, ofBox);
    }

    private static void property() {
        Sentences s = Sentences.of("Promise 9");
        s.holds("`what`: 0 boxes; 1 sessions; 2 the limit; 3 messages in all boxes; 4 notices of the latest act", () -> {
            Checks.dueFrom(0, new Object[] {2, 4, 5, 6, 2}, Scenes::busy, MailSessions::property);
            Checks.dueFrom(0, new Object[] {0, 0, 30, 0, 0}, Scenes::fresh, MailSessions::property);
            Checks.dueFrom(0, new Object[] {3, 2, 30, 30, 1}, Scenes::full, MailSessions::property);
        });
        s.holds(RETURNED, () -> {
            MailSessions x = Scenes.full();
            Scenes.deliver(x, 1, 30, 0);
            Scenes.deliver(x, 2, 30, 0);
            Checks.due("the messages of three full boxes", 90, () -> x.property(3));
            Checks.due("all boxes and sessions", 3, () -> Checks.loaded("box a;box b;box c;").property(0));
            Checks.due("all sessions", 4, () -> Checks.loaded("session a;session b;session c;session d;").property(1));
            MailSessions wide = Scenes.wide(60);
            wide.noop(1);
            wide.uidStore(1, 31, 60, 1, 8);
            wide.expunge(1);
            wide.noop(0);
            Checks.due("sixty notices", 60, () -> wide.property(4));
        });
        s.holds(NO_WHAT, () -> {
            Checks.refusedBeside(0, 4, Checks.ARGUMENT, Scenes::busy, MailSessions::property);
            Checks.refusedBeside(0, 4, Checks.ARGUMENT, Scenes::fresh, MailSessions::property);
        });
    }

    private static void box() {
        Sentences s = Sentences.of("Promise 10");
        s.holds("`box`: number of a box", () -> {
            Checks.dueFrom(0, new Object[] {4, 2}, Scenes::busy, (x, box) -> x.box(box, 0));
            Checks.dueFrom(0, new Object[] {30, 0, 0}, Scenes::full, (x, box) -> x.box(box, 0));
        });
        s.holds("`what`: 0 its messages; 1 the next uid; 2 the sum of their sizes; 3 messages without the flag seen; "
                + "4 messages with the flag deleted; 5 the set of the sessions that have selected it", () -> {
                    Checks.dueFrom(0, new Object[] {4, 6, 140, 3, 0, 7}, Scenes::busy, (x, what) -> x.box(0, what));
                    Checks.dueFrom(0, new Object[] {2, 3, 120, 2, 0, 0}, Scenes::busy, (x, what) -> x.box(1, what));
                    Checks.dueFrom(0, new Object[] {0, 1, 0, 0, 0, 0}, Scenes::full, (x, what) -> x.box(2, what));
                    Checks.dueFrom(0, new Object[] {30, 31, 465, 30, 0, 1}, Scenes::full, (x, what) -> x.box(0, what));
                });
        s.holds(RETURNED, () -> {
            MailSessions x = Checks.loaded("box a;session p a;session q reads a;session r a;session s a;");
            for (int k = 0; k < 30; k++) {
                x.deliver(0, 9999, 8 + k % 2);
            }
            Checks.due("30 of the greatest size", 299970, () -> x.box(0, 2));
            Checks.due("without seen", 15, () -> x.box(0, 3));
            Checks.due("with deleted", 30, () -> x.box(0, 4));
            Checks.due("all sessions", 15, () -> x.box(0, 5));
            x.noop(0);
            x.expunge(0);
            Checks.due("none is left", 0, () -> x.box(0, 2));
            Checks.due("the next uid", 31, () -> x.box(0, 1));
            x.close(3);
            Checks.due("all but the last", 7, () -> x.box(0, 5));
        });
        s.holds(NO_BOX, () -> {
            Checks.refusedBeside(0, 1, Checks.INDEX, Scenes::busy, (x, box) -> x.box(box, 0));
            Checks.refusedBeside(0, 2, Checks.INDEX, Scenes::full, (x, box) -> x.box(box, 5));
            Checks.refusedBeside(1, -1, Checks.INDEX, Scenes::fresh, (x, box) -> x.box(box, 0));
        });
        s.holds(NO_WHAT, () -> Checks.refusedBeside(0, 5, Checks.ARGUMENT, Scenes::busy, (x, what) -> x.box(1, what)));
    }

    private static void message() {
        Sentences s = Sentences.of("Promise 11");
        s.holds("`box`: number of a box", () -> Checks.dueFrom(0, new Object[] {10, 50}, Scenes::busy, (x, box) -> x.message(box, 0, 1)));
        s.holds("`index`: index of a message of the box, from 0", () -> {
            Checks.dueFrom(0, new Object[] {1, 3, 4, 5}, Scenes::busy, (x, index) -> x.message(0, index, 0));
            Checks.due("the 30th", 30, () -> Scenes.full().message(0, 29, 1));
        });
        s.holds("`what`: 0 its uid, 1 its size, 2 its flags", () -> {
            Checks.dueFrom(0, new Object[] {1, 10, 16}, Scenes::busy, (x, what) -> x.message(0, 0, what));
            Checks.dueFrom(0, new Object[] {5, 60, 2}, Scenes::busy, (x, what) -> x.message(0, 3, what));
        });
        s.holds(RETURNED, () -> {
            MailSessions x = Checks.loaded("box a;message a size 9999 seen answered flagged deleted draft;message a size 1;");
            Checks.due("the greatest size", 9999, () -> x.message(0, 0, 1));
            Checks.due("all flags", 31, () -> x.message(0, 0, 2));
            Checks.due("the least size", 1, () -> x.message(0, 1, 1));
            Checks.due("no flags", 0, () -> x.message(0, 1, 2));
        });
        s.holds("Throws `IndexOutOfBoundsException` if there is no such box or message", () -> {
            Checks.refusedBeside(0, 1, Checks.INDEX, Scenes::busy, (x, box) -> x.message(box, 0, 0));
            Checks.refusedBeside(0, 3, Checks.INDEX, Scenes::busy, (x, index) -> x.message(0, index, 0));
            Checks.refusedBeside(0, 1, Checks.INDEX, Scenes::busy, (x, index) -> x.message(1, index, 2));
            Checks.refusedBeside(0, 29, Checks.INDEX, Scenes::full, (x, index) -> x.message(0, index, 0));
            Checks.refused(Checks.INDEX, "of an empty box", Scenes::full, x -> x.message(1, 0, 0));
            Checks.refused(Checks.INDEX, "of a new object", Scenes::fresh, x -> x.message(0, 0, 0));
        });
        s.holds(NO_WHAT, () -> Checks.refusedBeside(0, 2, Checks.ARGUMENT, Scenes::busy, (x, what) -> x.message(0, 3, what)));
    }

    private static void indexOf() {
        Sentences s = Sentences.of("Promise 12");
        s.holds("`box`: number of a box", () -> Checks.dueFrom(0, new Object[] {-1, 1}, Scenes::busy, (x, box) -> x.indexOf(box, 2)));
        s.holds("`uid`: any number", () -> {
            for (int uid : new int[] {0, -1, -2, 6, 7, 31, MIN, MAX}) {
                Checks.due("uid " + uid, -1, () -> Scenes.busy().indexOf(0, uid));
                Checks.due("uid " + uid + " in an empty box", -1, () -> Scenes.full().indexOf(1, uid));
            }
        });
        s.holds("Returns the index of the message of the box with this uid; NONE if there is none.", () -> {
            Checks.dueFrom(0, new Object[] {-1, 0, -1, 1, 2, 3, -1}, Scenes::busy, (x, uid) -> x.indexOf(0, uid));
            Checks.dueFrom(29, new Object[] {28, 29, -1}, Scenes::full, (x, uid) -> x.indexOf(0, uid));
            Checks.dueFrom(0, new Object[] {-1, -1}, Scenes::full, (x, uid) -> x.indexOf(1, uid));
        });
        s.holds(NO_BOX, () -> Checks.refusedBeside(0, 1, Checks.INDEX, Scenes::busy, (x, box) -> x.indexOf(box, 1)));
    }

    private static void session() {
        Sentences s = Sentences.of("Promise 13");
        s.holds("`session`: number of a session",
                () -> Checks.dueFrom(0, new Object[] {0, 0, 0, -1}, Scenes::busy, (x, session) -> x.session(session, 0)));
        s.holds("`what`: 0 its box, NONE without one; 1 whether it only reads, 2 whether it is idle (1 or 0 each); 3 entries; "
                + "4 entries that are gone; 5 entries that are not gone and have other flags than it was told; "
                + "6 messages that notice 2 would be about, if there was room for all", () -> {
                    Object[][] due = {{0, 0, 0, 4, 0, 0, 0}, {0, 0, 1, 4, 0, 0, 0}, {0, 1, 0, 4, 1, 1, 1}, {-1, 0, 0, 0, 0, 0, 0}};
                    for (int k = 0; k < 4; k++) {
                        int session = k;
                        Checks.dueFrom(0, due[k], Scenes::busy, (x, what) -> x.session(session, what));
                    }
                    Checks.dueFrom(0, new Object[] {1, 0, 0, 0, 0, 0, 0}, Scenes::full, (x, what) -> x.session(1, what));
                });
        s.holds(RETURNED, () -> {
            MailSessions x = Scenes.wide(60);
            Checks.due("sixty entries", 60, () -> x.session(0, 3));
            Checks.due("thirty are gone", 30, () -> x.session(0, 4));
            Checks.due("thirty came", 30, () -> x.session(1, 6));
            x.noop(1);
            x.uidStore(1, 31, 60, 0, 8);
            Checks.due("thirty with other flags", 30, () -> x.session(0, 5));
            x.expunge(1);
            Checks.due("none of them, as all are gone", 0, () -> x.session(0, 5));
            Checks.due("sixty", 60, () -> x.session(0, 4));
            x.deliver(0, 1, 0);
            x.deliver(0, 1, 0);
            Checks.due("two, though there is no room", 2, () -> x.session(0, 6));
            MailSessions y = Scenes.wide(59);
            y.noop(1);
            y.uidStore(1, 31, 31, 0, 8);
            y.expunge(1);
            y.deliver(0, 1, 0);
            y.deliver(0, 1, 0);
            Checks.due("two, though there is room for one", 2, () -> y.session(0, 6));
        });
        s.holds(NO_SESSION, () -> {
            Checks.refusedBeside(0, 3, Checks.INDEX, Scenes::busy, (x, session) -> x.session(session, 0));
            Checks.refusedBeside(0, 1, Checks.INDEX, Scenes::full, (x, session) -> x.session(session, 6));
            Checks.refusedBeside(1, -1, Checks.INDEX, Scenes::fresh, (x, session) -> x.session(session, 0));
        });
        s.holds(NO_WHAT, () -> {
            Checks.refusedBeside(0, 6, Checks.ARGUMENT, Scenes::busy, (x, what) -> x.session(2, what));
            Checks.refusedBeside(0, 6, Checks.ARGUMENT, Scenes::busy, (x, what) -> x.session(3, what));
        });
    }

    private static void entry() {
        Sentences s = Sentences.of("Promise 14");
        s.holds("`session`: number of a session",
                () -> Checks.dueFrom(0, new Object[] {3, 3, 2}, Scenes::busy, (x, session) -> x.entry(session, 2, 0)));
        s.holds("`number`: number of an entry of its view", () -> {
            Checks.dueFrom(1, new Object[] {1, 3, 4, 5}, Scenes::busy, (x, number) -> x.entry(0, number, 0));
            Checks.dueFrom(59, new Object[] {59, 60}, () -> Scenes.wide(60), (x, number) -> x.entry(0, number, 0));
        });
        s.holds("`what`: 0 its uid; 1 the flags that the session was told; 2 whether it is gone (1 or 0); "
                + "3 the size of its message, 0 if it is gone; 4 the flags of its message, 0 if it is gone", () -> {
                    Object[][] due = {{1, 0, 0, 10, 16}, {2, 8, 1, 0, 0}, {3, 1, 0, 30, 1}, {4, 4, 0, 40, 4}};
                    for (int k = 0; k < 4; k++) {
                        int number = k + 1;
                        Checks.dueFrom(0, due[k], Scenes::busy, (x, what) -> x.entry(2, number, what));
                    }
                });
        s.holds(RETURNED, () -> {
            MailSessions x = Checks.loaded("box a;message a size 9999 draft deleted flagged answered seen;session s a;session t a;");
            Object[] there = {1, 31, 0, 9999, 31};
            for (int what = 0; what < 5; what++) {
                int asked = what;
                Checks.due("there, " + what, there[what], () -> x.entry(1, 1, asked));
            }
            x.expunge(0);
            Object[] gone = {1, 31, 1, 0, 0};
            for (int what = 0; what < 5; what++) {
                int asked = what;
                Checks.due("gone, " + what, gone[what], () -> x.entry(1, 1, asked));
            }
        });
        s.holds(NO_ENTRY, () -> {
            Checks.refusedBeside(0, 3, Checks.INDEX, Scenes::busy, (x, session) -> x.entry(session, 1, 0));
            Checks.refusedBeside(1, 4, Checks.INDEX, Scenes::busy, (x, number) -> x.entry(0, number, 0));
            Checks.refusedBeside(1, 4, Checks.INDEX, Scenes::busy, (x, number) -> x.entry(2, number, 4));
            Checks.refusedBeside(1, 0, Checks.INDEX, Scenes::full, (x, number) -> x.entry(1, number, 0));
            Checks.refusedBeside(1, 60, Checks.INDEX, () -> Scenes.wide(60), (x, number) -> x.entry(0, number, 0));
            Checks.refused(Checks.INDEX, "without a box", Scenes::busy, x -> x.entry(3, 1, 0));
        });
        s.holds(NO_WHAT, () -> {
            Checks.refusedBeside(0, 4, Checks.ARGUMENT, Scenes::busy, (x, what) -> x.entry(0, 4, what));
            Checks.refusedBeside(0, 4, Checks.ARGUMENT, Scenes::busy, (x, what) -> x.entry(2, 2, what));
        });
    }

    private static void numberOf() {
        Sentences s = Sentences.of("Promise 15");
        s.holds("`session`: number of a session",
                () -> Checks.dueFrom(0, new Object[] {3, 3, 4, -1}, Scenes::busy, (x, session) -> x.numberOf(session, 4)));
        s.holds("`uid`: any number", () -> {
            for (int uid : new int[] {0, -1, 6, 61, MIN, MAX}) {
                for (int k = 0; k < 4; k++) {
                    int session = k;
                    Checks.due("uid " + uid, -1, () -> Scenes.busy().numberOf(session, uid));
                }
            }
        });
        s.holds("Returns the number of its entry with this uid; NONE if there is none.", () -> {
            Checks.dueFrom(0, new Object[] {-1, 1, -1, 2, 3, 4, -1}, Scenes::busy, (x, uid) -> x.numberOf(0, uid));
            Checks.dueFrom(0, new Object[] {-1, 1, 2, 3, 4, -1, -1}, Scenes::busy, (x, uid) -> x.numberOf(2, uid));
            Checks.dueFrom(0, new Object[] {-1, -1}, Scenes::full, (x, uid) -> x.numberOf(1, uid));
            Checks.dueFrom(59, new Object[] {59, 60, -1}, () -> Scenes.wide(60), (x, uid) -> x.numberOf(0, uid));
        });
        s.holds(NO_SESSION, () -> Checks.refusedBeside(0, 3, Checks.INDEX, Scenes::busy, (x, session) -> x.numberOf(session, 1)));
    }

    private static void numberThen() {
        Sentences s = Sentences.of("Promise 16");
        s.holds("`session`: number of a session",
                () -> Checks.dueFrom(0, new Object[] {3, 3, 2}, Scenes::busy, (x, session) -> x.numberThen(session, 3)));
        s.holds("`number`: number of an entry of its view",
                () -> Checks.dueFrom(1, new Object[] {1, 2, 3, 4}, Scenes::busy, (x, number) -> x.numberThen(0, number)));
        s.holds("Returns the number that it would have behind noop(); NONE if it is gone.", () -> {
            Checks.dueFrom(1, new Object[] {1, -1, 2, 3}, Scenes::busy, (x, number) -> x.numberThen(2, number));
            Checks.dueFrom(29, new Object[] {-1, -1, 1, 2}, () -> Scenes.wide(60), (x, number) -> x.numberThen(0, number));
            Checks.due("the 60th", 30, () -> Scenes.wide(60).numberThen(0, 60));
            Checks.due("while idle", 4, () -> Scenes.busy().numberThen(1, 4));
        });
        s.holds(NO_ENTRY, () -> {
            Checks.refusedBeside(0, 3, Checks.INDEX, Scenes::busy, (x, session) -> x.numberThen(session, 1));
            Checks.refusedBeside(1, 4, Checks.INDEX, Scenes::busy, (x, number) -> x.numberThen(2, number));
            Checks.refusedBeside(1, 0, Checks.INDEX, Scenes::full, (x, number) -> x.numberThen(1, number));
            Checks.refusedBeside(1, 60, Checks.INDEX, () -> Scenes.wide(60), (x, number) -> x.numberThen(0, number));
            Checks.refused(Checks.INDEX, "without a box", Scenes::busy, x -> x.numberThen(3, 1));
        });
    }

    private static void pending() {
        Sentences s = Sentences.of("Promise 17");
        s.holds("`session`: number of a session",
                () -> Checks.dueFrom(0, new Object[] {0, 0, 3, 0}, Scenes::busy, MailSessions::pending));
        s.holds("Returns how many notices telling it all would make now; 0 without a box.", () -> {
            Checks.due("without a box", 0, () -> Scenes.busy().pending(3));
            Checks.due("behind close()", 0, () -> {
                MailSessions x = Scenes.busy();
                x.close(2);
                return x.pending(2);
            });
            Checks.due("an empty box", 0, () -> Scenes.full().pending(1));
            MailSessions x = Scenes.wide(60);
            Checks.due("30 removals", 30, () -> x.pending(0));
            Checks.due("30 messages are one notice", 1, () -> x.pending(1));
            x.noop(1);
            x.uidStore(1, 31, 60, 0, 8);
            Checks.due("and 30 flags", 60, () -> x.pending(0));
            x.expunge(1);
            Checks.due("60 removals", 60, () -> x.pending(0));
            x.deliver(0, 1, 0);
            Checks.due("and a message, for which there is room then", 61, () -> x.pending(0));
            Checks.due("as many as there are", 61, () -> x.noop(0));
            Checks.due("none then", 0, () -> x.pending(0));
        });
        s.holds(NO_SESSION, () -> Checks.refusedBeside(0, 3, Checks.INDEX, Scenes::busy, MailSessions::pending));
    }

    private static void isCurrent() {
        Sentences s = Sentences.of("Promise 18");
        s.holds("`session`: number of a session",
                () -> Checks.dueFrom(0, new Object[] {true, true, false, false}, Scenes::busy, MailSessions::isCurrent));
        s.holds("Returns true if it has a box, and telling it all would make no notice.", () -> {
            Checks.due("without a box", false, () -> Scenes.busy().isCurrent(3));
            Checks.due("an empty box", true, () -> Scenes.full().isCurrent(1));
            MailSessions x = Checks.loaded("box a;message a size 1;message a size 1 deleted;session s a;session t a;");
            x.uidStore(0, 1, 1, 0, 2);
            Checks.due("flags", false, () -> x.isCurrent(1));
            x.uidStore(0, 1, 1, 0, 0);
            Checks.due("flags that are back", true, () -> x.isCurrent(1));
            x.deliver(0, 1, 0);
            Checks.due("a message", false, () -> x.isCurrent(1));
            x.undo();
            x.expunge(0);
            Checks.due("a removal", false, () -> x.isCurrent(1));
            x.fetch(1, 1, 1, true);
            Checks.due("told without it", false, () -> x.isCurrent(1));
            x.noop(1);
            Checks.due("told of it", true, () -> x.isCurrent(1));
        });
        s.holds(NO_SESSION, () -> Checks.refusedBeside(0, 3, Checks.INDEX, Scenes::busy, MailSessions::isCurrent));
    }

    private static void firstUnseen() {
        Sentences s = Sentences.of("Promise 19");
        s.holds("`session`: number of a session",
                () -> Checks.dueFrom(0, new Object[] {1, 1, 1, -1}, Scenes::busy, MailSessions::firstUnseen));
        s.holds("Returns the lowest number, gone or not, whose flags, as it was told, do not have seen; NONE if there is none.", () -> {
            MailSessions x = Checks.loaded("box a;message a size 1 seen;message a size 1 answered deleted;message a size 1;"
                    + "session s a;session t a;session u;");
            Checks.due("the second", 2, () -> x.firstUnseen(1));
            x.expunge(0);
            Checks.due("gone", 2, () -> x.firstUnseen(1));
            x.uidStore(0, 1, 3, 0, 31);
            Checks.due("as it was told", 2, () -> x.firstUnseen(1));
            Checks.due("none", -1, () -> x.firstUnseen(0));
            x.noop(1);
            Checks.due("none either", -1, () -> x.firstUnseen(1));
            x.uidStore(0, 1, 3, 0, 30);
            Checks.due("the first", 1, () -> x.firstUnseen(0));
            Checks.due("without a box", -1, () -> x.firstUnseen(2));
            Checks.due("an empty view", -1, () -> Scenes.full().firstUnseen(1));
            Checks.due("the only one", 1, () -> Checks.loaded("box a;message a size 1;session s a;").firstUnseen(0));
            Checks.due("the last one", 2,
                    () -> Checks.loaded("box a;message a size 1 seen;message a size 1;session s a;").firstUnseen(0));
            MailSessions wide = Scenes.wide(59);
            wide.noop(1);
            wide.uidStore(1, 31, 60, 0, 1);
            wide.fetch(0, 31, 31, true);
            wide.deliver(0, 1, 0);
            wide.fetch(0, 31, 31, true);
            Checks.due("of sixty, the first that is gone", 1, () -> wide.firstUnseen(0));
        });
        s.holds(NO_SESSION, () -> Checks.refusedBeside(0, 3, Checks.INDEX, Scenes::busy, MailSessions::firstUnseen));
    }

    private static void largest() {
        Sentences s = Sentences.of("Promise 20");
        s.holds("`session`: number of a session",
                () -> Checks.dueFrom(0, new Object[] {4, 4, 4, -1}, Scenes::busy, MailSessions::largest));
        s.holds("Returns the number of its largest message that is not gone, the lowest one of several; NONE if there is none.", () -> {
            MailSessions x = Checks.loaded("box a;message a size 7;message a size 9999 deleted;message a size 8;message a size 8;"
                    + "session s a;session t a;session u;");
            Checks.due("the greatest size", 2, () -> x.largest(1));
            x.expunge(0);
            Checks.due("the lowest of several", 3, () -> x.largest(1));
            Checks.due("by the other's numbers", 2, () -> x.largest(0));
            x.deliver(0, 9, 0);
            Checks.due("one without an entry does not count", 3, () -> x.largest(1));
            x.uidStore(0, 1, 9, 0, 8);
            x.expunge(0);
            Checks.due("all gone", -1, () -> x.largest(1));
            Checks.due("an empty view", -1, () -> x.largest(0));
            Checks.due("without a box", -1, () -> x.largest(2));
            Checks.due("the only one, of size 1", 1, () -> Checks.loaded("box a;message a size 1;session s a;").largest(0));
            Checks.due("the last of sixty", 60, () -> Scenes.wide(60).largest(0));
        });
        s.holds(NO_SESSION, () -> Checks.refusedBeside(0, 3, Checks.INDEX, Scenes::busy, MailSessions::largest));
    }

    private static void common() {
        Sentences s = Sentences.of("Promise 21");
        s.holds("`session`: number of a session",
                () -> Checks.dueFrom(0, new Object[] {3, 3, 4, 0}, Scenes::busy, (x, session) -> x.common(session, 2)));
        s.holds("`other`: number of a session",
                () -> Checks.dueFrom(0, new Object[] {3, 3, 4, 0}, Scenes::busy, (x, other) -> x.common(2, other)));
        s.holds("Returns how many uids both views have, if both have selected the same box; otherwise 0.", () -> {
            MailSessions x = Checks.loaded("box a;box b;message a size 1;message b size 1;session p a;session q b;session r;session s;");
            Checks.due("other boxes", 0, () -> x.common(0, 1));
            Checks.due("one without a box", 0, () -> x.common(0, 2));
            Checks.due("both without a box", 0, () -> x.common(2, 3));
            Checks.due("one with itself, without a box", 0, () -> x.common(2, 2));
            Checks.due("one with itself", 1, () -> x.common(0, 0));
            Checks.due("an empty view", 0, () -> Scenes.full().common(1, 1));
            MailSessions wide = Scenes.wide(60);
            Checks.due("sixty", 60, () -> wide.common(0, 0));
            Checks.due("none, as the other was not told", 0, () -> wide.common(0, 1));
            wide.noop(1);
            Checks.due("thirty", 30, () -> wide.common(1, 0));
        });
        s.holds(NO_SESSION, () -> {
            Checks.refusedBeside(0, 3, Checks.INDEX, Scenes::busy, (x, session) -> x.common(session, 0));
            Checks.refusedBeside(0, 3, Checks.INDEX, Scenes::busy, (x, other) -> x.common(0, other));
            Checks.refusedBeside(0, 3, Checks.INDEX, Scenes::busy, (x, other) -> x.common(3, other));
        });
    }

    private static void holders() {
        Sentences s = Sentences.of("Promise 22");
        s.holds("`box`: number of a box", () -> Checks.dueFrom(0, new Object[] {7, 0}, Scenes::busy, (x, box) -> x.holders(box, 1)));
        s.holds("`uid`: any number", () -> {
            for (int uid : new int[] {0, -1, 6, 61, MIN, MAX}) {
                Checks.due("uid " + uid, 0, () -> Scenes.busy().holders(0, uid));
            }
        });
        s.holds("Returns the set of the sessions that have selected the box and have an entry with this uid.", () -> {
            Checks.dueFrom(0, new Object[] {0, 7, 4, 7, 7, 3, 0}, Scenes::busy, (x, uid) -> x.holders(0, uid));
            MailSessions x = Checks.loaded("box a;box b;message a size 1;message b size 1;session p a;session q b;session r a;session s a;");
            Checks.due("the first and the last", 13, () -> x.holders(0, 1));
            Checks.due("of the other box", 2, () -> x.holders(1, 1));
            x.close(0);
            Checks.due("one that closed it", 12, () -> x.holders(0, 1));
            Checks.due("all four", 15, () -> Checks.loaded("box a;message a size 1;session p a;session q a;session r a;session s a;")
                    .holders(0, 1));
        });
        s.holds(NO_BOX, () -> Checks.refusedBeside(0, 1, Checks.INDEX, Scenes::busy, (x, box) -> x.holders(box, 1)));
    }

    private static void stale() {
        Sentences s = Sentences.of("Promise 23");
        s.holds("Returns the set of the sessions that have a box and are not current.", () -> {
            Checks.due("one", 4, () -> Scenes.busy().stale());
            Checks.due("a new object", 0, () -> new MailSessions().stale());
            Checks.due("without boxes", 0, () -> Checks.loaded("session a;session b;session c;session d;").stale());
            MailSessions x = Checks.loaded("box a;session p a;session q a;session r a;session s a;");
            Checks.due("none", 0, x::stale);
            x.deliver(0, 1, 0);
            Checks.due("all four", 15, x::stale);
            x.noop(0);
            x.close(2);
            Checks.due("the second and the last", 10, x::stale);
            x.startIdle(3);
            Checks.due("the second", 2, x::stale);
        });
    }

    private static void unseen() {
        Sentences s = Sentences.of("Promise 24");
        s.holds("`box`: number of a box", () -> Checks.dueFrom(0, new Object[] {0.75f, 1.0f}, Scenes::busy, MailSessions::unseen));
        s.holds("Returns the number of messages without the flag seen as a float, divided by the number of all its messages as a float; "
                + "0.0f without messages.", () -> {
                    Checks.due("without messages", 0.0f, () -> Scenes.full().unseen(1));
                    Checks.due("all", 1.0f, () -> Scenes.full().unseen(0));
                    Checks.due("the only one", 1.0f, () -> Checks.loaded("box a;message a size 1 draft;").unseen(0));
                    Checks.due("the only one, seen", 0.0f, () -> Checks.loaded("box a;message a size 1 seen;").unseen(0));
                    MailSessions x = Scenes.full();
                    for (int seen = 1; seen <= 30; seen++) {
                        x.uidStore(0, seen, seen, 0, 31);
                        float due = (float) (30 - seen) / 30.0f;
                        Checks.due(seen + " seen", due, () -> x.unseen(0));
                    }
                    Checks.due("all but seen", 1.0f, () -> {
                        x.uidStore(0, 1, 30, 0, 30);
                        return x.unseen(0);
                    });
                });
        s.holds(NO_BOX, () -> {
            Checks.refusedBeside(0, 1, Checks.INDEX, Scenes::busy, MailSessions::unseen);
            Checks.refused(Checks.INDEX, "of a new object", Scenes::fresh, x -> x.unseen(0));
        });
    }

    private static void mean() {
        Sentences s = Sentences.of("Promise 25");
        s.holds("`box`: number of a box", () -> Checks.dueFrom(0, new Object[] {35.0, 60.0}, Scenes::busy, MailSessions::mean));
        s.holds("Returns the sum of the sizes of its messages as a double, divided by their number as a double; 0.0 without messages.", () -> {
            Checks.due("without messages", 0.0, () -> Scenes.full().mean(1));
            Checks.due("30 messages", 15.5, () -> Scenes.full().mean(0));
            Checks.due("one of size 1", 1.0, () -> Checks.loaded("box a;message a size 1;").mean(0));
            Checks.due("the greatest", 9999.0, () -> Checks.loaded("box a;message a size 9999;message a size 9999;").mean(0));
            Checks.due("a third", 10000.0 / 3.0, () -> Checks.loaded("box a;message a size 9998;message a size 1;message a size 1;").mean(0));
            Checks.due("a seventh", 10.0 / 7.0, () -> Checks.loaded("box a;" + "message a size 1;".repeat(6) + "message a size 4;").mean(0));
        });
        s.holds(NO_BOX, () -> {
            Checks.refusedBeside(0, 1, Checks.INDEX, Scenes::busy, MailSessions::mean);
            Checks.refused(Checks.INDEX, "of a new object", Scenes::fresh, x -> x.mean(0));
        });
    }

    private static void account() {
        Sentences s = Sentences.of("Promise 26");
        s.holds("`session`: number of a session",
                () -> Checks.dueFrom(0, new Object[] {3, 1, 1, 0}, Scenes::busy, (x, session) -> x.account(session, 0)));
        s.holds("`what`: 0 commands that were not refused (nor had a parse error); 1 to 3 notices 0 to 2 that it was told; "
                + "4 the sum of the sizes that fetch() returned", () -> {
                    Checks.dueFrom(0, new Object[] {3, 1, 1, 1, 0}, Scenes::busy, (x, what) -> x.account(0, what));
                    Checks.dueFrom(0, new Object[] {1, 1, 1, 1, 0}, Scenes::busy, (x, what) -> x.account(1, what));
                    Checks.dueFrom(0, new Object[] {1, 0, 0, 0, 100}, Scenes::busy, (x, what) -> x.account(2, what));
                    Checks.dueFrom(0, new Object[] {0, 0, 0, 0, 0}, Scenes::busy, (x, what) -> x.account(3, what));
                    MailSessions x = Scenes.busy();
                    Checks.dueState("a refused one", () -> x.expunge(2));
                    x.truncate(0);
                    Checks.found(x, 2, "(");
                    Checks.due("neither counts", 1, () -> x.account(2, 0));
                    Checks.found(x, 2, "all");
                    Checks.due("one without a parse error does", 2, () -> x.account(2, 0));
                });
        s.holds("Returns that number since load().", () -> {
            MailSessions x = Scenes.full();
            Checks.due("a fetch of 30", 465, () -> x.fetch(0, 1, 30, true));
            x.fetch(0, 30, 30, true);
            Checks.due("both", 495, () -> x.account(0, 4));
            Checks.feed(x, "box a;message a size 1;session s a;");
            x.load();
            for (int what = 0; what < 5; what++) {
                int asked = what;
                Checks.due("behind load(), " + what, 0, () -> x.account(0, asked));
            }
            x.fetch(0, 1, 1, false);
            Checks.due("since then", 1, () -> x.account(0, 4));
            Checks.feed(x, "limit 0;");
            x.load();
            Checks.due("a load() with a parse error is none", 1, () -> x.account(0, 4));
            x.undo();
            Checks.due("undo() brings back the count", 0, () -> x.account(0, 4));
            x.undo();
            Checks.due("and that ahead of load()", 495, () -> x.account(0, 4));
        });
        s.holds(NO_SESSION, () -> Checks.refusedBeside(0, 3, Checks.INDEX, Scenes::busy, (x, session) -> x.account(session, 0)));
        s.holds(NO_WHAT, () -> Checks.refusedBeside(0, 4, Checks.ARGUMENT, Scenes::busy, (x, what) -> x.account(3, what)));
    }

    private static void notice() {
        Sentences s = Sentences.of("Promise 27");
        s.holds("`index`: index into the notices of the latest act, from 0",
                () -> Checks.dueFrom(0, new Object[] {0, 1}, Scenes::busy, (x, index) -> x.notice(index, 0)));
        s.holds("`what`: 0 the session, 1 the notice, 0 to 2, 2 the number, 3 the flags (0 but for notice 1)", () -> {
            Object[][] due = {{2, 0, 2, 0}, {2, 1, 1, 16}, {2, 2, 4, 0}};
            for (int k = 0; k < 3; k++) {
                int index = k;
                Checks.dueFrom(0, due[k], () -> {
                    MailSessions x = Scenes.busy();
                    x.noop(2);
                    return x;
                }, (x, what) -> x.notice(index, what));
            }
        });
        s.holds(RETURNED, () -> {
            MailSessions x = Checks.loaded("box a;message a size 1;session p a;session q a;session r a;session s a;");
            x.startIdle(3);
            x.uidStore(0, 1, 1, 0, 31);
            Checks.due("all flags", 31, () -> x.notice(1, 3));
            Checks.due("the last session", 3, () -> x.notice(1, 0));
            x.uidStore(0, 1, 1, 0, 0);
            Checks.due("no flags", 0, () -> x.notice(1, 3));
            Checks.due("for notice 1", 1, () -> x.notice(1, 1));
            MailSessions wide = Scenes.wide(60);
            Checks.due("the number 60", 60, () -> wide.notice(0, 2));
        });
        s.holds(NO_WHAT, () -> {
            Checks.refusedBeside(0, 3, Checks.ARGUMENT, Scenes::busy, (x, what) -> x.notice(1, what));
            Checks.refusedBeside(0, 3, Checks.ARGUMENT, Scenes::fresh, (x, what) -> x.notice(0, what));
        });
        s.holds("Throws `NoSuchElementException` if there is no such notice", () -> {
            Checks.refusedBeside(0, 1, Checks.NO_ELEMENT, Scenes::busy, (x, index) -> x.notice(index, 0));
            Checks.refusedBeside(0, 0, Checks.NO_ELEMENT, Scenes::full, (x, index) -> x.notice(index, 3));
            Checks.refused(Checks.NO_ELEMENT, "none at all", Scenes::fresh, x -> x.notice(0, 0));
            Checks.refused(Checks.NO_ELEMENT, "none of the latest act", () -> {
                MailSessions x = Scenes.busy();
                x.noop(0);
                return x;
            }, x -> x.notice(0, 0));
        });
    }

    private static void searchBox() {
        Sentences s = Sentences.of("Promise 28");
        s.holds("Searches a box by a query (section 4); this is no command.", () -> {
            MailSessions x = Scenes.busy();
            String before = Checks.everything(x).replaceAll("input .*?,", "");
            Checks.due("a box of an idle session", 13, () -> x.searchBox(0));
            Checks.due("nothing but the input and the parse error changes", before,
                    () -> Checks.everything(x).replaceAll("input .*?,", ""));
            MailSessions y = Checks.loaded("box a;message a size 1;");
            Checks.due("a box that no session has", 1, () -> Checks.searched(y, 0, "all"));
            Checks.due("can't be undone", 1, y::undoCount);
        });
        s.holds("`box`: number of a box", () -> Checks.dueFrom(0, new Object[] {13, 3}, Scenes::busy, MailSessions::searchBox));
        s.holds("Returns the set of the indexes of the messages for which it holds; PARSE_ERROR if there is a parse error.", () -> {
            Checks.due("an empty box", 0, () -> Checks.searched(Scenes.full(), 1, "all"));
            Checks.due("all thirty", (1 << 30) - 1, () -> Checks.searched(Scenes.full(), 0, "all"));
            Checks.due("the thirtieth", 1 << 29, () -> Checks.searched(Scenes.full(), 0, "uid > 29"));
            Checks.due("the first", 1, () -> Checks.searched(Scenes.full(), 0, "size < 2"));
            Checks.due("none", 0, () -> Checks.searched(Scenes.full(), 0, "not all"));
            Checks.due("none that is not there", 0, () -> Checks.searched(Scenes.full(), 2, "not draft"));
            Checks.due("a parse error", -4, () -> Checks.searched(Scenes.full(), 0, "size < 10000"));
            Checks.due("an empty query", -4, () -> Checks.searched(Scenes.full(), 1, ""));
        });
        s.holds(NO_BOX, () -> {
            Checks.refusedBeside(0, 1, Checks.INDEX, Scenes::busy, MailSessions::searchBox);
            Checks.refused(Checks.INDEX, "of a new object", () -> ofLength(5), x -> x.searchBox(0));
        });
    }
}
