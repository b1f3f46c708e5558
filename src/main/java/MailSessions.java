import java.util.NoSuchElementException;

/** A server of mailboxes with sessions, as ../shared/DOC.md promises it. */
public final class MailSessions {
    public static final int NONE = -1;
    public static final int PARSE_ERROR = -4;

    private static final int MOST_BOXES = 3;
    private static final int MOST_SESSIONS = 4;
    private static final int MOST_MESSAGES = 30;
    private static final int MOST_ENTRIES = 60;
    private static final int MOST_SIZE = 9999;
    private static final int FIRST_UID = 1;
    private static final int MOST_UNDOS = 6;
    private static final int MOST_OPEN = 5;
    private static final int MOST_LETTERS = 6;
    private static final int SLOTS = 2;

    private static final int SEEN = 1;
    private static final int DELETED = 8;
    private static final int ALL_FLAGS = 31;

    private static final int MODE_SET = 0;
    private static final int MODE_ADD = 1;
    private static final int MODE_TAKE = 2;

    private static final int NOTICE_GONE = 0;
    private static final int NOTICE_FLAGS = 1;
    private static final int NOTICE_ENTRIES = 2;

    private static final int COUNT_COMMANDS = 0;
    /** Notices 0 to 2 are counted in the three places from here on. */
    private static final int COUNT_NOTICES = 1;
    private static final int COUNT_FETCHED = 4;
    private static final int COUNTS = 5;

    private static final int CANNOT_STAND = 1;
    private static final int OUT_OF_RANGE = 2;
    private static final int WRONG_NAME = 3;
    private static final int NO_ROOM = 4;
    private static final int TOO_DEEP = 5;

    private static final int INPUT_ROOM = 700;
    private static final int BYTES_APPENDED = 20;
    /** Far above the longest output: 244 notices of 11 bytes. */
    private static final int OUTPUT_ROOM = 4096;
    /** An act tells each session at most once: its entries, each gone or not, and the new ones. */
    private static final int NOTICE_ROOM = MOST_SESSIONS * (MOST_ENTRIES + 1);

    private final Bytes input;
    private final Bytes output;
    private final State state;
    private final State loaded;
    private final State[] slots;
    private final boolean[] slotKept;
    private final History history;
    private final Notices notices;
    private final Tokens tokens;
    private final TextParser textParser;
    private final QueryParser queryParser;
    private int codeOfError;
    private int positionOfError;

    public MailSessions() {
        input = new Bytes(INPUT_ROOM);
        output = new Bytes(OUTPUT_ROOM);
        state = new State();
        loaded = new State();
        slots = new State[SLOTS];
        for (int slot = 0; slot < slots.length; slot++) {
            slots[slot] = new State();
        }
        slotKept = new boolean[SLOTS];
        history = new History();
        notices = new Notices();
        tokens = new Tokens(input);
        textParser = new TextParser(tokens);
        queryParser = new QueryParser(tokens);
        codeOfError = 0;
        positionOfError = NONE;
    }

    // ---- the input, its texts and names

    public int append(int a, int b, int c, int d, int e) throws IllegalStateException {
        if (input.size() + BYTES_APPENDED > INPUT_ROOM) {
            throw new IllegalStateException("the input buffer has no room");
        }
        input.addFour(a);
        input.addFour(b);
        input.addFour(c);
        input.addFour(d);
        input.addFour(e);
        return input.size();
    }

    public void truncate(int length) throws IllegalArgumentException {
        if (length < 0 || length > input.size()) {
            throw new IllegalArgumentException("the length is out of range");
        }
        input.cutTo(length);
    }

    public int load() {
        textParser.parseInto(loaded);
        finishReading();
        if (codeOfError != 0) {
            return PARSE_ERROR;
        }
        beginAct();
        state.takeFrom(loaded);
        return state.countMessages();
    }

    public int errorCode() {
        return codeOfError;
    }

    public int errorPosition() {
        return positionOfError;
    }

    public int findBox() {
        long name = input.nameAt(0, input.size());
        input.cutTo(0);
        return state.boxNamed(name);
    }

    public int findSession() {
        long name = input.nameAt(0, input.size());
        input.cutTo(0);
        return state.sessionNamed(name);
    }

    // ---- questions

    public int property(int what) throws IllegalArgumentException {
        switch (what) {
            case 0: return state.boxCount;
            case 1: return state.sessionCount;
            case 2: return state.limit;
            case 3: return state.countMessages();
            case 4: return notices.size();
            default: throw new IllegalArgumentException("no such property");
        }
    }

    public int box(int box, int what) throws IndexOutOfBoundsException, IllegalArgumentException {
        Box asked = requireBox(box);
        switch (what) {
            case 0: return asked.size();
            case 1: return asked.nextUid;
            case 2: return asked.sumOfSizes();
            case 3: return asked.size() - Integer.bitCount(asked.withFlag(SEEN));
            case 4: return Integer.bitCount(asked.withFlag(DELETED));
            case 5: return state.sessionsOf(box);
            default: throw new IllegalArgumentException("no such property of a box");
        }
    }

    public int message(int box, int index, int what) throws IndexOutOfBoundsException, IllegalArgumentException {
        Box asked = requireBox(box);
        if (index < 0 || index >= asked.size()) {
            throw new IndexOutOfBoundsException("no such message");
        }
        switch (what) {
            case 0: return asked.uids.get(index);
            case 1: return asked.sizes.get(index);
            case 2: return asked.flags.get(index);
            default: throw new IllegalArgumentException("no such property of a message");
        }
    }

    public int indexOf(int box, int uid) throws IndexOutOfBoundsException {
        return requireBox(box).indexOfUid(uid);
    }

    public int session(int session, int what) throws IndexOutOfBoundsException, IllegalArgumentException {
        Session asked = requireSession(session);
        Box selected = state.boxOf(asked);
        switch (what) {
            case 0: return asked.boxNumber;
            case 1: return asked.readsOnly ? 1 : 0;
            case 2: return asked.idle ? 1 : 0;
            case 3: return asked.size();
            case 4: return asked.countGone(selected);
            case 5: return asked.countChanged(selected);
            case 6: return asked.countNew(selected);
            default: throw new IllegalArgumentException("no such property of a session");
        }
    }

    public int entry(int session, int number, int what) throws IndexOutOfBoundsException, IllegalArgumentException {
        Session asked = requireSession(session);
        requireEntry(asked, number);
        Box selected = state.boxOf(asked);
        int index = selected.indexOfUid(asked.uidOf(number));
        switch (what) {
            case 0: return asked.uidOf(number);
            case 1: return asked.toldOf(number);
            case 2: return index == NONE ? 1 : 0;
            case 3: return selected.sizes.get(index);
            case 4: return selected.flags.get(index);
            default: throw new IllegalArgumentException("no such property of an entry");
        }
    }

    public int numberOf(int session, int uid) throws IndexOutOfBoundsException {
        return requireSession(session).numberOfUid(uid);
    }

    public int numberThen(int session, int number) throws IndexOutOfBoundsException {
        Session asked = requireSession(session);
        requireEntry(asked, number);
        Box selected = state.boxOf(asked);
        if (asked.isGone(selected, number)) {
            return NONE;
        }
        return number - asked.countGoneBefore(selected, number);
    }

    public int pending(int session) throws IndexOutOfBoundsException {
        Session asked = requireSession(session);
        return asked.countPending(state.boxOf(asked));
    }

    public boolean isCurrent(int session) throws IndexOutOfBoundsException {
        Session asked = requireSession(session);
        return asked.hasBox() && asked.countPending(state.boxOf(asked)) == 0;
    }

    public int firstUnseen(int session) throws IndexOutOfBoundsException {
        return requireSession(session).firstNotToldSeen();
    }

    public int largest(int session) throws IndexOutOfBoundsException {
        Session asked = requireSession(session);
        return asked.largestIn(state.boxOf(asked));
    }

    public int common(int session, int other) throws IndexOutOfBoundsException {
        Session one = requireSession(session);
        Session two = requireSession(other);
        boolean sameBox = one.hasBox() && one.boxNumber == two.boxNumber;
        return sameBox ? one.countShared(two) : 0;
    }

    public int holders(int box, int uid) throws IndexOutOfBoundsException {
        requireBox(box);
        return state.sessionsWithEntry(box, uid);
    }

    public int stale() {
        return state.sessionsToTell();
    }

    public float unseen(int box) throws IndexOutOfBoundsException {
        Box asked = requireBox(box);
        int messages = asked.size();
        if (messages <= 0) {
            return 0.0f;
        }
        int without = messages - Integer.bitCount(asked.withFlag(SEEN));
        return (float) without / (float) messages;
    }

    public double mean(int box) throws IndexOutOfBoundsException {
        Box asked = requireBox(box);
        int messages = asked.size();
        if (messages <= 0) {
            return 0.0;
        }
        return (double) asked.sumOfSizes() / (double) messages;
    }

    public int account(int session, int what) throws IndexOutOfBoundsException, IllegalArgumentException {
        Session asked = requireSession(session);
        if (what < 0 || what >= COUNTS) {
            throw new IllegalArgumentException("no such count of a session");
        }
        return asked.counts.get(what);
    }

    public int notice(int index, int what) throws IllegalArgumentException, NoSuchElementException {
        if (what < 0 || what > 3) {
            throw new IllegalArgumentException("no such property of a notice");
        }
        if (index < 0 || index >= notices.size()) {
            throw new NoSuchElementException("no such notice");
        }
        switch (what) {
            case 0: return notices.sessions.get(index);
            case 1: return notices.kinds.get(index);
            case 2: return notices.numbers.get(index);
            default: return notices.flags.get(index);
        }
    }

    public int searchBox(int box) throws IndexOutOfBoundsException {
        Box searched = requireBox(box);
        int holds = queryParser.parseFor(searched);
        finishReading();
        return codeOfError != 0 ? PARSE_ERROR : holds;
    }

    // ---- commands

    public int select(int session, int box, boolean reads) throws IndexOutOfBoundsException, IllegalStateException {
        Session active = requireSession(session);
        Box selected = requireBox(box);
        if (active.idle) {
            throw new IllegalStateException("an idle session selects no box");
        }
        beginCommand(active);
        active.enter(box, selected, reads);
        state.tellIdle(notices);
        return active.size();
    }

    public int noop(int session) throws IndexOutOfBoundsException, IllegalStateException {
        Session active = requireSession(session);
        requireAwake(active);
        beginCommand(active);
        return endCommand(session, true);
    }

    public int startIdle(int session) throws IndexOutOfBoundsException, IllegalStateException {
        Session active = requireSession(session);
        requireAwake(active);
        beginCommand(active);
        active.idle = true;
        return endCommand(session, true);
    }

    public int stopIdle(int session) throws IndexOutOfBoundsException, IllegalStateException {
        Session active = requireSession(session);
        if (!active.idle) {
            throw new IllegalStateException("the session is not idle");
        }
        beginCommand(active);
        active.idle = false;
        return endCommand(session, true);
    }

    public int fetch(int session, int from, int to, boolean peek)
            throws IndexOutOfBoundsException, IllegalArgumentException, IllegalStateException {
        Session active = requireSession(session);
        requireEntry(active, from);
        requireEntry(active, to);
        requireOrder(from, to);
        Box selected = requireAwake(active);
        beginCommand(active);
        int sum = 0;
        for (int number = from; number <= to && number <= MOST_ENTRIES; number++) {
            int index = selected.indexOfUid(active.uidOf(number));
            sum += selected.sizes.get(index);
            if (!peek && !active.readsOnly) {
                selected.changeFlags(index, MODE_ADD, SEEN);
            }
        }
        active.counts.increase(COUNT_FETCHED, sum);
        endCommand(session, false);
        return sum;
    }

    public int store(int session, int from, int to, int mode, int flags, boolean silent)
            throws IndexOutOfBoundsException, IllegalArgumentException, IllegalStateException {
        Session active = requireSession(session);
        requireEntry(active, from);
        requireEntry(active, to);
        requireOrder(from, to);
        requireModeAndFlags(mode, flags);
        Box selected = requireWriting(active);
        beginCommand(active);
        int changed = 0;
        for (int number = from; number <= to && number <= MOST_ENTRIES; number++) {
            int index = selected.indexOfUid(active.uidOf(number));
            if (selected.changeFlags(index, mode, flags)) {
                changed++;
            }
            if (silent && index != NONE) {
                active.told.set(number - 1, selected.flags.get(index));
            }
        }
        endCommand(session, false);
        return changed;
    }

    public int uidStore(int session, int first, int last, int mode, int flags)
            throws IndexOutOfBoundsException, IllegalArgumentException, IllegalStateException {
        Session active = requireSession(session);
        requireModeAndFlags(mode, flags);
        Box selected = requireWriting(active);
        beginCommand(active);
        int changed = 0;
        for (int index = 0; index < selected.size(); index++) {
            int uid = selected.uids.get(index);
            if (uid >= first && uid <= last && selected.changeFlags(index, mode, flags)) {
                changed++;
            }
        }
        endCommand(session, true);
        return changed;
    }

    public long search(int session) throws IndexOutOfBoundsException, IllegalStateException {
        Session active = requireSession(session);
        Box selected = requireAwake(active);
        int holds = queryParser.parseFor(selected);
        finishReading();
        if (codeOfError != 0) {
            return PARSE_ERROR;
        }
        beginCommand(active);
        long found = active.numbersOf(selected, holds);
        endCommand(session, false);
        return found;
    }

    public int expunge(int session) throws IndexOutOfBoundsException, IllegalStateException {
        Session active = requireSession(session);
        Box selected = requireWriting(active);
        beginCommand(active);
        int removed = selected.removeDeleted(FIRST_UID, selected.nextUid);
        endCommand(session, true);
        return removed;
    }

    public int uidExpunge(int session, int first, int last) throws IndexOutOfBoundsException, IllegalStateException {
        Session active = requireSession(session);
        Box selected = requireWriting(active);
        beginCommand(active);
        int removed = selected.removeDeleted(first, last);
        endCommand(session, true);
        return removed;
    }

    public int copy(int session, int from, int to, int box)
            throws IndexOutOfBoundsException, IllegalArgumentException, IllegalStateException {
        Session active = requireSession(session);
        requireEntry(active, from);
        requireEntry(active, to);
        Box target = requireBox(box);
        requireOrder(from, to);
        Box selected = requireAwake(active);
        requireRoom(target, active.countThere(selected, from, to));
        beginCommand(active);
        int copied = active.copyRange(selected, from, to, target);
        endCommand(session, true);
        return copied;
    }

    public int move(int session, int from, int to, int box)
            throws IndexOutOfBoundsException, IllegalArgumentException, IllegalStateException {
        Session active = requireSession(session);
        requireEntry(active, from);
        requireEntry(active, to);
        Box target = requireBox(box);
        requireOrder(from, to);
        Box selected = requireWriting(active);
        requireRoom(target, active.countThere(selected, from, to));
        beginCommand(active);
        int moved = active.copyRange(selected, from, to, target);
        active.removeRange(selected, from, to);
        endCommand(session, true);
        return moved;
    }

    public int close(int session) throws IndexOutOfBoundsException, IllegalStateException {
        Session active = requireSession(session);
        Box selected = requireAwake(active);
        beginCommand(active);
        int removed = 0;
        if (!active.readsOnly) {
            removed = selected.removeDeleted(FIRST_UID, selected.nextUid);
        }
        active.leave();
        state.tellIdle(notices);
        return removed;
    }

    // ---- changes that are no commands

    public int deliver(int box, int size, int flags)
            throws IndexOutOfBoundsException, IllegalArgumentException, IllegalStateException {
        Box target = requireBox(box);
        if (size < 1 || size > MOST_SIZE || flags < 0 || flags > ALL_FLAGS) {
            throw new IllegalArgumentException("the size or the flags are out of range");
        }
        requireRoom(target, 1);
        beginAct();
        int uid = target.nextUid;
        target.addMessage(size, flags);
        state.tellIdle(notices);
        return uid;
    }

    public int setLimit(int limit) throws IllegalArgumentException {
        if (limit < 1 || limit > MOST_MESSAGES) {
            throw new IllegalArgumentException("the limit is out of range");
        }
        beginAct();
        int previous = state.limit;
        state.limit = limit;
        return previous;
    }

    public int keep(int slot) throws IndexOutOfBoundsException {
        State kept = requireSlot(slot);
        kept.takeFrom(state);
        markKept(slot);
        return state.countMessages();
    }

    public int restore(int slot) throws IndexOutOfBoundsException, IllegalStateException {
        State kept = requireSlot(slot);
        if (!isKept(slot)) {
            throw new IllegalStateException("nothing is kept in the slot");
        }
        beginAct();
        state.takeFrom(kept);
        return state.countMessages();
    }

    public int undo() throws IllegalStateException {
        if (history.size() <= 0) {
            throw new IllegalStateException("there is nothing to undo");
        }
        history.takeBack(state);
        notices.clear();
        return history.size();
    }

    public int undoCount() {
        return history.size();
    }

    // ---- the output

    public int writeBox(int box) throws IndexOutOfBoundsException {
        Box written = requireBox(box);
        output.cutTo(0);
        for (int index = 0; index < written.size(); index++) {
            output.addSeparator();
            output.addNumber(written.uids.get(index));
            output.addByte(':');
            output.addNumber(written.sizes.get(index));
            output.addFlags(written.flags.get(index));
        }
        return output.size();
    }

    public int writeView(int session) throws IndexOutOfBoundsException {
        Session written = requireSession(session);
        Box selected = state.boxOf(written);
        output.cutTo(0);
        for (int number = 1; number <= written.size(); number++) {
            output.addSeparator();
            output.addNumber(number);
            output.addByte(':');
            output.addNumber(written.uidOf(number));
            output.addFlags(written.toldOf(number));
            if (written.isGone(selected, number)) {
                output.addByte('!');
            }
        }
        return output.size();
    }

    public int writeNotices() {
        output.cutTo(0);
        for (int index = 0; index < notices.size(); index++) {
            int kind = notices.kinds.get(index);
            output.addSeparator();
            output.addNumber(notices.sessions.get(index));
            output.addByte(kind == NOTICE_GONE ? '-' : kind == NOTICE_FLAGS ? '=' : '+');
            output.addNumber(notices.numbers.get(index));
            if (kind == NOTICE_FLAGS) {
                output.addByte(':');
                output.addFlags(notices.flags.get(index));
            }
        }
        return output.size();
    }

    public int outputByte(int index) throws IndexOutOfBoundsException {
        if (index < 0 || index >= output.size()) {
            throw new IndexOutOfBoundsException("no such byte of the output");
        }
        return output.get(index);
    }

    // ---- what calls have in common

    private Box requireBox(int number) {
        Box found = state.boxAt(number);
        if (found == null) {
            throw new IndexOutOfBoundsException("no such box");
        }
        return found;
    }

    private Session requireSession(int number) {
        Session found = state.sessionAt(number);
        if (found == null) {
            throw new IndexOutOfBoundsException("no such session");
        }
        return found;
    }

    private static void requireEntry(Session session, int number) {
        if (number < 1 || number > session.size()) {
            throw new IndexOutOfBoundsException("no such entry");
        }
    }

    private static void requireOrder(int from, int to) {
        if (to < from) {
            throw new IllegalArgumentException("the range ends ahead of its start");
        }
    }

    private static void requireModeAndFlags(int mode, int flags) {
        if (mode < MODE_SET || mode > MODE_TAKE || flags < 0 || flags > ALL_FLAGS) {
            throw new IllegalArgumentException("the mode or the flags are out of range");
        }
    }

    private Box requireAwake(Session session) {
        if (!session.hasBox() || session.idle) {
            throw new IllegalStateException("the session has no box, or is idle");
        }
        return state.boxOf(session);
    }

    private Box requireWriting(Session session) {
        Box selected = requireAwake(session);
        if (session.readsOnly) {
            throw new IllegalStateException("the session only reads");
        }
        return selected;
    }

    private void requireRoom(Box target, int more) {
        // a lowered limit may stand below what a box has, and no message still fits there
        if (more > 0 && target.size() + more > state.limit) {
            throw new IllegalStateException("the box has no room");
        }
    }

    private State requireSlot(int slot) {
        State found = slot >= 0 && slot < slots.length ? slots[slot] : null;
        if (found == null) {
            throw new IndexOutOfBoundsException("no such slot");
        }
        return found;
    }

    private boolean isKept(int slot) {
        return slot >= 0 && slot < slotKept.length && slotKept[slot];
    }

    private void markKept(int slot) {
        if (slot >= 0 && slot < slotKept.length) {
            slotKept[slot] = true;
        }
    }

    private void finishReading() {
        codeOfError = tokens.code;
        positionOfError = tokens.position;
        input.cutTo(0);
    }

    /** Stands behind all checks of a call: from here on it can be undone, and its notices begin. */
    private void beginAct() {
        history.remember(state);
        notices.clear();
    }

    private void beginCommand(Session session) {
        beginAct();
        session.counts.increase(COUNT_COMMANDS, 1);
    }

    private int endCommand(int session, boolean removals) {
        int told = state.tell(session, removals, notices);
        state.tellIdle(notices);
        return told;
    }

    // ---- rows

    /** Numbers in a row of fixed room: what is not there reads as 0, and what has no room is left out. */
    private static final class Numbers {
        private final int[] cells;
        private int count;

        Numbers(int room) {
            cells = new int[room < 0 ? 0 : room];
            count = 0;
        }

        int size() {
            return count;
        }

        int get(int index) {
            return index >= 0 && index < count && index < cells.length ? cells[index] : 0;
        }

        void set(int index, int value) {
            if (index >= 0 && index < count && index < cells.length) {
                cells[index] = value;
            }
        }

        void increase(int index, int by) {
            set(index, get(index) + by);
        }

        void add(int value) {
            if (count >= 0 && count < cells.length) {
                cells[count] = value;
                count++;
            }
        }

        void removeAt(int index) {
            if (index < 0 || index >= count) {
                return;
            }
            for (int at = index; at < count - 1; at++) {
                set(at, get(at + 1));
            }
            count--;
        }

        int find(int value) {
            for (int at = 0; at < count && at < cells.length; at++) {
                if (cells[at] == value) {
                    return at;
                }
            }
            return NONE;
        }

        void clear() {
            count = 0;
        }

        void becomeZeros(int howMany) {
            clear();
            for (int k = 0; k < howMany; k++) {
                add(0);
            }
        }

        void takeFrom(Numbers other) {
            count = 0;
            for (int at = 0; at < other.count && at < other.cells.length && at < cells.length; at++) {
                cells[at] = other.cells[at];
                count++;
            }
        }
    }

    /** Bytes in a buffer of fixed room; each is read as 0 to 255, and what has no room is left out. */
    private static final class Bytes {
        private final byte[] cells;
        private int count;

        Bytes(int room) {
            cells = new byte[room < 0 ? 0 : room];
            count = 0;
        }

        int size() {
            return count;
        }

        int get(int index) {
            return index >= 0 && index < count && index < cells.length ? cells[index] & 255 : NONE;
        }

        void cutTo(int length) {
            if (length >= 0 && length < count) {
                count = length;
            }
        }

        void addByte(int value) {
            if (count >= 0 && count < cells.length) {
                cells[count] = (byte) value;
                count++;
            }
        }

        void addFour(int value) {
            addByte(value >> 24);
            addByte(value >> 16);
            addByte(value >> 8);
            addByte(value);
        }

        void addSeparator() {
            if (count > 0) {
                addByte(' ');
            }
        }

        void addNumber(int value) {
            int power = 1000000000;
            boolean begun = false;
            for (int digits = 10; digits > 0 && power > 0; digits--) {
                int digit = value / power % 10;
                begun = begun || digit != 0 || digits == 1;
                if (begun) {
                    addByte('0' + digit);
                }
                power /= 10;
            }
        }

        void addFlags(int flags) {
            addIfSet(flags, 1, 's');
            addIfSet(flags, 2, 'a');
            addIfSet(flags, 4, 'f');
            addIfSet(flags, 8, 'd');
            addIfSet(flags, 16, 'r');
        }

        private void addIfSet(int flags, int flag, char letter) {
            if ((flags & flag) != 0) {
                addByte(letter);
            }
        }

        /** The leading 1 keeps names of other lengths apart, also where bytes are 0; no name is 0. */
        long nameAt(int from, int to) {
            if (from >= to || to - from > MOST_LETTERS) {
                return 0;
            }
            long name = 1;
            for (int at = from; at < to; at++) {
                name = name << 8 | get(at) & 255;
            }
            return name;
        }
    }

    // ---- what can be undone

    /** A box: its messages in the order in which they came, so that uids ascend. */
    private static final class Box {
        private long name;
        private int nextUid;
        private final Numbers uids;
        private final Numbers sizes;
        private final Numbers flags;

        Box() {
            name = 0;
            nextUid = FIRST_UID;
            uids = new Numbers(MOST_MESSAGES);
            sizes = new Numbers(MOST_MESSAGES);
            flags = new Numbers(MOST_MESSAGES);
        }

        void begin(long newName) {
            name = newName;
            nextUid = FIRST_UID;
            uids.clear();
            sizes.clear();
            flags.clear();
        }

        void takeFrom(Box other) {
            name = other.name;
            nextUid = other.nextUid;
            uids.takeFrom(other.uids);
            sizes.takeFrom(other.sizes);
            flags.takeFrom(other.flags);
        }

        int size() {
            return uids.size();
        }

        int indexOfUid(int uid) {
            return uids.find(uid);
        }

        void addMessage(int size, int itsFlags) {
            uids.add(nextUid);
            sizes.add(size);
            flags.add(itsFlags);
            nextUid++;
        }

        void removeMessage(int index) {
            uids.removeAt(index);
            sizes.removeAt(index);
            flags.removeAt(index);
        }

        int removeDeleted(int first, int last) {
            int removed = 0;
            for (int index = size() - 1; index >= 0; index--) {
                int uid = uids.get(index);
                if ((flags.get(index) & DELETED) != 0 && uid >= first && uid <= last) {
                    removeMessage(index);
                    removed++;
                }
            }
            return removed;
        }

        boolean changeFlags(int index, int mode, int by) {
            if (index < 0 || index >= size()) {
                return false;
            }
            int before = flags.get(index);
            int after = mode == MODE_SET ? by : mode == MODE_ADD ? before | by : before & ~by;
            flags.set(index, after);
            return after != before;
        }

        int sumOfSizes() {
            int sum = 0;
            for (int index = 0; index < size(); index++) {
                sum += sizes.get(index);
            }
            return sum;
        }

        int everyMessage() {
            int all = 0;
            for (int index = 0; index < uids.size(); index++) {
                all |= 1 << index;
            }
            return all;
        }

        int withFlag(int flag) {
            int found = 0;
            for (int index = 0; index < uids.size(); index++) {
                if ((flags.get(index) & flag) != 0) {
                    found |= 1 << index;
                }
            }
            return found;
        }

        int compared(boolean bySize, boolean less, int bound) {
            int found = 0;
            for (int index = 0; index < uids.size(); index++) {
                int value = bySize ? sizes.get(index) : uids.get(index);
                if (less ? value < bound : value > bound) {
                    found |= 1 << index;
                }
            }
            return found;
        }
    }

    /** A session and its view. The box that its methods take is the one that it has selected. */
    private static final class Session {
        private long name;
        private int boxNumber;
        private boolean readsOnly;
        private boolean idle;
        /** The greatest uid that has had an entry since the box was selected: what is behind it is new. */
        private int highest;
        private final Numbers uids;
        private final Numbers told;
        private final Numbers counts;

        Session() {
            name = 0;
            boxNumber = NONE;
            uids = new Numbers(MOST_ENTRIES);
            told = new Numbers(MOST_ENTRIES);
            counts = new Numbers(COUNTS);
        }

        void begin(long newName, int itsBox, boolean reads) {
            name = newName;
            leave();
            boxNumber = itsBox;
            readsOnly = reads;
            idle = false;
            counts.becomeZeros(COUNTS);
        }

        void takeFrom(Session other) {
            name = other.name;
            boxNumber = other.boxNumber;
            readsOnly = other.readsOnly;
            idle = other.idle;
            highest = other.highest;
            uids.takeFrom(other.uids);
            told.takeFrom(other.told);
            counts.takeFrom(other.counts);
        }

        void leave() {
            boxNumber = NONE;
            readsOnly = false;
            highest = 0;
            uids.clear();
            told.clear();
        }

        void enter(int number, Box box, boolean reads) {
            leave();
            boxNumber = number;
            readsOnly = reads;
            addNewEntries(box);
        }

        boolean hasBox() {
            return boxNumber != NONE;
        }

        int size() {
            return uids.size();
        }

        int uidOf(int number) {
            return uids.get(number - 1);
        }

        int toldOf(int number) {
            return told.get(number - 1);
        }

        int numberOfUid(int uid) {
            int at = uids.find(uid);
            return at == NONE ? NONE : at + 1;
        }

        boolean isGone(Box box, int number) {
            return box.indexOfUid(uidOf(number)) == NONE;
        }

        boolean isChanged(Box box, int number) {
            int index = box.indexOfUid(uidOf(number));
            return index != NONE && box.flags.get(index) != toldOf(number);
        }

        int countGoneBefore(Box box, int end) {
            int gone = 0;
            for (int number = 1; number < end && number <= size(); number++) {
                if (isGone(box, number)) {
                    gone++;
                }
            }
            return gone;
        }

        int countGone(Box box) {
            return countGoneBefore(box, size() + 1);
        }

        int countThere(Box box, int from, int to) {
            int there = 0;
            for (int number = from; number <= to && number <= size(); number++) {
                if (!isGone(box, number)) {
                    there++;
                }
            }
            return there;
        }

        int countChanged(Box box) {
            int changed = 0;
            for (int number = 1; number <= size(); number++) {
                if (isChanged(box, number)) {
                    changed++;
                }
            }
            return changed;
        }

        int countNew(Box box) {
            int news = 0;
            for (int index = 0; index < box.size(); index++) {
                if (box.uids.get(index) > highest) {
                    news++;
                }
            }
            return news;
        }

        int countPending(Box box) {
            int gone = countGone(box);
            boolean room = size() - gone < MOST_ENTRIES;
            return gone + countChanged(box) + (room && countNew(box) > 0 ? 1 : 0);
        }

        int countShared(Session other) {
            int shared = 0;
            for (int number = 1; number <= size(); number++) {
                if (other.numberOfUid(uidOf(number)) != NONE) {
                    shared++;
                }
            }
            return shared;
        }

        int firstNotToldSeen() {
            for (int number = 1; number <= size(); number++) {
                if ((toldOf(number) & SEEN) == 0) {
                    return number;
                }
            }
            return NONE;
        }

        int largestIn(Box box) {
            int best = NONE;
            int bestSize = 0;
            for (int number = 1; number <= size(); number++) {
                int size = box.sizes.get(box.indexOfUid(uidOf(number)));
                if (size > bestSize) {
                    best = number;
                    bestSize = size;
                }
            }
            return best;
        }

        long numbersOf(Box box, int indexes) {
            long found = 0;
            for (int number = 1; number <= size(); number++) {
                int index = box.indexOfUid(uidOf(number));
                if (index != NONE && (indexes >> index & 1) != 0) {
                    found |= 1L << number;
                }
            }
            return found;
        }

        int copyRange(Box box, int from, int to, Box target) {
            int copied = 0;
            for (int number = from; number <= to && number <= size(); number++) {
                int index = box.indexOfUid(uidOf(number));
                if (index != NONE) {
                    target.addMessage(box.sizes.get(index), box.flags.get(index));
                    copied++;
                }
            }
            return copied;
        }

        void removeRange(Box box, int from, int to) {
            for (int number = from; number <= to && number <= size(); number++) {
                box.removeMessage(box.indexOfUid(uidOf(number)));
            }
        }

        int tellGone(int me, Box box, Notices notices) {
            int entries = size();
            int number = 1;
            int made = 0;
            for (int k = 0; k < entries; k++) {
                if (isGone(box, number)) {
                    uids.removeAt(number - 1);
                    told.removeAt(number - 1);
                    notices.add(me, NOTICE_GONE, number, 0);
                    made++;
                } else {
                    number++;
                }
            }
            counts.increase(COUNT_NOTICES + NOTICE_GONE, made);
            return made;
        }

        int tellChanged(int me, Box box, Notices notices) {
            int made = 0;
            for (int number = 1; number <= size(); number++) {
                if (isChanged(box, number)) {
                    int flags = box.flags.get(box.indexOfUid(uidOf(number)));
                    told.set(number - 1, flags);
                    notices.add(me, NOTICE_FLAGS, number, flags);
                    made++;
                }
            }
            counts.increase(COUNT_NOTICES + NOTICE_FLAGS, made);
            return made;
        }

        int tellNew(int me, Box box, Notices notices) {
            if (addNewEntries(box) == 0) {
                return 0;
            }
            notices.add(me, NOTICE_ENTRIES, size(), 0);
            counts.increase(COUNT_NOTICES + NOTICE_ENTRIES, 1);
            return 1;
        }

        private int addNewEntries(Box box) {
            int added = 0;
            for (int index = 0; index < box.size() && size() < MOST_ENTRIES; index++) {
                int uid = box.uids.get(index);
                if (uid > highest) {
                    uids.add(uid);
                    told.add(box.flags.get(index));
                    highest = uid;
                    added++;
                }
            }
            return added;
        }
    }

    /** Everything that undo() restores. */
    private static final class State {
        private int limit;
        private int boxCount;
        private int sessionCount;
        private final Box[] boxes;
        private final Session[] sessions;
        /** Always empty: what a session without a box has selected. */
        private final Box noBox;

        State() {
            limit = MOST_MESSAGES;
            boxCount = 0;
            sessionCount = 0;
            boxes = new Box[MOST_BOXES];
            for (int number = 0; number < boxes.length; number++) {
                boxes[number] = new Box();
            }
            sessions = new Session[MOST_SESSIONS];
            for (int number = 0; number < sessions.length; number++) {
                sessions[number] = new Session();
            }
            noBox = new Box();
        }

        void clear() {
            limit = MOST_MESSAGES;
            boxCount = 0;
            sessionCount = 0;
        }

        void takeFrom(State other) {
            clear();
            limit = other.limit;
            for (int number = 0; number < other.boxCount; number++) {
                Box from = other.boxAt(number);
                Box into = addBox();
                if (from != null && into != null) {
                    into.takeFrom(from);
                }
            }
            for (int number = 0; number < other.sessionCount; number++) {
                Session from = other.sessionAt(number);
                Session into = addSession();
                if (from != null && into != null) {
                    into.takeFrom(from);
                }
            }
        }

        /** The next box, which still holds what it held before; null if there is no room. */
        Box addBox() {
            if (boxCount >= MOST_BOXES) {
                return null;
            }
            boxCount++;
            return boxAt(boxCount - 1);
        }

        /** The next session, which still holds what it held before; null if there is no room. */
        Session addSession() {
            if (sessionCount >= MOST_SESSIONS) {
                return null;
            }
            sessionCount++;
            return sessionAt(sessionCount - 1);
        }

        Box boxAt(int number) {
            return number >= 0 && number < boxCount && number < boxes.length ? boxes[number] : null;
        }

        Session sessionAt(int number) {
            return number >= 0 && number < sessionCount && number < sessions.length ? sessions[number] : null;
        }

        Box boxOf(Session session) {
            Box selected = boxAt(session.boxNumber);
            return selected == null ? noBox : selected;
        }

        int boxNamed(long name) {
            for (int number = 0; number < boxCount; number++) {
                Box asked = boxAt(number);
                if (asked != null && asked.name == name) {
                    return number;
                }
            }
            return NONE;
        }

        int sessionNamed(long name) {
            for (int number = 0; number < sessionCount; number++) {
                Session asked = sessionAt(number);
                if (asked != null && asked.name == name) {
                    return number;
                }
            }
            return NONE;
        }

        int countMessages() {
            int sum = 0;
            for (int number = 0; number < boxCount; number++) {
                Box counted = boxAt(number);
                sum += counted == null ? 0 : counted.size();
            }
            return sum;
        }

        int sessionsOf(int box) {
            int found = 0;
            for (int number = 0; number < sessionCount; number++) {
                Session asked = sessionAt(number);
                if (asked != null && asked.boxNumber == box) {
                    found |= 1 << number;
                }
            }
            return found;
        }

        int sessionsWithEntry(int box, int uid) {
            int found = 0;
            for (int number = 0; number < sessionCount; number++) {
                Session asked = sessionAt(number);
                if (asked != null && asked.boxNumber == box && asked.numberOfUid(uid) != NONE) {
                    found |= 1 << number;
                }
            }
            return found;
        }

        int sessionsToTell() {
            int found = 0;
            for (int number = 0; number < sessionCount; number++) {
                Session asked = sessionAt(number);
                if (asked != null && asked.countPending(boxOf(asked)) > 0) {
                    found |= 1 << number;
                }
            }
            return found;
        }

        void enterBoxes() {
            for (int number = 0; number < sessionCount; number++) {
                Session entering = sessionAt(number);
                if (entering != null && entering.hasBox()) {
                    entering.enter(entering.boxNumber, boxOf(entering), entering.readsOnly);
                }
            }
        }

        int tell(int number, boolean removals, Notices notices) {
            Session told = sessionAt(number);
            if (told == null) {
                return 0;
            }
            Box box = boxOf(told);
            int made = removals ? told.tellGone(number, box, notices) : 0;
            made += told.tellChanged(number, box, notices);
            made += told.tellNew(number, box, notices);
            return made;
        }

        void tellIdle(Notices notices) {
            for (int number = 0; number < sessionCount; number++) {
                Session asked = sessionAt(number);
                if (asked != null && asked.idle) {
                    tell(number, true, notices);
                }
            }
        }
    }

    /** The states ahead of the latest calls that can be undone, in a ring. */
    private static final class History {
        private final State[] states;
        private int next;
        private int count;

        History() {
            states = new State[MOST_UNDOS];
            for (int at = 0; at < states.length; at++) {
                states[at] = new State();
            }
            next = 0;
            count = 0;
        }

        int size() {
            return count;
        }

        void remember(State now) {
            State place = placeAt(next);
            if (place == null) {
                return;
            }
            place.takeFrom(now);
            next = next + 1 < MOST_UNDOS ? next + 1 : 0;
            count = count < MOST_UNDOS ? count + 1 : MOST_UNDOS;
        }

        void takeBack(State now) {
            int latest = next > 0 ? next - 1 : MOST_UNDOS - 1;
            State place = placeAt(latest);
            if (place == null || count <= 0) {
                return;
            }
            now.takeFrom(place);
            next = latest;
            count--;
        }

        private State placeAt(int at) {
            return at >= 0 && at < states.length ? states[at] : null;
        }
    }

    /** The notices of the latest act. */
    private static final class Notices {
        private final Numbers sessions;
        private final Numbers kinds;
        private final Numbers numbers;
        private final Numbers flags;

        Notices() {
            sessions = new Numbers(NOTICE_ROOM);
            kinds = new Numbers(NOTICE_ROOM);
            numbers = new Numbers(NOTICE_ROOM);
            flags = new Numbers(NOTICE_ROOM);
        }

        int size() {
            return sessions.size();
        }

        void clear() {
            sessions.clear();
            kinds.clear();
            numbers.clear();
            flags.clear();
        }

        void add(int session, int kind, int number, int itsFlags) {
            sessions.add(session);
            kinds.add(kind);
            numbers.add(number);
            flags.add(itsFlags);
        }
    }

    // ---- reading

    private enum Keyword {
        LIMIT("limit", 0), BOX("box", 0), MESSAGE("message", 0), SIZE("size", 0), SESSION("session", 0),
        READS("reads", 0), SEEN_FLAG("seen", 1), ANSWERED_FLAG("answered", 2), FLAGGED_FLAG("flagged", 4),
        DELETED_FLAG("deleted", 8), DRAFT_FLAG("draft", 16), ALL("all", 0), UID("uid", 0), NOT("not", 0), OR("or", 0);

        private static final Keyword[] KEYWORDS = values();

        private final String word;
        /** The flag as a set of its own, 0 for the words that name no flag. */
        private final int flag;

        Keyword(String word, int flag) {
            this.word = word;
            this.flag = flag;
        }

        static Keyword spelled(Bytes text, int from, int to) {
            for (Keyword each : KEYWORDS) {
                int length = each.word.length();
                int alike = 0;
                while (alike < length && each.word.charAt(alike) == text.get(from + alike)) {
                    alike++;
                }
                if (alike == length && length == to - from) {
                    return each;
                }
            }
            return null;
        }
    }

    /** The tokens of a text; the first error stops them, and then no question is answered with yes. */
    private static final class Tokens {
        private static final int END = 0;
        private static final int WORD = 1;
        private static final int NUMBER = 2;
        private static final int SYMBOL = 3;
        private static final int STOPPED = 4;
        /** A token for each byte, and the end of the text. */
        private static final int TOKEN_ROOM = INPUT_ROOM + 1;

        private final Bytes text;
        private final int[] kinds;
        private final int[] starts;
        /** A symbol's byte, or a number. */
        private final int[] values;
        private final long[] names;
        private final Keyword[] keywords;
        private int count;
        private int at;

        private int kind;
        private int start;
        private int value;
        private long name;
        private Keyword keyword;
        private int code;
        private int position;

        Tokens(Bytes text) {
            this.text = text;
            kinds = new int[TOKEN_ROOM];
            starts = new int[TOKEN_ROOM];
            values = new int[TOKEN_ROOM];
            names = new long[TOKEN_ROOM];
            keywords = new Keyword[TOKEN_ROOM];
            kind = STOPPED;
            code = 0;
            position = NONE;
        }

        void begin() {
            count = 0;
            int from = 0;
            for (int reads = 0; reads < INPUT_ROOM && from < text.size(); reads++) {
                from = readOne(from);
            }
            addToken(END, text.size(), 0, 0, null);
            code = 0;
            position = NONE;
            at = NONE;
            next();
        }

        void next() {
            if (code != 0) {
                return;
            }
            at++;
            boolean there = at >= 0 && at < count;
            kind = there && at < kinds.length ? kinds[at] : END;
            start = there && at < starts.length ? starts[at] : start;
            value = there && at < values.length ? values[at] : 0;
            name = there && at < names.length ? names[at] : 0;
            keyword = there && at < keywords.length ? keywords[at] : null;
        }

        void fail(int itsCode) {
            if (code == 0) {
                code = itsCode;
                position = start;
                kind = STOPPED;
                keyword = null;
            }
        }

        boolean failed() {
            return code != 0;
        }

        boolean atEnd() {
            return kind == END;
        }

        boolean isSymbol(char symbol) {
            return kind == SYMBOL && value == symbol;
        }

        boolean isKeyword(Keyword asked) {
            return kind == WORD && keyword == asked;
        }

        /** The token as a set of one flag; 0 if it names none. */
        int flag() {
            Keyword here = keyword;
            return here == null ? 0 : here.flag;
        }

        boolean isName() {
            return kind == WORD && keyword == null && name != 0;
        }

        long name() {
            return name;
        }

        void passSymbol(char symbol) {
            if (!isSymbol(symbol)) {
                fail(CANNOT_STAND);
            }
            next();
        }

        void passKeyword(Keyword asked) {
            if (!isKeyword(asked)) {
                fail(CANNOT_STAND);
            }
            next();
        }

        int passNumber(int least, int most) {
            int passed = value;
            if (kind != NUMBER) {
                fail(CANNOT_STAND);
            } else if (passed < least || passed > most) {
                fail(OUT_OF_RANGE);
            }
            next();
            return passed;
        }

        /** Reads what starts at a byte, be it a token or a gap, and tells where it ends. */
        private int readOne(int from) {
            int first = text.get(from);
            int end = from + 1;
            if (isLetter(first)) {
                end = endOfWord(from);
                addToken(WORD, from, 0, text.nameAt(from, end), Keyword.spelled(text, from, end));
            } else if (isDigit(first)) {
                end = endOfNumber(from);
                addToken(NUMBER, from, numberAt(from, end), 0, null);
            } else if (first != ' ' && first != '\n') {
                addToken(SYMBOL, from, first, 0, null);
            }
            return end;
        }

        private void addToken(int itsKind, int itsStart, int itsValue, long itsName, Keyword itsKeyword) {
            int place = count;
            if (place >= 0 && place < kinds.length && place < starts.length && place < values.length
                    && place < names.length && place < keywords.length) {
                kinds[place] = itsKind;
                starts[place] = itsStart;
                values[place] = itsValue;
                names[place] = itsName;
                keywords[place] = itsKeyword;
                count++;
            }
        }

        private int endOfWord(int from) {
            int end = from;
            while (end < text.size() && isLetter(text.get(end))) {
                end++;
            }
            return end;
        }

        private int endOfNumber(int from) {
            int end = from;
            while (end < text.size() && isDigit(text.get(end))) {
                end++;
            }
            return end;
        }

        /** Digits behind a number that is out of every range can't bring it back, and might overflow. */
        private int numberAt(int from, int end) {
            int number = 0;
            for (int digit = from; digit < end && number <= MOST_SIZE; digit++) {
                number = number * 10 + text.get(digit) - '0';
            }
            return number;
        }

        private static boolean isLetter(int sign) {
            return sign >= 'a' && sign <= 'z';
        }

        private static boolean isDigit(int sign) {
            return sign >= '0' && sign <= '9';
        }
    }

    /** Reads a text of statements into a state. */
    private static final class TextParser {
        private final Tokens tokens;
        private boolean limitTold;
        private boolean messageTold;

        TextParser(Tokens tokens) {
            this.tokens = tokens;
        }

        void parseInto(State target) {
            target.clear();
            limitTold = false;
            messageTold = false;
            tokens.begin();
            parseStatement(target);
            for (int bytes = 0; bytes < INPUT_ROOM && !tokens.failed() && !tokens.atEnd(); bytes++) {
                parseStatement(target);
            }
            target.enterBoxes();
        }

        private void parseStatement(State target) {
            if (tokens.isKeyword(Keyword.LIMIT)) {
                parseLimit(target);
            } else if (tokens.isKeyword(Keyword.BOX)) {
                parseBox(target);
            } else if (tokens.isKeyword(Keyword.MESSAGE)) {
                parseMessage(target);
            } else if (tokens.isKeyword(Keyword.SESSION)) {
                parseSession(target);
            } else {
                tokens.fail(CANNOT_STAND);
            }
            tokens.passSymbol(';');
        }

        private void parseLimit(State target) {
            if (messageTold) {
                tokens.fail(CANNOT_STAND);
            } else if (limitTold) {
                tokens.fail(WRONG_NAME);
            }
            tokens.next();
            target.limit = tokens.passNumber(1, MOST_MESSAGES);
            limitTold = true;
        }

        private void parseBox(State target) {
            if (target.boxCount >= MOST_BOXES) {
                tokens.fail(NO_ROOM);
            }
            tokens.next();
            long name = passNewName(target.boxNamed(tokens.name()));
            Box added = tokens.failed() ? null : target.addBox();
            if (added != null) {
                added.begin(name);
            }
        }

        private void parseMessage(State target) {
            tokens.next();
            Box box = target.boxAt(knownBox(target));
            if (box == null) {
                return;
            }
            if (box.size() >= target.limit) {
                tokens.fail(NO_ROOM);
            }
            tokens.next();
            tokens.passKeyword(Keyword.SIZE);
            int size = tokens.passNumber(1, MOST_SIZE);
            int flags = passFlags();
            if (!tokens.failed()) {
                box.addMessage(size, flags);
                messageTold = true;
            }
        }

        private int passFlags() {
            int flags = 0;
            for (int bytes = 0; bytes < INPUT_ROOM && tokens.flag() != 0; bytes++) {
                if ((flags & tokens.flag()) != 0) {
                    tokens.fail(WRONG_NAME);
                }
                flags |= tokens.flag();
                tokens.next();
            }
            return flags;
        }

        private void parseSession(State target) {
            if (target.sessionCount >= MOST_SESSIONS) {
                tokens.fail(NO_ROOM);
            }
            tokens.next();
            long name = passNewName(target.sessionNamed(tokens.name()));
            boolean reads = tokens.isKeyword(Keyword.READS);
            if (reads) {
                tokens.next();
            }
            int box = NONE;
            if (reads || !tokens.isSymbol(';')) {
                box = knownBox(target);
                tokens.next();
            }
            Session added = tokens.failed() ? null : target.addSession();
            if (added != null) {
                added.begin(name, box, reads);
            }
        }

        private long passNewName(int holder) {
            long name = tokens.name();
            if (!tokens.isName()) {
                tokens.fail(CANNOT_STAND);
            } else if (holder != NONE) {
                tokens.fail(WRONG_NAME);
            }
            tokens.next();
            return name;
        }

        /** The box that the token names; it stays the token, as it may have another error. */
        private int knownBox(State target) {
            int box = NONE;
            if (tokens.isName()) {
                box = target.boxNamed(tokens.name());
                if (box == NONE) {
                    tokens.fail(WRONG_NAME);
                }
            } else {
                tokens.fail(CANNOT_STAND);
            }
            return box;
        }
    }

    /** Reads a query, and finds in the same pass for which messages of a box it holds: a set of their indexes. */
    private static final class QueryParser {
        private final Tokens tokens;

        QueryParser(Tokens tokens) {
            this.tokens = tokens;
        }

        int parseFor(Box box) {
            tokens.begin();
            int holds = parseQuery(box, 0);
            if (!tokens.atEnd()) {
                tokens.fail(CANNOT_STAND);
            }
            return holds;
        }

        private int parseQuery(Box box, int open) {
            int holds = parseTerm(box, open);
            for (int bytes = 0; bytes < INPUT_ROOM && tokens.isKeyword(Keyword.OR); bytes++) {
                tokens.next();
                holds |= parseTerm(box, open);
            }
            return holds;
        }

        private int parseTerm(Box box, int open) {
            int holds = parseFactor(box, open);
            for (int bytes = 0; bytes < INPUT_ROOM && beginsFactor(); bytes++) {
                holds &= parseFactor(box, open);
            }
            return holds;
        }

        private boolean beginsFactor() {
            return tokens.isKeyword(Keyword.NOT) || tokens.isSymbol('(') || tokens.isKeyword(Keyword.ALL)
                    || tokens.flag() != 0 || tokens.isKeyword(Keyword.SIZE) || tokens.isKeyword(Keyword.UID);
        }

        private int parseFactor(Box box, int open) {
            int flag = tokens.flag();
            if (flag != 0) {
                tokens.next();
                return box.withFlag(flag);
            }
            if (tokens.isKeyword(Keyword.ALL)) {
                tokens.next();
                return box.everyMessage();
            }
            if (tokens.isKeyword(Keyword.SIZE)) {
                return parseComparison(box, true);
            }
            if (tokens.isKeyword(Keyword.UID)) {
                return parseComparison(box, false);
            }
            boolean not = tokens.isKeyword(Keyword.NOT);
            if (!not && !tokens.isSymbol('(')) {
                tokens.fail(CANNOT_STAND);
                return 0;
            }
            if (open >= MOST_OPEN) {
                tokens.fail(TOO_DEEP);
                return 0;
            }
            tokens.next();
            return not ? parseNegated(box, open + 1) : parseEnclosed(box, open + 1);
        }

        private int parseNegated(Box box, int open) {
            return box.everyMessage() & ~parseFactor(box, open);
        }

        private int parseEnclosed(Box box, int open) {
            int holds = parseQuery(box, open);
            tokens.passSymbol(')');
            return holds;
        }

        private int parseComparison(Box box, boolean bySize) {
            tokens.next();
            boolean less = tokens.isSymbol('<');
            if (!less && !tokens.isSymbol('>')) {
                tokens.fail(CANNOT_STAND);
            }
            tokens.next();
            int bound = tokens.passNumber(0, MOST_SIZE);
            return box.compared(bySize, less, bound);
        }
    }
}
