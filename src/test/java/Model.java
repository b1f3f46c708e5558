import java.util.ArrayList;
import java.util.Arrays;
import java.util.LinkedHashMap;
import java.util.List;
import java.util.Map;
import java.util.NoSuchElementException;
import java.util.function.Predicate;

/**
 * The document once more, in the plainest form that the Java library allows: lists, copies of everything,
 * and queries as predicates of one message. ModelTest compares the class with it, call by call.
 */
public final class Model {
    private static final List<String> KEYWORDS = Arrays.asList("limit", "box", "message", "size", "session", "reads",
            "seen", "answered", "flagged", "deleted", "draft", "all", "uid", "not", "or");
    private static final List<String> FLAGS = KEYWORDS.subList(6, 11);

    private static final class Message {
        int uid;
        int size;
        int flags;
    }

    private static final class Entry {
        int uid;
        int told;
    }

    private static final class MailBox {
        String name;
        int next = 1;
        List<Message> messages = new ArrayList<>();

        Message withUid(int uid) {
            return messages.stream().filter(m -> m.uid == uid).findFirst().orElse(null);
        }
    }

    private static final class Client {
        String name;
        int box = -1;
        boolean reads;
        boolean idle;
        List<Entry> view = new ArrayList<>();
        List<Integer> everHad = new ArrayList<>();
        int[] account = new int[5];
    }

    private static final class World {
        int limit = 30;
        List<MailBox> boxes = new ArrayList<>();
        List<Client> clients = new ArrayList<>();

        World copied() {
            World w = new World();
            w.limit = limit;
            for (MailBox b : boxes) {
                MailBox c = new MailBox();
                c.name = b.name;
                c.next = b.next;
                b.messages.forEach(m -> put(c, m.uid, m.size, m.flags));
                w.boxes.add(c);
            }
            for (Client s : clients) {
                Client c = new Client();
                c.name = s.name;
                c.box = s.box;
                c.reads = s.reads;
                c.idle = s.idle;
                s.view.forEach(e -> c.view.add(entryOf(e.uid, e.told)));
                c.everHad.addAll(s.everHad);
                c.account = s.account.clone();
                w.clients.add(c);
            }
            return w;
        }
    }

    private static final class ParseError extends Exception {
        final int code;
        final int position;

        ParseError(int code, int position) {
            this.code = code;
            this.position = position;
        }
    }

    private String input = "";
    private String output = "";
    private World world = new World();
    private final World[] slots = new World[2];
    private final List<World> past = new ArrayList<>();
    private final List<int[]> notices = new ArrayList<>();
    private int code = 0;
    private int position = -1;

    // ---- texts

    private List<String> tokens;
    private List<Integer> offsets;
    private int at;

    private void tokenize() {
        tokens = new ArrayList<>();
        offsets = new ArrayList<>();
        java.util.regex.Matcher m = java.util.regex.Pattern.compile("[a-z]+|[0-9]+|[^ \n]", java.util.regex.Pattern.DOTALL)
                .matcher(input);
        while (m.find()) {
            tokens.add(m.group());
            offsets.add(m.start());
        }
        tokens.add("");
        offsets.add(input.length());
        at = 0;
        input = "";
    }

    private String token() {
        return tokens.get(at);
    }

    private ParseError error(int itsCode) {
        return new ParseError(itsCode, offsets.get(at));
    }

    private void pass(String want) throws ParseError {
        if (!token().equals(want)) {
            throw error(1);
        }
        at++;
    }

    private int number(int least, int most) throws ParseError {
        if (!token().matches("[0-9]+")) {
            throw error(1);
        }
        java.math.BigInteger n = new java.math.BigInteger(token());
        if (n.compareTo(java.math.BigInteger.valueOf(least)) < 0 || n.compareTo(java.math.BigInteger.valueOf(most)) > 0) {
            throw error(2);
        }
        at++;
        return n.intValue();
    }

    private String name() throws ParseError {
        if (!token().matches("[a-z]{1,6}") || KEYWORDS.contains(token())) {
            throw error(1);
        }
        return token();
    }

    private int boxByName(World w) throws ParseError {
        String name = name();
        for (int k = 0; k < w.boxes.size(); k++) {
            if (w.boxes.get(k).name.equals(name)) {
                return k;
            }
        }
        throw error(3);
    }

    private World text() throws ParseError {
        World w = new World();
        boolean limits = false;
        boolean messages = false;
        do {
            String word = token();
            if (word.equals("limit")) {
                if (messages) {
                    throw error(1);
                }
                if (limits) {
                    throw error(3);
                }
                at++;
                w.limit = number(1, 30);
                limits = true;
            } else if (word.equals("box")) {
                if (w.boxes.size() == 3) {
                    throw error(4);
                }
                at++;
                MailBox b = new MailBox();
                b.name = name();
                if (w.boxes.stream().anyMatch(o -> o.name.equals(b.name))) {
                    throw error(3);
                }
                at++;
                w.boxes.add(b);
            } else if (word.equals("message")) {
                at++;
                MailBox b = w.boxes.get(boxByName(w));
                if (b.messages.size() >= w.limit) {
                    throw error(4);
                }
                at++;
                pass("size");
                int size = number(1, 9999);
                int flags = 0;
                while (FLAGS.contains(token())) {
                    int bit = 1 << FLAGS.indexOf(token());
                    if ((flags & bit) != 0) {
                        throw error(3);
                    }
                    flags += bit;
                    at++;
                }
                put(b, b.next++, size, flags);
                messages = true;
            } else if (word.equals("session")) {
                if (w.clients.size() == 4) {
                    throw error(4);
                }
                at++;
                Client c = new Client();
                c.name = name();
                if (w.clients.stream().anyMatch(o -> o.name.equals(c.name))) {
                    throw error(3);
                }
                at++;
                if (token().equals("reads")) {
                    c.reads = true;
                    at++;
                    c.box = boxByName(w);
                    at++;
                } else if (!token().equals(";")) {
                    c.box = boxByName(w);
                    at++;
                }
                w.clients.add(c);
            } else {
                throw error(1);
            }
            pass(";");
        } while (!token().isEmpty());
        for (Client c : w.clients) {
            if (c.box >= 0) {
                enter(w, c, c.box, c.reads);
            }
        }
        return w;
    }

    private Predicate<Message> query(int open) throws ParseError {
        Predicate<Message> all = term(open);
        while (token().equals("or")) {
            at++;
            all = all.or(term(open));
        }
        return all;
    }

    private Predicate<Message> term(int open) throws ParseError {
        Predicate<Message> all = factor(open);
        while (FLAGS.contains(token()) || Arrays.asList("not", "(", "all", "size", "uid").contains(token())) {
            all = all.and(factor(open));
        }
        return all;
    }

    private Predicate<Message> factor(int open) throws ParseError {
        String word = token();
        if (FLAGS.contains(word)) {
            at++;
            int bit = 1 << FLAGS.indexOf(word);
            return m -> (m.flags & bit) != 0;
        }
        if (word.equals("all")) {
            at++;
            return m -> true;
        }
        if (word.equals("size") || word.equals("uid")) {
            at++;
            boolean less = token().equals("<");
            if (!less) {
                pass(">");
                at--;
            }
            at++;
            int n = number(0, 9999);
            return m -> {
                int value = word.equals("size") ? m.size : m.uid;
                return less ? value < n : value > n;
            };
        }
        if (!word.equals("not") && !word.equals("(")) {
            throw error(1);
        }
        if (open == 5) {
            throw error(5);
        }
        at++;
        if (word.equals("not")) {
            return factor(open + 1).negate();
        }
        Predicate<Message> inner = query(open + 1);
        pass(")");
        return inner;
    }

    private Predicate<Message> wholeQuery() {
        tokenize();
        code = 0;
        position = -1;
        try {
            Predicate<Message> all = query(0);
            if (!token().isEmpty()) {
                throw error(1);
            }
            return all;
        } catch (ParseError e) {
            code = e.code;
            position = e.position;
            return null;
        }
    }

    // ---- views and notices

    private static void put(MailBox b, int uid, int size, int flags) {
        Message m = new Message();
        m.uid = uid;
        m.size = size;
        m.flags = flags;
        b.messages.add(m);
    }

    private static Entry entryOf(int uid, int told) {
        Entry e = new Entry();
        e.uid = uid;
        e.told = told;
        return e;
    }

    private static void enter(World w, Client c, int box, boolean reads) {
        c.box = box;
        c.reads = reads;
        c.view.clear();
        c.everHad.clear();
        for (Message m : w.boxes.get(box).messages) {
            c.view.add(entryOf(m.uid, m.flags));
            c.everHad.add(m.uid);
        }
    }

    /** The message of an entry; null if it is gone. */
    private static Message messageOf(World w, Client c, Entry e) {
        return w.boxes.get(c.box).withUid(e.uid);
    }

    private static List<Message> news(World w, Client c) {
        List<Message> found = new ArrayList<>();
        if (c.box >= 0) {
            for (Message m : w.boxes.get(c.box).messages) {
                if (c.everHad.stream().allMatch(uid -> uid < m.uid)) {
                    found.add(m);
                }
            }
        }
        return found;
    }

    private static List<int[]> tell(World w, int number, boolean removals) {
        List<int[]> made = new ArrayList<>();
        Client c = w.clients.get(number);
        if (c.box < 0) {
            return made;
        }
        int k = 0;
        while (removals && k < c.view.size()) {
            if (messageOf(w, c, c.view.get(k)) == null) {
                c.view.remove(k);
                made.add(new int[] {number, 0, k + 1, 0});
            } else {
                k++;
            }
        }
        for (k = 0; k < c.view.size(); k++) {
            Entry e = c.view.get(k);
            Message m = messageOf(w, c, e);
            if (m != null && m.flags != e.told) {
                e.told = m.flags;
                made.add(new int[] {number, 1, k + 1, m.flags});
            }
        }
        boolean some = false;
        for (Message m : news(w, c)) {
            if (c.view.size() < 60) {
                c.view.add(entryOf(m.uid, m.flags));
                c.everHad.add(m.uid);
                some = true;
            }
        }
        if (some) {
            made.add(new int[] {number, 2, c.view.size(), 0});
        }
        for (int[] notice : made) {
            c.account[1 + notice[1]]++;
        }
        return made;
    }

    private void begin() {
        past.add(world.copied());
        if (past.size() > 6) {
            past.remove(0);
        }
        notices.clear();
    }

    private int end(int number, boolean told, boolean removals) {
        List<int[]> own = told ? tell(world, number, removals) : new ArrayList<>();
        notices.addAll(own);
        for (int k = 0; k < world.clients.size(); k++) {
            if (world.clients.get(k).idle) {
                notices.addAll(tell(world, k, true));
            }
        }
        return own.size();
    }

    // ---- what throws

    private static void index(boolean good) {
        if (!good) {
            throw new IndexOutOfBoundsException();
        }
    }

    private static void argument(boolean good) {
        if (!good) {
            throw new IllegalArgumentException();
        }
    }

    private static void state(boolean good) {
        if (!good) {
            throw new IllegalStateException();
        }
    }

    private MailBox boxAt(int box) {
        index(box >= 0 && box < world.boxes.size());
        return world.boxes.get(box);
    }

    private Client clientAt(int session) {
        index(session >= 0 && session < world.clients.size());
        return world.clients.get(session);
    }

    private MailBox active(Client c, boolean writes) {
        state(c.box >= 0 && !c.idle && !(writes && c.reads));
        return world.boxes.get(c.box);
    }

    private void range(Client c, int from, int to) {
        index(from >= 1 && from <= c.view.size() && to >= 1 && to <= c.view.size());
    }

    private List<Message> there(Client c, int from, int to) {
        List<Message> found = new ArrayList<>();
        for (int k = from; k <= to; k++) {
            Message m = messageOf(world, c, c.view.get(k - 1));
            if (m != null) {
                found.add(m);
            }
        }
        return found;
    }

    // ---- the face

    public int append(int a, int b, int c, int d, int e) {
        state(input.length() + 20 <= 700);
        StringBuilder more = new StringBuilder(input);
        for (int word : new int[] {a, b, c, d, e}) {
            for (int shift = 24; shift >= 0; shift -= 8) {
                more.append((char) (word >> shift & 255));
            }
        }
        input = more.toString();
        return input.length();
    }

    public void truncate(int length) {
        argument(length >= 0 && length <= input.length());
        input = input.substring(0, length);
    }

    public int load() {
        tokenize();
        code = 0;
        position = -1;
        try {
            World w = text();
            begin();
            world = w;
            return property(3);
        } catch (ParseError e) {
            code = e.code;
            position = e.position;
            return -4;
        }
    }

    public int errorCode() {
        return code;
    }

    public int errorPosition() {
        return position;
    }

    public int findBox() {
        String name = input;
        input = "";
        Map<String, Integer> names = new LinkedHashMap<>();
        world.boxes.forEach(b -> names.put(b.name, names.size()));
        return names.getOrDefault(name, -1);
    }

    public int findSession() {
        String name = input;
        input = "";
        Map<String, Integer> names = new LinkedHashMap<>();
        world.clients.forEach(c -> names.put(c.name, names.size()));
        return names.getOrDefault(name, -1);
    }

    public int property(int what) {
        argument(what >= 0 && what <= 4);
        int messages = world.boxes.stream().mapToInt(b -> b.messages.size()).sum();
        return new int[] {world.boxes.size(), world.clients.size(), world.limit, messages, notices.size()}[what];
    }

    public int box(int box, int what) {
        MailBox b = boxAt(box);
        argument(what >= 0 && what <= 5);
        int set = 0;
        for (int k = 0; k < world.clients.size(); k++) {
            set |= world.clients.get(k).box == box ? 1 << k : 0;
        }
        return new int[] {b.messages.size(), b.next, b.messages.stream().mapToInt(m -> m.size).sum(),
            (int) b.messages.stream().filter(m -> (m.flags & 1) == 0).count(),
            (int) b.messages.stream().filter(m -> (m.flags & 8) != 0).count(), set}[what];
    }

    public int message(int box, int index, int what) {
        MailBox b = boxAt(box);
        index(index >= 0 && index < b.messages.size());
        argument(what >= 0 && what <= 2);
        Message m = b.messages.get(index);
        return new int[] {m.uid, m.size, m.flags}[what];
    }

    public int indexOf(int box, int uid) {
        MailBox b = boxAt(box);
        return b.messages.indexOf(b.withUid(uid));
    }

    public int session(int session, int what) {
        Client c = clientAt(session);
        argument(what >= 0 && what <= 6);
        int there = there(c, 1, c.view.size()).size();
        int changed = 0;
        for (Entry e : c.view) {
            Message m = messageOf(world, c, e);
            changed += m != null && m.flags != e.told ? 1 : 0;
        }
        return new int[] {c.box, c.reads ? 1 : 0, c.idle ? 1 : 0, c.view.size(), c.view.size() - there, changed,
            news(world, c).size()}[what];
    }

    public int entry(int session, int number, int what) {
        Client c = clientAt(session);
        range(c, number, number);
        argument(what >= 0 && what <= 4);
        Entry e = c.view.get(number - 1);
        Message m = messageOf(world, c, e);
        return new int[] {e.uid, e.told, m == null ? 1 : 0, m == null ? 0 : m.size, m == null ? 0 : m.flags}[what];
    }

    public int numberOf(int session, int uid) {
        Client c = clientAt(session);
        for (int k = 0; k < c.view.size(); k++) {
            if (c.view.get(k).uid == uid) {
                return k + 1;
            }
        }
        return -1;
    }

    public int numberThen(int session, int number) {
        Client c = clientAt(session);
        range(c, number, number);
        int uid = c.view.get(number - 1).uid;
        World then = world.copied();
        tell(then, session, true);
        List<Entry> view = then.clients.get(session).view;
        for (int k = 0; k < view.size(); k++) {
            if (view.get(k).uid == uid) {
                return k + 1;
            }
        }
        return -1;
    }

    public int pending(int session) {
        clientAt(session);
        return tell(world.copied(), session, true).size();
    }

    public boolean isCurrent(int session) {
        return clientAt(session).box >= 0 && pending(session) == 0;
    }

    public int firstUnseen(int session) {
        Client c = clientAt(session);
        for (Entry e : c.view) {
            if ((e.told & 1) == 0) {
                return c.view.indexOf(e) + 1;
            }
        }
        return -1;
    }

    public int largest(int session) {
        Client c = clientAt(session);
        int best = -1;
        for (int k = c.view.size(); k >= 1; k--) {
            List<Message> here = there(c, k, k);
            if (!here.isEmpty() && (best < 0 || here.get(0).size >= there(c, best, best).get(0).size)) {
                best = k;
            }
        }
        return best;
    }

    public int common(int session, int other) {
        Client c = clientAt(session);
        Client d = clientAt(other);
        if (c.box < 0 || c.box != d.box) {
            return 0;
        }
        return (int) c.view.stream().filter(e -> d.view.stream().anyMatch(f -> f.uid == e.uid)).count();
    }

    public int holders(int box, int uid) {
        boxAt(box);
        int set = 0;
        for (int k = 0; k < world.clients.size(); k++) {
            set |= world.clients.get(k).box == box && numberOf(k, uid) > 0 ? 1 << k : 0;
        }
        return set;
    }

    public int stale() {
        int set = 0;
        for (int k = 0; k < world.clients.size(); k++) {
            set |= world.clients.get(k).box >= 0 && !isCurrent(k) ? 1 << k : 0;
        }
        return set;
    }

    public float unseen(int box) {
        return boxAt(box).messages.isEmpty() ? 0.0f : (float) box(box, 3) / (float) box(box, 0);
    }

    public double mean(int box) {
        return boxAt(box).messages.isEmpty() ? 0.0 : (double) box(box, 2) / (double) box(box, 0);
    }

    public int account(int session, int what) {
        Client c = clientAt(session);
        argument(what >= 0 && what <= 4);
        return c.account[what];
    }

    public int notice(int index, int what) {
        argument(what >= 0 && what <= 3);
        if (index < 0 || index >= notices.size()) {
            throw new NoSuchElementException();
        }
        return notices.get(index)[what];
    }

    public int searchBox(int box) {
        MailBox b = boxAt(box);
        Predicate<Message> query = wholeQuery();
        if (query == null) {
            return -4;
        }
        int set = 0;
        for (int k = 0; k < b.messages.size(); k++) {
            set |= query.test(b.messages.get(k)) ? 1 << k : 0;
        }
        return set;
    }

    public int select(int session, int box, boolean reads) {
        Client c = clientAt(session);
        boxAt(box);
        state(!c.idle);
        begin();
        c.account[0]++;
        enter(world, c, box, reads);
        end(session, false, false);
        return c.view.size();
    }

    public int noop(int session) {
        Client c = clientAt(session);
        active(c, false);
        begin();
        c.account[0]++;
        return end(session, true, true);
    }

    public int startIdle(int session) {
        Client c = clientAt(session);
        active(c, false);
        begin();
        c.account[0]++;
        c.idle = true;
        return end(session, true, true);
    }

    public int stopIdle(int session) {
        Client c = clientAt(session);
        state(c.idle);
        begin();
        c.account[0]++;
        c.idle = false;
        return end(session, true, true);
    }

    public int fetch(int session, int from, int to, boolean peek) {
        Client c = clientAt(session);
        range(c, from, to);
        argument(to >= from);
        active(c, false);
        begin();
        c.account[0]++;
        int sum = 0;
        for (Message m : there(c, from, to)) {
            sum += m.size;
            m.flags |= peek || c.reads ? 0 : 1;
        }
        c.account[4] += sum;
        end(session, true, false);
        return sum;
    }

    private static int changed(List<Message> messages, int mode, int flags) {
        int count = 0;
        for (Message m : messages) {
            int then = mode == 0 ? flags : mode == 1 ? m.flags | flags : m.flags & (31 - flags);
            count += then != m.flags ? 1 : 0;
            m.flags = then;
        }
        return count;
    }

    public int store(int session, int from, int to, int mode, int flags, boolean silent) {
        Client c = clientAt(session);
        range(c, from, to);
        argument(to >= from && mode >= 0 && mode <= 2 && flags >= 0 && flags <= 31);
        active(c, true);
        begin();
        c.account[0]++;
        int count = changed(there(c, from, to), mode, flags);
        for (int k = from; silent && k <= to; k++) {
            for (Message m : there(c, k, k)) {
                c.view.get(k - 1).told = m.flags;
            }
        }
        end(session, true, false);
        return count;
    }

    public int uidStore(int session, int first, int last, int mode, int flags) {
        Client c = clientAt(session);
        argument(mode >= 0 && mode <= 2 && flags >= 0 && flags <= 31);
        MailBox b = active(c, true);
        begin();
        c.account[0]++;
        List<Message> chosen = new ArrayList<>(b.messages);
        chosen.removeIf(m -> m.uid < first || m.uid > last);
        int count = changed(chosen, mode, flags);
        end(session, true, true);
        return count;
    }

    public long search(int session) {
        Client c = clientAt(session);
        active(c, false);
        Predicate<Message> query = wholeQuery();
        if (query == null) {
            return -4;
        }
        begin();
        c.account[0]++;
        long set = 0;
        for (int k = 1; k <= c.view.size(); k++) {
            set |= there(c, k, k).stream().anyMatch(query) ? 1L << k : 0;
        }
        end(session, true, false);
        return set;
    }

    public int expunge(int session) {
        return uidExpunge(session, Integer.MIN_VALUE, Integer.MAX_VALUE);
    }

    public int uidExpunge(int session, int first, int last) {
        Client c = clientAt(session);
        MailBox b = active(c, true);
        begin();
        c.account[0]++;
        int before = b.messages.size();
        b.messages.removeIf(m -> (m.flags & 8) != 0 && m.uid >= first && m.uid <= last);
        end(session, true, true);
        return before - b.messages.size();
    }

    private int carry(int session, int from, int to, int box, boolean away) {
        Client c = clientAt(session);
        range(c, from, to);
        MailBox target = boxAt(box);
        argument(to >= from);
        MailBox b = active(c, away);
        int count = there(c, from, to).size();
        state(count == 0 || target.messages.size() + count <= world.limit);
        begin();
        c.account[0]++;
        List<Message> chosen = there(c, from, to);
        chosen.forEach(m -> put(target, target.next++, m.size, m.flags));
        if (away) {
            b.messages.removeAll(chosen);
        }
        end(session, true, true);
        return count;
    }

    public int copy(int session, int from, int to, int box) {
        return carry(session, from, to, box, false);
    }

    public int move(int session, int from, int to, int box) {
        return carry(session, from, to, box, true);
    }

    public int close(int session) {
        Client c = clientAt(session);
        MailBox b = active(c, false);
        begin();
        c.account[0]++;
        int before = b.messages.size();
        if (!c.reads) {
            b.messages.removeIf(m -> (m.flags & 8) != 0);
        }
        c.box = -1;
        c.reads = false;
        c.view.clear();
        end(session, false, false);
        return before - b.messages.size();
    }

    public int deliver(int box, int size, int flags) {
        MailBox b = boxAt(box);
        argument(size >= 1 && size <= 9999 && flags >= 0 && flags <= 31);
        state(b.messages.size() < world.limit);
        begin();
        put(b, b.next++, size, flags);
        end(0, false, false);
        return b.next - 1;
    }

    public int setLimit(int limit) {
        argument(limit >= 1 && limit <= 30);
        begin();
        int before = world.limit;
        world.limit = limit;
        return before;
    }

    public int keep(int slot) {
        index(slot == 0 || slot == 1);
        slots[slot] = world.copied();
        return property(3);
    }

    public int restore(int slot) {
        index(slot == 0 || slot == 1);
        state(slots[slot] != null);
        begin();
        world = slots[slot].copied();
        return property(3);
    }

    public int undo() {
        state(!past.isEmpty());
        world = past.remove(past.size() - 1);
        notices.clear();
        return past.size();
    }

    public int undoCount() {
        return past.size();
    }

    private static String letters(int flags) {
        StringBuilder text = new StringBuilder();
        for (int k = 0; k < 5; k++) {
            text.append((flags >> k & 1) != 0 ? "safdr".substring(k, k + 1) : "");
        }
        return text.toString();
    }

    private int write(List<String> parts) {
        output = String.join(" ", parts);
        return output.length();
    }

    public int writeBox(int box) {
        List<String> parts = new ArrayList<>();
        boxAt(box).messages.forEach(m -> parts.add(m.uid + ":" + m.size + letters(m.flags)));
        return write(parts);
    }

    public int writeView(int session) {
        Client c = clientAt(session);
        List<String> parts = new ArrayList<>();
        for (Entry e : c.view) {
            parts.add(parts.size() + 1 + ":" + e.uid + letters(e.told) + (messageOf(world, c, e) == null ? "!" : ""));
        }
        return write(parts);
    }

    public int writeNotices() {
        List<String> parts = new ArrayList<>();
        for (int[] n : notices) {
            parts.add(n[0] + "-=+".substring(n[1], n[1] + 1) + n[2] + (n[1] == 1 ? ":" + letters(n[3]) : ""));
        }
        return write(parts);
    }

    int outputLength() {
        return output.length();
    }

    public int outputByte(int index) {
        index(index >= 0 && index < output.length());
        return output.charAt(index);
    }
}
