import java.lang.reflect.InvocationTargetException;
import java.lang.reflect.Method;
import java.lang.reflect.Modifier;
import java.util.ArrayList;
import java.util.Arrays;
import java.util.List;
import java.util.Map;
import java.util.Random;
import java.util.TreeMap;

/** Runs of 512 calls, always the same ones: the class answers each call as the model does. */
public final class ModelTest {
    private static final int RUNS = 1500;
    /** What an object answers behind its 512th call is free. */
    private static final int CALLS = 512;
    /** From here on the outputs are compared, byte by byte. */
    private static final int CALLS_AHEAD = 360;
    private static final String[] WORDS = {"limit", "box", "message", "size", "session", "reads", "seen", "answered",
        "flagged", "deleted", "draft", "all", "uid", "not", "or", ";", "(", ")", "<", ">", "0", "1", "7", "30", "31", "9999",
        "10000", "000012", "99999999999999999999", "a", "bb", "inbox", "abcdefg", "\n", "\u0000", "\u00ff", "="};
    private static final String[] NAMES = {"a", "bb", "inbox", "trash", "zz"};
    private static final String[] FLAGS = {"seen", "answered", "flagged", "deleted", "draft"};
    private static final int[] EDGES = {-1, 0, 1, 2, 3, 4, 5, 6, 7, 30, 31, 32, 60, 61, 9999, 10000, Integer.MIN_VALUE,
        Integer.MAX_VALUE};

    private static final Map<String, Method> FACE = faceOf(MailSessions.class);
    private static final Map<String, Method> MODEL_FACE = faceOf(Model.class);
    private static final List<Method> METHODS = new ArrayList<>(FACE.values());

    private final Random random;
    private final MailSessions subject = new MailSessions();
    private final Model model = new Model();
    private final List<String> told = new ArrayList<>();
    private final int changing;
    private int made = 0;

    private ModelTest(long seed) {
        random = new Random(seed);
        changing = 40 + random.nextInt(60);
    }

    public static void main(String[] args) {
        Checks.due("methods of the face", 50, FACE::size);
        int runs = args.length > 0 ? Integer.parseInt(args[0]) : RUNS;
        for (int seed = 1; seed <= runs; seed++) {
            if (!new ModelTest(seed).run()) {
                break;
            }
        }
        Checks.end();
    }

    private boolean run() {
        loadText(text());
        boolean good = true;
        while (good && made < CALLS_AHEAD) {
            good = step();
        }
        good = good && same();
        while (good && made < CALLS) {
            good = step();
        }
        if (!good) {
            System.out.println(String.join("\n", told.subList(Math.max(0, told.size() - 60), told.size())));
        }
        return good;
    }

    private boolean step() {
        int choice = random.nextInt(1000);
        if (choice < 3) {
            return loadText(text());
        }
        if (choice < 25) {
            return loadText(spoiled(text()));
        }
        if (choice < 110) {
            String query = random.nextInt(3) == 0 ? spoiled(query(0)) : query(0);
            boolean box = random.nextBoolean();
            return feed(query) && call(box ? "searchBox" : "search", anyNumber(box ? 0 : 1));
        }
        if (choice < 125) {
            return feed(NAMES[random.nextInt(NAMES.length)]) && call(random.nextBoolean() ? "findBox" : "findSession");
        }
        if (choice < 600) {
            return random.nextInt(100) < changing ? change() : ask();
        }
        return ask();
    }

    private boolean change() {
        int session = anyNumber(1);
        int box = anyNumber(0);
        int entries = Math.max(1, session(session));
        int from = 1 + random.nextInt(entries);
        int to = Math.min(entries, from + random.nextInt(4));
        int flags = random.nextInt(3) == 0 ? 8 : random.nextInt(32);
        int mode = random.nextInt(3);
        boolean yes = random.nextInt(3) == 0;
        switch (random.nextInt(random.nextInt(4) == 0 ? 22 : 16)) {
            case 0: case 1: case 2: case 3: return call("deliver", box, 1 + random.nextInt(9999), flags);
            case 4: return call("fetch", session, from, to, yes);
            case 5: return call("store", session, from, to, mode, flags, yes);
            case 6: return call("uidStore", session, random.nextInt(20), random.nextInt(40), mode, flags);
            case 7: return call("copy", session, from, to, box);
            case 8: return call("move", session, from, to, box);
            case 9: return call("uidExpunge", session, random.nextInt(20), random.nextInt(60));
            case 10: return call("expunge", session);
            case 11: return call("undo");
            case 12: return call("startIdle", session);
            case 13: case 14: return call("stopIdle", session);
            case 15: return call("select", session, box, yes);
            case 16: return call("noop", session);
            case 17: return call("close", session);
            case 18: return call("setLimit", 1 + random.nextInt(30));
            case 19: return call("setLimit", 30);
            case 20: return call("keep", random.nextInt(2));
            default: return call("restore", random.nextInt(2));
        }
    }

    private int session(int number) {
        try {
            return model.session(number, 3);
        } catch (IndexOutOfBoundsException none) {
            return 1;
        }
    }

    private boolean ask() {
        switch (random.nextInt(8)) {
            case 0: return call("writeView", anyNumber(1)) && call("outputByte", random.nextInt(60));
            case 1: return call("writeBox", anyNumber(0)) && call("outputByte", random.nextInt(60));
            case 2: return call("writeNotices") && call("outputByte", random.nextInt(60));
            case 3: return call("writeNotices") && call("undoCount") && call("stale") && call("property", 2);
            default:
                Method method = METHODS.get(random.nextInt(METHODS.size()));
                Object[] arguments = new Object[method.getParameterCount()];
                for (int k = 0; k < arguments.length; k++) {
                    boolean flag = method.getParameterTypes()[k] == boolean.class;
                    arguments[k] = flag ? (Object) random.nextBoolean() : (Object) anyArgument();
                }
                return call(method.getName(), arguments);
        }
    }

    private boolean same() {
        boolean good = written("writeNotices");
        for (int of = 0; of < 4 && good; of++) {
            int number = (of + changing) % 4;
            good = written("writeView", number) && written("writeBox", number);
        }
        return good;
    }

    private boolean written(String method, Object... arguments) {
        if (!call(method, arguments)) {
            return false;
        }
        int length = model.outputLength();
        for (int at = 0; at < length && made < CALLS; at++) {
            made++;
            if (subject.outputByte(at) != model.outputByte(at)) {
                Checks.fail(method + Arrays.toString(arguments) + " wrote another byte " + at);
                return false;
            }
        }
        return call("outputByte", length);
    }

    private int anyNumber(int kind) {
        int there = model.property(kind);
        return random.nextInt(40) == 0 ? EDGES[random.nextInt(EDGES.length)] : random.nextInt(Math.max(1, there));
    }

    private int anyArgument() {
        return random.nextInt(4) == 0 ? EDGES[random.nextInt(EDGES.length)] : random.nextInt(7);
    }

    private boolean call(String name, Object... arguments) {
        if (made >= CALLS) {
            return true;
        }
        made++;
        String got = answer(subject, FACE, name, arguments);
        String want = answer(model, MODEL_FACE, name, arguments);
        told.add(name + Arrays.toString(arguments) + " " + want);
        if (!got.equals(want)) {
            Checks.fail(name + Arrays.toString(arguments) + " answered " + got + ", due is " + want);
            return false;
        }
        return true;
    }

    private static String answer(Object object, Map<String, Method> face, String name, Object[] arguments) {
        try {
            return Checks.told(face.get(name).invoke(object, arguments));
        } catch (InvocationTargetException thrown) {
            return "throws." + thrown.getCause().getClass().getSimpleName();
        } catch (IllegalAccessException hidden) {
            return "hidden";
        }
    }

    private static Map<String, Method> faceOf(Class<?> type) {
        Map<String, Method> face = new TreeMap<>();
        for (Method method : type.getDeclaredMethods()) {
            if (Modifier.isPublic(method.getModifiers())) {
                face.put(method.getName(), method);
            }
        }
        return face;
    }

    private boolean feed(String text) {
        truncateAll();
        String cut = text.length() > 700 ? text.substring(0, 700) : text;
        for (int from = 0; from < cut.length(); from += 20) {
            Object[] words = new Object[5];
            for (int k = 0; k < 5; k++) {
                int word = 0;
                for (int j = 0; j < 4; j++) {
                    int at = from + 4 * k + j;
                    word = word << 8 | (at < cut.length() ? cut.charAt(at) : ' ');
                }
                words[k] = word;
            }
            if (!call("append", words)) {
                return false;
            }
        }
        return call("truncate", cut.length());
    }

    private void truncateAll() {
        call("truncate", 0);
    }

    private boolean loadText(String text) {
        return feed(text) && call("load") && call("errorCode") && call("errorPosition") && call("property", 3);
    }

    private String text() {
        StringBuilder text = new StringBuilder();
        if (random.nextInt(3) == 0) {
            text.append("limit ").append(1 + random.nextInt(30)).append(";");
        }
        int boxes = 1 + random.nextInt(3);
        for (int k = 0; k < boxes; k++) {
            text.append("box ").append(NAMES[k]).append(";");
        }
        int messages = random.nextInt(12);
        int sessions = 1 + random.nextInt(4);
        while (messages + sessions > 0) {
            boolean message = random.nextInt(messages + sessions) < messages;
            if (message) {
                messages--;
                text.append("message ").append(NAMES[random.nextInt(boxes)]).append(" size ").append(1 + random.nextInt(99));
                for (String flag : FLAGS) {
                    text.append(random.nextInt(4) == 0 ? " " + flag : "");
                }
            } else {
                sessions--;
                text.append("session ").append(NAMES[sessions]);
                if (random.nextInt(8) != 0) {
                    text.append(random.nextInt(4) == 0 ? " reads " : " ").append(NAMES[random.nextInt(boxes)]);
                }
            }
            text.append(random.nextInt(5) == 0 ? " ;\n" : ";");
        }
        return text.toString();
    }

    private String query(int depth) {
        switch (depth > 4 ? random.nextInt(5) : random.nextInt(9)) {
            case 0: return "all";
            case 1: case 2: return FLAGS[random.nextInt(FLAGS.length)];
            case 3: return "size " + (random.nextBoolean() ? "<" : ">") + random.nextInt(random.nextBoolean() ? 100 : 10000);
            case 4: return "uid" + (random.nextBoolean() ? "<" : "> ") + random.nextInt(40);
            case 5: return "not " + query(depth + 1);
            case 6: return "(" + query(depth + 1) + ")";
            case 7: return query(depth + 1) + " " + query(depth + 1);
            default: return query(depth + 1) + " or " + query(depth + 1);
        }
    }

    /** Puts in, takes out or changes a token somewhere. */
    private String spoiled(String text) {
        int at = random.nextInt(text.length() + 1);
        String word = WORDS[random.nextInt(WORDS.length)];
        switch (random.nextInt(5)) {
            case 0: return text.substring(0, at);
            case 1: return text.substring(0, at) + word + text.substring(at);
            case 2: return text.substring(0, at) + " " + word + " " + text.substring(at);
            case 3: return text.substring(0, at) + text.substring(Math.min(text.length(), at + 1 + random.nextInt(6)));
            default: return text + word + " " + text;
        }
    }
}
