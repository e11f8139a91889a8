import java.lang.reflect.InvocationTargetException;
import java.lang.reflect.Method;
import java.util.Arrays;
import java.util.HashMap;
import java.util.Map;
import java.util.Random;
import java.util.TreeMap;

/** Walks of 512 calls of all kinds, right and wrong ones, each compared with PlainCalls. */
public final class WalkTest {
    private static final int WALKS = 1500;
    private static final int CALLS = 512;
    private static final String CHARACTERS = "{}[]\",:- 0123abnulltruefalse#?A";
    private static final Check check = new Check();
    private static final Random random = new Random(16);
    private static final RandomTexts texts = new RandomTexts(random);
    private static final Map<String, Method> face = methods(SchemaDesk.class);
    private static final Map<String, Method> plainFace = methods(PlainCalls.class);
    /** How often each method gave an answer, and threw each exception. */
    private static final Map<String, Integer> seen = new TreeMap<>();

    private static SchemaDesk desk;
    private static PlainCalls plain;
    private static int walk;
    private static int calls;

    public static void main(String[] args) throws Exception {
        for (walk = 0; walk < WALKS; walk++) {
            desk = new SchemaDesk();
            plain = new PlainCalls();
            calls = 0;
            write(0);
            write(1);
            while (calls < CALLS) {
                step();
            }
        }
        check.same("ways to answer and to refuse that the walks have seen", seen.keySet().toString(),
                "[diagnostic, diagnostic IllegalArgumentException, diagnostic NoSuchElementException,"
                + " fault, fault IllegalArgumentException, fault NoSuchElementException,"
                + " faults, faults IllegalArgumentException,"
                + " holds, holds NoSuchElementException, holds UnsupportedOperationException,"
                + " insert, insert IllegalArgumentException, insert IllegalStateException,"
                + " insert IndexOutOfBoundsException,"
                + " judge, judge IllegalStateException, judge UnsupportedOperationException,"
                + " length, length IllegalArgumentException,"
                + " letter, letter IllegalArgumentException, letter IndexOutOfBoundsException,"
                + " node, node IllegalArgumentException, node NoSuchElementException,"
                + " nodes, nodes IllegalArgumentException,"
                + " proposal, proposal NoSuchElementException,"
                + " propose, propose NoSuchElementException, propose UnsupportedOperationException,"
                + " remove, remove IllegalArgumentException, remove IndexOutOfBoundsException,"
                + " type, word]");
        check.end();
    }

    private static Map<String, Method> methods(Class<?> of) {
        Map<String, Method> all = new HashMap<>();
        for (Method method : of.getDeclaredMethods()) {
            all.put(method.getName(), method);
        }
        return all;
    }

    private static void call(String name, Object... arguments) throws Exception {
        if (calls == CALLS) {
            return;
        }
        calls++;
        String due = answer(plainFace.get(name), plain, arguments);
        String got = answer(face.get(name), desk, arguments);
        seen.merge(due.startsWith("throws.") ? name + due.replace("throws.", " ") : name, 1,
                Integer::sum);
        if (!got.equals(due)) {
            check.same("walk " + walk + ", call " + calls + ": " + name + Arrays.toString(arguments)
                    + " (schema " + plain.text(0) + ", document " + plain.text(1) + ")", got, due);
        }
    }

    private static String answer(Method method, Object of, Object[] arguments) throws Exception {
        try {
            return String.valueOf(method.invoke(of, arguments));
        } catch (InvocationTargetException e) {
            return "throws." + e.getCause().getClass().getSimpleName();
        }
    }

    private static void write(int t) throws Exception {
        String text = texts.fitting(t == 0 ? 160 : 80);
        for (char c : text.toCharArray()) {
            call("type", t, c);
        }
    }

    private static void step() throws Exception {
        int choice = random.nextInt(40);
        if (choice < 12) {
            edit(choice);
        } else if (choice < 24) {
            askOfText(choice);
        } else {
            askOfBoth(choice);
        }
    }

    /** Only every other walk spoils its texts, as little can be judged in what is spoilt. */
    private static void edit(int choice) throws Exception {
        if (choice == 0 && random.nextInt(4) == 0) {
            rewrite(random.nextInt(2));
        } else if (choice < 6 && walk % 2 == 0) {
            spoil(choice);
        } else {
            exchange(random.nextInt(2));
        }
    }

    private static void rewrite(int t) throws Exception {
        call("remove", t, 0, plain.length(t));
        write(t);
    }

    private static void spoil(int choice) throws Exception {
        int t = text();
        int length = t == 0 || t == 1 ? plain.length(t) : 9;
        switch (choice) {
            case 0: case 1: call("type", t, character()); break;
            case 2: call("word", t, around(28)); break;
            case 3: call("insert", t, around(length + 1), character()); break;
            case 4: call("remove", t, around(length + 1), around(3)); break;
            default: call("remove", t, around(length + 1), around(length + 1)); break;
        }
    }

    /** Puts another character of its class in a place, so that what was right mostly stays so. */
    private static void exchange(int t) throws Exception {
        int length = plain.length(t);
        if (length == 0) {
            return;
        }
        int at = random.nextInt(length);
        char old = plain.letter(t, at);
        char put = old;
        if (old >= '0' && old <= '9') {
            put = (char) ('0' + random.nextInt(10));
        } else if (old == 'a' || old == 'b') {
            put = random.nextBoolean() ? 'a' : 'b';
        }
        call("remove", t, at, 1);
        if (random.nextInt(3) == 0) {
            askOfBoth(24 + random.nextInt(16));
        }
        call("insert", t, at, put);
    }

    private static void askOfText(int choice) throws Exception {
        int t = text();
        boolean there = t == 0 || t == 1;
        switch (choice) {
            case 12: call("length", t); break;
            case 13: call("letter", t, around(there ? plain.length(t) : 9)); break;
            case 14: call("nodes", t); break;
            case 15: call("faults", t); break;
            case 16: case 17: case 18:
                call("fault", t, around(there ? plain.faults(t) : 9)); break;
            default: call("node", t, around(there ? plain.nodes(t) : 9), around(7)); break;
        }
    }

    private static void askOfBoth(int choice) throws Exception {
        switch (choice) {
            case 24: case 25: case 26: case 27: case 28:
                call("holds", around(plain.nodes(0)), around(plain.nodes(1))); break;
            case 29: case 30: call("judge"); break;
            case 31: case 32: case 33: case 34:
                call("diagnostic", around(plain.latest(true)), around(3)); break;
            case 35: case 36: call("propose", around(plain.nodes(1))); break;
            default: call("proposal", around(plain.latest(false)), around(4)); break;
        }
    }

    private static int text() {
        return random.nextInt(12) > 0 ? random.nextInt(2) : around(2);
    }

    /** Mostly one of 0 .. count - 1, now and then the next on either side or one far away. */
    private static int around(int count) {
        int choice = random.nextInt(30);
        switch (choice) {
            case 0: return -1;
            case 1: return count;
            case 2: return random.nextBoolean() ? Integer.MAX_VALUE : Integer.MIN_VALUE;
            default: return random.nextInt(Math.max(1, count));
        }
    }

    private static char character() {
        switch (random.nextInt(30)) {
            case 0: return 31;
            case 1: return 127;
            case 2: return random.nextBoolean() ? (char) 0 : Character.MAX_VALUE;
            case 3: return 126;
            default: return CHARACTERS.charAt(random.nextInt(CHARACTERS.length()));
        }
    }
}
