import java.util.ArrayList;
import java.util.List;
import java.util.Random;

/** Schemas and documents from a random source. */
final class RandomTexts {
    private static final String[] NAMES = {"a", "b", "ab", "", "c", "a b"};
    private static final String[] TYPES = {
        "null", "boolean", "number", "string", "array", "object", "x",
    };
    private final Random random;

    RandomTexts(Random random) {
        this.random = random;
    }

    /** Characters of a text without any order. */
    String soup(int limit) {
        String alphabet = "{{[[}}]]\"\"\"\",,::-019 abnulltruefalse#?A";
        StringBuilder text = new StringBuilder();
        int length = random.nextInt(3) == 0 ? limit : random.nextInt(limit + 1);
        while (text.length() < length) {
            text.append(alphabet.charAt(random.nextInt(alphabet.length())));
        }
        return text.toString();
    }

    String spoiled(String text, int limit) {
        StringBuilder spoiled = new StringBuilder(text);
        for (int n = random.nextInt(4); n > 0 && spoiled.length() > 0; n--) {
            int at = random.nextInt(spoiled.length());
            if (random.nextBoolean()) {
                spoiled.deleteCharAt(at);
            } else if (spoiled.length() < limit) {
                spoiled.insert(at, "{}[]\",:-1 a?".charAt(random.nextInt(12)));
            }
        }
        return spoiled.toString();
    }

    /** A text that fits: a schema, or a document if only 80 are allowed. */
    String fitting(int limit) {
        while (true) {
            boolean object = random.nextInt(3) > 0;
            String text = limit == 160 ? schema(3, true)
                    : object ? "{" + members(3, false) + "}" : value(3);
            if (text.length() <= limit) {
                return text;
            }
        }
    }

    private String pick(String... of) {
        return of[random.nextInt(of.length)];
    }

    private static String quoted(String text) {
        return "\"" + text + "\"";
    }

    private String number() {
        return pick("0", "1", "2", "3", "-1", "6");
    }

    private String value(int depth) {
        switch (random.nextInt(depth > 0 ? 12 : 5)) {
            case 0: return pick("null", "false", "true");
            case 1: case 2: return number();
            case 3: return quoted(pick(NAMES));
            case 4: return pick("[]", "{}");
            case 5: case 6: case 7: return "[" + list(depth) + "]";
            default: return "{" + members(depth, false) + "}";
        }
    }

    private String list(int depth) {
        List<String> all = new ArrayList<>();
        for (int n = random.nextInt(4); n > 0; n--) {
            all.add(value(depth - 1));
        }
        return String.join(",", all);
    }

    private String members(int depth, boolean schemas) {
        List<String> all = new ArrayList<>();
        List<String> names = new ArrayList<>(List.of(NAMES));
        for (int n = random.nextInt(4); n > 0; n--) {
            String name = names.remove(random.nextInt(names.size()));
            all.add(quoted(name) + ":" + (schemas ? schema(depth - 1, false) : value(depth - 1)));
        }
        return String.join(",", all);
    }

    private String schemas(int depth) {
        List<String> all = new ArrayList<>();
        for (int n = random.nextInt(3); n >= 0; n--) {
            all.add(schema(depth - 1, false));
        }
        return "[" + String.join(",", all) + "]";
    }

    private String schema(int depth, boolean root) {
        if (!root && random.nextInt(4) == 0 || depth == 0) {
            return pick("false", "true", "{}", "1", "{\"min\":2}", "{\"ref\":\"#a\"}");
        }
        List<String> all = new ArrayList<>();
        List<Integer> words = new ArrayList<>();
        for (int w = 1; w <= 20; w++) {
            words.add(w);
            if (w >= 12) {
                words.add(w);
            }
            if (w == 12) {
                words.add(w);
                words.add(w);
            }
        }
        for (int n = random.nextInt(3); n >= 0; n--) {
            Integer w = words.remove(random.nextInt(words.size()));
            while (words.remove(w)) {
                continue;
            }
            all.add(said(w, depth));
        }
        if (root && random.nextInt(2) == 0) {
            all.add(random.nextInt(all.size() + 1), "\"defs\":{" + members(depth, true) + "}");
        }
        return "{" + String.join(",", all) + "}";
    }

    private String said(int w, int depth) {
        String[] names = {
            "type", "const", "enum", "min", "max", "multiple", "minlength", "maxlength", "minitems",
            "maxitems", "required", "properties", "additional", "items", "allof", "anyof", "oneof",
            "not", "ref", "unevaluated",
        };
        return quoted(names[w - 1]) + ":" + (random.nextInt(20) == 0 ? value(1) : what(w, depth));
    }

    private String what(int w, int depth) {
        switch (w) {
            case 1: return random.nextInt(3) > 0 ? quoted(pick(TYPES))
                    : "[" + quoted(pick(TYPES)) + "," + quoted(pick(TYPES)) + "]";
            case 2: return value(1);
            case 3: return "[" + list(1) + "]";
            case 11: return "[" + quoted(pick(NAMES)) + pick("", ",\"b\"") + "]";
            case 12: return "{" + members(depth, true) + "}";
            case 13: case 14: case 18: case 20: return schema(depth - 1, false);
            case 15: case 16: case 17: return schemas(depth);
            case 19: return pick("\"#\"", "\"#a\"", "\"#b\"", "\"#ab\"", "\"a\"");
            default: return number();
        }
    }
}
