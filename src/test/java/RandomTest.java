import java.util.ArrayList;
import java.util.List;
import java.util.Random;

/** Compares SchemaDesk with PlainDesk on texts from a random source with a fixed seed. */
public final class RandomTest {
    private static final Check check = new Check();
    private static final Random random = new Random(20261115);
    private static final String[] NAMES = {"a", "b", "ab", "", "c", "a b"};
    private static final String[] TYPES = {
        "null", "boolean", "number", "string", "array", "object", "x",
    };
    private static final int MOST_CALLS = 512;

    private static SchemaDesk desk;
    private static int calls;
    private static String schema;
    private static String document;

    private static int judgedWithFindings;
    private static int circles;
    private static int proposedNames;

    public static void main(String[] args) {
        for (int round = 0; round < 6000; round++) {
            compare(soup(160), soup(80));
            compare(spoiled(fitting(160), 160), spoiled(fitting(80), 80));
            compare(fitting(160), fitting(80));
            compareOneDesk();
        }
        System.out.println("judged with findings " + judgedWithFindings + ", circles " + circles
                + ", proposed names " + proposedNames);
        check.same("judgings with findings are enough", judgedWithFindings > 1500, true);
        check.same("circles are enough", circles > 300, true);
        check.same("proposed names are enough", proposedNames > 1500, true);
        check.end();
    }

    /** Characters of a text without any order. */
    private static String soup(int limit) {
        String alphabet = "{{[[}}]]\"\"\"\",,::-019 abnulltruefalse#?A";
        StringBuilder text = new StringBuilder();
        int length = random.nextInt(3) == 0 ? limit : random.nextInt(limit + 1);
        while (text.length() < length) {
            text.append(alphabet.charAt(random.nextInt(alphabet.length())));
        }
        return text.toString();
    }

    private static String spoiled(String text, int limit) {
        StringBuilder spoiled = new StringBuilder(text);
        for (int n = random.nextInt(4); n > 0 && spoiled.length() > 0; n--) {
            int at = random.nextInt(spoiled.length());
            if (random.nextBoolean()) {
                spoiled.deleteCharAt(at);
            } else if (spoiled.length() < limit) {
                spoiled.insert(at, "{}[]\",:-1 a?".charAt(random.nextInt(12)));
            }
        }
        return spoiled.toString();
    }

    /** A text that fits: a schema, or a document if only 80 are allowed. */
    private static String fitting(int limit) {
        while (true) {
            boolean object = random.nextInt(3) > 0;
            String text = limit == 160 ? schema(3, true)
                    : object ? "{" + members(3, false) + "}" : value(3);
            if (text.length() <= limit) {
                return text;
            }
        }
    }

    private static String pick(String... of) {
        return of[random.nextInt(of.length)];
    }

    private static String quoted(String text) {
        return "\"" + text + "\"";
    }

    private static String number() {
        return pick("0", "1", "2", "3", "-1", "6");
    }

    private static String value(int depth) {
        switch (random.nextInt(depth > 0 ? 12 : 5)) {
            case 0: return pick("null", "false", "true");
            case 1: case 2: return number();
            case 3: return quoted(pick(NAMES));
            case 4: return pick("[]", "{}");
            case 5: case 6: case 7: return "[" + list(depth) + "]";
            default: return "{" + members(depth, false) + "}";
        }
    }

    private static String list(int depth) {
        List<String> all = new ArrayList<>();
        for (int n = random.nextInt(4); n > 0; n--) {
            all.add(value(depth - 1));
        }
        return String.join(",", all);
    }

    private static String members(int depth, boolean schemas) {
        List<String> all = new ArrayList<>();
        List<String> names = new ArrayList<>(List.of(NAMES));
        for (int n = random.nextInt(4); n > 0; n--) {
            String name = names.remove(random.nextInt(names.size()));
            all.add(quoted(name) + ":" + (schemas ? schema(depth - 1, false) : value(depth - 1)));
        }
        return String.join(",", all);
    }

    private static String schemas(int depth) {
        List<String> all = new ArrayList<>();
        for (int n = random.nextInt(3); n >= 0; n--) {
            all.add(schema(depth - 1, false));
        }
        return "[" + String.join(",", all) + "]";
    }

    private static String schema(int depth, boolean root) {
        if (!root && random.nextInt(4) == 0 || depth == 0) {
            return pick("false", "true", "{}", "1", "{\"min\":2}", "{\"ref\":\"#a\"}");
        }
        List<String> all = new ArrayList<>();
        List<Integer> words = new ArrayList<>();
        for (int w = 1; w <= 20; w++) {
            words.add(w);
            if (w >= 12) {
                words.add(w);
            }
            if (w == 12) {
                words.add(w);
                words.add(w);
            }
        }
        for (int n = random.nextInt(3); n >= 0; n--) {
            Integer w = words.remove(random.nextInt(words.size()));
            while (words.remove(w)) {
                continue;
            }
            all.add(said(w, depth));
        }
        if (root && random.nextInt(2) == 0) {
            all.add(random.nextInt(all.size() + 1), "\"defs\":{" + members(depth, true) + "}");
        }
        return "{" + String.join(",", all) + "}";
    }

    private static String said(int w, int depth) {
        String[] names = {
            "type", "const", "enum", "min", "max", "multiple", "minlength", "maxlength", "minitems",
            "maxitems", "required", "properties", "additional", "items", "allof", "anyof", "oneof",
            "not", "ref", "unevaluated",
        };
        return quoted(names[w - 1]) + ":" + (random.nextInt(20) == 0 ? value(1) : what(w, depth));
    }

    private static String what(int w, int depth) {
        switch (w) {
            case 1: return random.nextInt(3) > 0 ? quoted(pick(TYPES))
                    : "[" + quoted(pick(TYPES)) + "," + quoted(pick(TYPES)) + "]";
            case 2: return value(1);
            case 3: return "[" + list(1) + "]";
            case 11: return "[" + quoted(pick(NAMES)) + pick("", ",\"b\"") + "]";
            case 12: return "{" + members(depth, true) + "}";
            case 13: case 14: case 18: case 20: return schema(depth - 1, false);
            case 15: case 16: case 17: return schemas(depth);
            case 19: return pick("\"#\"", "\"#a\"", "\"#b\"", "\"#ab\"", "\"a\"");
            default: return number();
        }
    }

    /** An object is promised 512 calls: a desk that could run out of them is made anew. */
    private static void need(int n) {
        if (desk == null || calls + n > MOST_CALLS) {
            desk = Check.desk(schema, document);
            calls = schema.length() + document.length();
        }
        calls += n;
    }

    private static void same(String what, Object got, Object due) {
        check.same(what + " (schema " + schema + ", document " + document + ")", got, due);
    }

    private static void compare(String newSchema, String newDocument) {
        schema = newSchema;
        document = newDocument;
        desk = null;
        PlainDesk plain = new PlainDesk(schema, document);
        compareReading(0, plain.schema);
        compareReading(1, plain.document);
        boolean circular = plain.circular();
        compareHolding(plain, circular);
        compareJudging(plain, circular);
        compareProposing(plain, circular);
    }

    /** One desk whose texts are replaced again and again: nothing of the old ones may be left. */
    private static void compareOneDesk() {
        schema = fitting(160);
        document = fitting(80);
        desk = null;
        for (int round = 0; round < 5; round++) {
            PlainDesk plain = new PlainDesk(schema, document);
            boolean circular = plain.circular();
            compareNumbers(0, plain.schema);
            compareNumbers(1, plain.document);
            compareHolding(plain, circular);
            compareJudging(plain, circular);
            compareProposing(plain, circular);
            replace(random.nextInt(2));
        }
    }

    private static void replace(int t) {
        String text = fitting(t == 0 ? 160 : 80);
        need(1 + text.length());
        desk.remove(t, 0, (t == 0 ? schema : document).length());
        Check.fill(desk, t, text);
        schema = t == 0 ? text : schema;
        document = t == 1 ? text : document;
    }

    private static void compareNumbers(int t, PlainDesk.Reading due) {
        for (PlainDesk.Node node : due.nodes) {
            need(1);
            same("number of node " + node.id + " of " + t, desk.node(t, node.id, 6), node.number);
        }
    }

    private static void compareReading(int t, PlainDesk.Reading due) {
        need(2);
        same("nodes of " + t, desk.nodes(t), due.nodes.size());
        same("faults of " + t, desk.faults(t), due.faults.size());
        for (int k = 0; k < due.faults.size(); k++) {
            need(1);
            same("fault " + k + " of " + t, desk.fault(t, k), due.faults.get(k));
        }
        for (PlainDesk.Node node : due.nodes) {
            int parent = node.parent == null ? -1 : node.parent.id;
            int[] row = {
                node.kind, node.from, node.to, parent, node.children.size(), node.namePlace,
                node.number,
            };
            need(row.length);
            for (int what = 0; what < row.length; what++) {
                same("node " + node.id + ", " + what + " of " + t, desk.node(t, node.id, what),
                        row[what]);
            }
        }
    }

    private static void compareHolding(PlainDesk plain, boolean circular) {
        for (PlainDesk.Node s : plain.schema.nodes) {
            for (PlainDesk.Node i : plain.document.nodes) {
                if (circular && s.id + i.id > 0) {
                    return;
                }
                if (random.nextInt(4) > 0 && s.id + i.id > 0) {
                    continue;
                }
                need(1);
                String got;
                try {
                    got = "" + desk.holds(s.id, i.id);
                } catch (UnsupportedOperationException e) {
                    got = "circle";
                }
                same("holds " + s.id + ", " + i.id, got,
                        circular ? "circle" : "" + plain.holds(s, i));
            }
        }
    }

    private static void compareJudging(PlainDesk plain, boolean circular) {
        boolean faulty = !plain.schema.faults.isEmpty() || !plain.document.faults.isEmpty();
        need(1);
        int count;
        try {
            count = desk.judge();
        } catch (IllegalStateException e) {
            count = -1;
        } catch (UnsupportedOperationException e) {
            count = -2;
        }
        if (faulty || circular) {
            same("judge", count, faulty ? -1 : -2);
            circles += faulty ? 0 : 1;
            return;
        }
        List<Integer> due = new ArrayList<>(plain.diagnostics());
        same("judge", count, due.size());
        judgedWithFindings += due.isEmpty() ? 0 : 1;
        for (int k = 0; k < Math.min(count, due.size()); k++) {
            need(4);
            if (calls == schema.length() + document.length() + 4) {
                desk.judge();
            }
            int got = desk.diagnostic(k, 1) * 65536 + desk.diagnostic(k, 2) * 256
                    + desk.diagnostic(k, 0);
            same("diagnostic " + k, got, due.get(k));
        }
    }

    private static void compareProposing(PlainDesk plain, boolean circular) {
        for (PlainDesk.Node i : plain.document.nodes) {
            if (i.kind != 6 || plain.schema.nodes.isEmpty()) {
                continue;
            }
            List<String> due = new ArrayList<>();
            if (!circular) {
                plain.proposals(i).forEach(name -> due.add("'" + name + "'"));
                proposedNames += due.size();
            }
            String all = String.join(" ", due);
            need(1 + 2 * all.length());
            String got;
            try {
                got = Check.proposals(desk, desk.propose(i.id));
            } catch (UnsupportedOperationException e) {
                got = "circle";
            }
            same("propose " + i.id, got, circular ? "circle" : all);
        }
    }
}
