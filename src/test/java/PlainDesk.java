import java.util.ArrayList;
import java.util.HashSet;
import java.util.List;
import java.util.Set;
import java.util.TreeSet;

/**
 * The document's terms once more, word by word and with recursion, from two texts that don't
 * change: what RandomTest compares SchemaDesk with.
 */
final class PlainDesk {
    static final class Node {
        int id;
        int kind;
        int from;
        int to;
        Node parent;
        final List<Node> children = new ArrayList<>();
        String name;
        int namePlace = -1;
        int number;
        String string = "";

        /** The first child of a name, or null. */
        Node get(String wanted) {
            if (kind == 6) {
                for (Node child : children) {
                    if (child.name.equals(wanted)) {
                        return child;
                    }
                }
            }
            return null;
        }
    }

    static final class Reading {
        final List<Node> nodes = new ArrayList<>();
        final List<Integer> faults = new ArrayList<>();
        private final String text;
        private int at;

        Reading(String text) {
            this.text = text;
            blanks();
            while (at < text.length() && !begins(0)) {
                fault(3, at);
                at++;
                blanks();
            }
            if (at == text.length()) {
                fault(1, at);
                return;
            }
            value(null, null, -1, 0);
            blanks();
            if (at < text.length()) {
                fault(2, at);
            }
        }

        private void fault(int number, int place) {
            faults.add(number + 16 * place);
        }

        private char here() {
            return at < text.length() ? text.charAt(at) : 0;
        }

        private void blanks() {
            while (here() == ' ') {
                at++;
            }
        }

        private boolean begins(int open) {
            String c = at < text.length() ? text.substring(at, at + 1) : "";
            return c.matches("[\"0-9a-z-]") || c.matches("[\\[{]") && open < 8;
        }

        private String quoted() {
            int from = at;
            int end = text.indexOf('"', from + 1);
            if (end < 0) {
                fault(4, from);
                at = text.length();
                return text.substring(from + 1);
            }
            at = end + 1;
            return text.substring(from + 1, end);
        }

        private String run(String pattern) {
            int from = at;
            while (at < text.length() && text.substring(at, at + 1).matches(pattern)) {
                at++;
            }
            return text.substring(from, at);
        }

        private void value(Node parent, String name, int namePlace, int open) {
            Node node = new Node();
            node.id = nodes.size();
            node.from = at;
            node.parent = parent;
            node.name = name;
            node.namePlace = namePlace;
            nodes.add(node);
            if (parent != null) {
                parent.children.add(node);
            }
            char c = here();
            if (c == '"') {
                node.kind = 4;
                node.string = quoted();
            } else if (c == '[' || c == '{') {
                node.kind = c == '[' ? 5 : 6;
                at++;
                inside(node, open + 1);
            } else if (c >= 'a' && c <= 'z') {
                String letters = run("[a-z]");
                node.kind = letters.equals("false") ? 1 : letters.equals("true") ? 2 : 0;
                if (node.kind == 0 && !letters.equals("null")) {
                    fault(7, node.from);
                }
            } else {
                node.kind = 3;
                if (c == '-') {
                    at++;
                }
                number(node, run("[0-9]"), c == '-' ? -1 : 1);
            }
            node.to = at;
        }

        private void number(Node node, String digits, int sign) {
            if (digits.isEmpty()) {
                fault(5, node.from);
                return;
            }
            if (digits.length() > 6) {
                fault(6, node.from);
            }
            node.number = sign * Integer.parseInt(digits.substring(0, Math.min(6, digits.length())));
        }

        private void inside(Node node, int open) {
            boolean object = node.kind == 6;
            // What was passed last, other than wrong characters.
            char last = '(';
            while (true) {
                blanks();
                if (at == text.length()) {
                    fault(4, node.from);
                    return;
                }
                char c = here();
                if (c == (object ? '}' : ']')) {
                    if (last == ',') {
                        fault(10, at);
                    }
                    at++;
                    return;
                } else if (c == ',') {
                    if (last != 'v') {
                        fault(8, at);
                    }
                    at++;
                    last = ',';
                } else if (object ? c == '"' : begins(open)) {
                    if (last == 'v') {
                        fault(9, at);
                    }
                    if (object) {
                        member(node, open);
                    } else {
                        value(node, null, -1, open);
                    }
                    last = 'v';
                } else {
                    fault((c == '[' || c == '{') && open == 8 ? 14 : 3, at);
                    at++;
                }
            }
        }

        private void member(Node node, int open) {
            int place = at;
            String name = quoted();
            if (node.get(name) != null) {
                fault(13, place);
            }
            blanks();
            if (here() == ':') {
                at++;
            } else {
                fault(11, at);
            }
            blanks();
            if (begins(open)) {
                value(node, name, place, open);
            } else {
                fault(12, at);
            }
        }
    }

    final Reading schema;
    final Reading document;

    PlainDesk(String schema, String document) {
        this.schema = new Reading(schema);
        this.document = new Reading(document);
    }

    private static boolean same(Node a, Node b) {
        if (a.kind != b.kind || a.number != b.number || !a.string.equals(b.string)
                || a.children.size() != b.children.size()) {
            return false;
        }
        for (int k = 0; k < a.children.size(); k++) {
            Node child = a.children.get(k);
            Node other = a.kind == 6 ? b.get(child.name) : b.children.get(k);
            if (other == null || !same(child, other)) {
                return false;
            }
        }
        return true;
    }

    /** A child of s by its name, if it is of one of the kinds. */
    private static Node said(Node s, String name, int... kinds) {
        Node v = s.get(name);
        for (int kind : kinds) {
            if (v != null && v.kind == kind) {
                return v;
            }
        }
        return kinds.length == 0 ? v : null;
    }

    private static boolean isOf(Node i, String type) {
        String[] names = {"null", "boolean", "boolean", "number", "string", "array", "object"};
        return names[i.kind].equals(type);
    }

    Node target(Node ref) {
        if (ref.string.equals("#")) {
            return schema.nodes.get(0);
        }
        Node defs = said(schema.nodes.get(0), "defs", 6);
        return ref.string.startsWith("#") && defs != null ? defs.get(ref.string.substring(1)) : null;
    }

    /** What the child of s with the number k asks: pairs of nodes, each of which has to hold. */
    private List<Node[]> asked(Node s, int k, Node i) {
        List<Node[]> pairs = new ArrayList<>();
        Node properties = said(s, "properties", 6);
        Set<Node> done = k == 20 && i.kind == 6 ? evaluatedByOthers(s, i) : Set.of();
        for (Node c : i.children) {
            Node own = i.kind == 6 && properties != null ? properties.get(c.name) : null;
            if (k == 12 && own != null) {
                pairs.add(new Node[] {own, c});
            }
            if (k == 13 && i.kind == 6 && own == null && s.get("additional") != null) {
                pairs.add(new Node[] {s.get("additional"), c});
            }
            if (k == 14 && i.kind == 5 && s.get("items") != null) {
                pairs.add(new Node[] {s.get("items"), c});
            }
            if (k == 20 && i.kind == 6 && s.get("unevaluated") != null && !done.contains(c)) {
                pairs.add(new Node[] {s.get("unevaluated"), c});
            }
        }
        return pairs;
    }

    private List<Node> inPlace(Node s, String... names) {
        List<Node> all = new ArrayList<>();
        for (String name : names) {
            Node v = name.equals("ref") ? said(s, name, 4) : said(s, name, 5);
            if (v != null && v.kind == 5) {
                all.addAll(v.children);
            } else if (v != null && target(v) != null) {
                all.add(target(v));
            }
        }
        return all;
    }

    private Set<Node> evaluatedByOthers(Node s, Node i) {
        Set<Node> all = new HashSet<>();
        for (int k = 12; k <= 13; k++) {
            for (Node[] pair : asked(s, k, i)) {
                all.add(pair[1]);
            }
        }
        for (Node sub : inPlace(s, "allof", "anyof", "oneof", "ref")) {
            if (sub.kind == 6 && holds(sub, i)) {
                all.addAll(sub.get("unevaluated") != null
                        ? i.children : evaluatedByOthers(sub, i));
            }
        }
        return all;
    }

    boolean holds(Node s, Node i) {
        if (s.kind != 6) {
            return s.kind != 1;
        }
        for (int k = 1; k <= 20; k++) {
            if (!isSo(s, k, i)) {
                return false;
            }
        }
        return true;
    }

    private int countHeld(Node array, Node i) {
        int count = 0;
        for (Node sub : array.children) {
            count += holds(sub, i) ? 1 : 0;
        }
        return count;
    }

    private static final String[] NAMES = {
        "", "type", "const", "enum", "min", "max", "multiple", "minlength", "maxlength", "minitems",
        "maxitems", "required", "properties", "additional", "items", "allof", "anyof", "oneof",
        "not", "ref", "unevaluated",
    };

    private boolean isSo(Node s, int k, Node i) {
        Node v = s.get(NAMES[k]);
        if (v == null) {
            return true;
        }
        int measured = k <= 6 ? i.number : k <= 8 ? i.string.length() : i.children.size();
        int neededKind = k <= 6 ? 3 : k <= 8 ? 4 : 5;
        boolean measurable = v.kind == 3 && i.kind == neededKind;
        switch (k) {
            case 1:
                return v.kind == 4 ? isOf(i, v.string) : v.kind != 5 || v.children.stream()
                        .anyMatch(x -> x.kind == 4 && isOf(i, x.string));
            case 2: return same(v, i);
            case 3: return v.kind != 5 || v.children.stream().anyMatch(x -> same(x, i));
            case 4: case 7: case 9: return !measurable || measured >= v.number;
            case 5: case 8: case 10: return !measurable || measured <= v.number;
            case 6: return !measurable || v.number <= 0 || measured % v.number == 0;
            case 11:
                return v.kind != 5 || i.kind != 6 || v.children.stream()
                        .allMatch(x -> x.kind != 4 || i.get(x.string) != null);
            case 15: return v.kind != 5 || countHeld(v, i) == v.children.size();
            case 16: return v.kind != 5 || countHeld(v, i) >= 1;
            case 17: return v.kind != 5 || countHeld(v, i) == 1;
            case 18: return !holds(v, i);
            case 19: return v.kind != 4 || target(v) != null && holds(target(v), i);
            default: return asked(s, k, i).stream().allMatch(p -> holds(p[0], p[1]));
        }
    }

    boolean circular() {
        for (Node s : schema.nodes) {
            if (comesTo(s, s, new HashSet<>())) {
                return true;
            }
        }
        return false;
    }

    private boolean comesTo(Node from, Node goal, Set<Node> seen) {
        List<Node> next = inPlace(from, "allof", "anyof", "oneof", "ref");
        if (from.get("not") != null) {
            next.add(from.get("not"));
        }
        for (Node n : next) {
            if (n == goal || seen.add(n) && comesTo(n, goal, seen)) {
                return true;
            }
        }
        return false;
    }

    /** Each diagnostic as document node * 2^16 + schema node * 2^8 + code, in order. */
    TreeSet<Integer> diagnostics() {
        TreeSet<Integer> found = new TreeSet<>();
        report(schema.nodes.get(0), document.nodes.get(0), found);
        return found;
    }

    private void report(Node s, Node i, Set<Integer> found) {
        if (holds(s, i)) {
            return;
        }
        if (s.kind == 1) {
            found.add(i.id * 65536 + s.id * 256);
            return;
        }
        for (int k = 1; k <= 20; k++) {
            if (isSo(s, k, i)) {
                continue;
            }
            Node v = s.get(NAMES[k]);
            if (k == 12 || k == 13 || k == 14 || k == 20) {
                asked(s, k, i).forEach(p -> report(p[0], p[1], found));
            } else if (k == 15 || k == 19 && target(v) != null) {
                inPlace(s, NAMES[k]).forEach(n -> report(n, i, found));
            } else {
                found.add(i.id * 65536 + v.id * 256 + k);
            }
        }
    }

    TreeSet<String> proposals(Node wanted) {
        TreeSet<String> names = new TreeSet<>();
        reach(schema.nodes.get(0), document.nodes.get(0), wanted, names);
        return names;
    }

    private void reach(Node s, Node i, Node wanted, Set<String> names) {
        Node properties = said(s, "properties", 6);
        if (i == wanted && properties != null) {
            for (Node p : properties.children) {
                if (i.get(p.name) == null) {
                    names.add(p.name);
                }
            }
        }
        for (int k = 12; k <= 14; k++) {
            for (Node[] pair : asked(s, k, i)) {
                reach(pair[0], pair[1], wanted, names);
            }
        }
        for (Node sub : inPlace(s, "allof", "anyof", "oneof", "ref")) {
            reach(sub, i, wanted, names);
        }
    }
}
