import java.util.ArrayList;
import java.util.List;
import java.util.NoSuchElementException;

/** The calls of the document's face over PlainDesk, with all that they refuse. */
public final class PlainCalls {
    private static final int[] LIMITS = {160, 80};
    private static final String[] WORDS = {
        "", "type", "const", "enum", "min", "max", "multiple", "minlength", "maxlength", "minitems",
        "maxitems", "required", "properties", "additional", "items", "allof", "anyof", "oneof",
        "not", "ref", "unevaluated", "defs", "null", "boolean", "number", "string", "array",
        "object",
    };
    private final StringBuilder[] texts = {new StringBuilder(), new StringBuilder()};
    private PlainDesk read;
    private List<Integer> diagnostics = new ArrayList<>();
    private List<String> proposals = new ArrayList<>();

    public boolean type(int t, char c) {
        if (t < 0 || t > 1 || c < 32 || c > 126 || texts[t].length() == LIMITS[t]) {
            return false;
        }
        texts[t].append(c);
        read = null;
        return true;
    }

    public boolean word(int t, int w) {
        if (t < 0 || t > 1 || w < 1 || w > 27) {
            return false;
        }
        String word = "\"" + WORDS[w] + "\"" + (w <= 21 ? ":" : "");
        if (texts[t].length() + word.length() > LIMITS[t]) {
            return false;
        }
        texts[t].append(word);
        read = null;
        return true;
    }

    public void insert(int t, int at, char c) {
        needText(t);
        argument(c >= 32 && c <= 126);
        index(at >= 0 && at <= texts[t].length());
        if (texts[t].length() == LIMITS[t]) {
            throw new IllegalStateException();
        }
        texts[t].insert(at, c);
        read = null;
    }

    public void remove(int t, int at, int n) {
        needText(t);
        argument(n >= 0);
        index(at >= 0 && (long) at + n <= texts[t].length());
        texts[t].delete(at, at + n);
        read = null;
    }

    public int length(int t) {
        needText(t);
        return texts[t].length();
    }

    public char letter(int t, int at) {
        needText(t);
        index(at >= 0 && at < texts[t].length());
        return texts[t].charAt(at);
    }

    public int nodes(int t) {
        needText(t);
        return reading(t).nodes.size();
    }

    public int node(int t, int k, int what) {
        needText(t);
        argument(what >= 0 && what <= 6);
        element(k >= 0 && k < nodes(t));
        PlainDesk.Node node = reading(t).nodes.get(k);
        int parent = node.parent == null ? -1 : node.parent.id;
        return List.of(node.kind, node.from, node.to, parent, node.children.size(),
                node.namePlace, node.number).get(what);
    }

    public int faults(int t) {
        needText(t);
        return reading(t).faults.size();
    }

    public int fault(int t, int k) {
        needText(t);
        element(k >= 0 && k < faults(t));
        return reading(t).faults.get(k);
    }

    public boolean holds(int s, int i) {
        element(s >= 0 && s < nodes(0) && i >= 0 && i < nodes(1));
        noCircle();
        return desk().holds(reading(0).nodes.get(s), reading(1).nodes.get(i));
    }

    public int judge() {
        if (faults(0) + faults(1) > 0) {
            throw new IllegalStateException();
        }
        noCircle();
        diagnostics = new ArrayList<>(desk().diagnostics());
        return diagnostics.size();
    }

    public int diagnostic(int k, int what) {
        argument(what >= 0 && what <= 2);
        element(k >= 0 && k < diagnostics.size());
        int all = diagnostics.get(k);
        return List.of(all % 256, all / 65536, all / 256 % 256).get(what);
    }

    public int propose(int i) {
        element(i >= 0 && i < nodes(1) && node(1, i, 0) == 6 && nodes(0) > 0);
        noCircle();
        proposals = new ArrayList<>(desk().proposals(reading(1).nodes.get(i)));
        return proposals.size();
    }

    public int proposal(int k, int j) {
        element(k >= 0 && k < proposals.size() && j >= 0);
        return j < proposals.get(k).length() ? proposals.get(k).charAt(j) : -1;
    }

    /** How many results the latest propose() or judge() had, for a walk to choose among. */
    int latest(boolean judged) {
        return judged ? diagnostics.size() : proposals.size();
    }

    String text(int t) {
        return texts[t].toString();
    }

    private PlainDesk desk() {
        if (read == null) {
            read = new PlainDesk(text(0), text(1));
        }
        return read;
    }

    private PlainDesk.Reading reading(int t) {
        return t == 0 ? desk().schema : desk().document;
    }

    private void noCircle() {
        if (desk().circular()) {
            throw new UnsupportedOperationException();
        }
    }

    private static void needText(int t) {
        argument(t == 0 || t == 1);
    }

    private static void argument(boolean right) {
        if (!right) {
            throw new IllegalArgumentException();
        }
    }

    private static void index(boolean right) {
        if (!right) {
            throw new IndexOutOfBoundsException();
        }
    }

    private static void element(boolean right) {
        if (!right) {
            throw new NoSuchElementException();
        }
    }
}
