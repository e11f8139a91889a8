import java.util.ArrayList;
import java.util.List;
import java.util.Random;

/** Compares SchemaDesk with PlainDesk on texts from a random source with a fixed seed. */
public final class RandomTest {
    private static final Check check = new Check();
    private static final Random random = new Random(20261115);
    private static final RandomTexts texts = new RandomTexts(random);
    private static final int MOST_CALLS = 512;

    private static SchemaDesk desk;
    private static int calls;
    private static String schema;
    private static String document;

    private static int judgedWithFindings;
    private static int circles;
    private static int proposedNames;

    public static void main(String[] args) {
        for (int round = 0; round < 6000; round++) {
            compare(texts.soup(160), texts.soup(80));
            compare(texts.spoiled(texts.fitting(160), 160), texts.spoiled(texts.fitting(80), 80));
            compare(texts.fitting(160), texts.fitting(80));
            compareOneDesk();
        }
        System.out.println("judged with findings " + judgedWithFindings + ", circles " + circles
                + ", proposed names " + proposedNames);
        check.same("judgings with findings are enough", judgedWithFindings > 1500, true);
        check.same("circles are enough", circles > 300, true);
        check.same("proposed names are enough", proposedNames > 1500, true);
        check.end();
    }

    /** An object is promised 512 calls: a desk that could run out of them is made anew. */
    private static void need(int n) {
        if (desk == null || calls + n > MOST_CALLS) {
            desk = Check.desk(schema, document);
            calls = schema.length() + document.length();
        }
        calls += n;
    }

    private static void same(String what, Object got, Object due) {
        check.same(what + " (schema " + schema + ", document " + document + ")", got, due);
    }

    private static void compare(String newSchema, String newDocument) {
        schema = newSchema;
        document = newDocument;
        desk = null;
        PlainDesk plain = new PlainDesk(schema, document);
        compareReading(0, plain.schema);
        compareReading(1, plain.document);
        boolean circular = plain.circular();
        compareHolding(plain, circular);
        compareJudging(plain, circular);
        compareProposing(plain, circular);
    }

    /** One desk whose texts are replaced again and again: nothing of the old ones may be left. */
    private static void compareOneDesk() {
        schema = texts.fitting(160);
        document = texts.fitting(80);
        desk = null;
        for (int round = 0; round < 5; round++) {
            PlainDesk plain = new PlainDesk(schema, document);
            boolean circular = plain.circular();
            compareNumbers(0, plain.schema);
            compareNumbers(1, plain.document);
            compareHolding(plain, circular);
            compareJudging(plain, circular);
            compareProposing(plain, circular);
            replace(random.nextInt(2));
        }
    }

    private static void replace(int t) {
        String text = texts.fitting(t == 0 ? 160 : 80);
        need(1 + text.length());
        desk.remove(t, 0, (t == 0 ? schema : document).length());
        Check.fill(desk, t, text);
        schema = t == 0 ? text : schema;
        document = t == 1 ? text : document;
    }

    private static void compareNumbers(int t, PlainDesk.Reading due) {
        for (PlainDesk.Node node : due.nodes) {
            need(1);
            same("number of node " + node.id + " of " + t, desk.node(t, node.id, 6), node.number);
        }
    }

    private static void compareReading(int t, PlainDesk.Reading due) {
        need(2);
        same("nodes of " + t, desk.nodes(t), due.nodes.size());
        same("faults of " + t, desk.faults(t), due.faults.size());
        for (int k = 0; k < due.faults.size(); k++) {
            need(1);
            same("fault " + k + " of " + t, desk.fault(t, k), due.faults.get(k));
        }
        for (PlainDesk.Node node : due.nodes) {
            int parent = node.parent == null ? -1 : node.parent.id;
            int[] row = {
                node.kind, node.from, node.to, parent, node.children.size(), node.namePlace,
                node.number,
            };
            need(row.length);
            for (int what = 0; what < row.length; what++) {
                same("node " + node.id + ", " + what + " of " + t, desk.node(t, node.id, what),
                        row[what]);
            }
        }
    }

    private static void compareHolding(PlainDesk plain, boolean circular) {
        for (PlainDesk.Node s : plain.schema.nodes) {
            for (PlainDesk.Node i : plain.document.nodes) {
                if (circular && s.id + i.id > 0) {
                    return;
                }
                if (random.nextInt(4) > 0 && s.id + i.id > 0) {
                    continue;
                }
                need(1);
                String got;
                try {
                    got = "" + desk.holds(s.id, i.id);
                } catch (UnsupportedOperationException e) {
                    got = "circle";
                }
                same("holds " + s.id + ", " + i.id, got,
                        circular ? "circle" : "" + plain.holds(s, i));
            }
        }
    }

    private static void compareJudging(PlainDesk plain, boolean circular) {
        boolean faulty = !plain.schema.faults.isEmpty() || !plain.document.faults.isEmpty();
        need(1);
        int count;
        try {
            count = desk.judge();
        } catch (IllegalStateException e) {
            count = -1;
        } catch (UnsupportedOperationException e) {
            count = -2;
        }
        if (faulty || circular) {
            same("judge", count, faulty ? -1 : -2);
            circles += faulty ? 0 : 1;
            return;
        }
        List<Integer> due = new ArrayList<>(plain.diagnostics());
        same("judge", count, due.size());
        judgedWithFindings += due.isEmpty() ? 0 : 1;
        for (int k = 0; k < Math.min(count, due.size()); k++) {
            need(4);
            if (calls == schema.length() + document.length() + 4) {
                desk.judge();
            }
            int got = desk.diagnostic(k, 1) * 65536 + desk.diagnostic(k, 2) * 256
                    + desk.diagnostic(k, 0);
            same("diagnostic " + k, got, due.get(k));
        }
    }

    private static void compareProposing(PlainDesk plain, boolean circular) {
        for (PlainDesk.Node i : plain.document.nodes) {
            if (i.kind != 6 || plain.schema.nodes.isEmpty()) {
                continue;
            }
            List<String> due = new ArrayList<>();
            if (!circular) {
                plain.proposals(i).forEach(name -> due.add("'" + name + "'"));
                proposedNames += due.size();
            }
            String all = String.join(" ", due);
            need(1 + 2 * all.length());
            String got;
            try {
                got = Check.proposals(desk, desk.propose(i.id));
            } catch (UnsupportedOperationException e) {
                got = "circle";
            }
            same("propose " + i.id, got, circular ? "circle" : all);
        }
    }
}
