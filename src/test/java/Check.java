import java.util.NoSuchElementException;
import java.util.function.IntConsumer;

/** What the tests share: desks with texts on them, and answers compared with those due. */
final class Check {
    interface Call {
        void run();
    }

    private int wrong;
    private String sentence = "";

    /** The sentence of the document that the answers checked from here on are about. */
    void about(String words) {
        sentence = "[" + words + "] ";
    }

    static SchemaDesk desk(String schema, String document) {
        SchemaDesk desk = new SchemaDesk();
        fill(desk, 0, schema);
        fill(desk, 1, document);
        return desk;
    }

    static void fill(SchemaDesk desk, int t, String text) {
        for (int k = 0; k < text.length(); k++) {
            if (!desk.type(t, text.charAt(k))) {
                throw new AssertionError("text " + t + " does not take: " + text);
            }
        }
    }

    static String text(SchemaDesk desk, int t) {
        StringBuilder text = new StringBuilder();
        int length = desk.length(t);
        for (int at = 0; at < length; at++) {
            text.append(desk.letter(t, at));
        }
        return text.toString();
    }

    /** Each fault as number@place. */
    static String faults(SchemaDesk desk, int t) {
        StringBuilder all = new StringBuilder();
        int count = desk.faults(t);
        for (int k = 0; k < count; k++) {
            int fault = desk.fault(t, k);
            all.append(k == 0 ? "" : " ").append(fault % 16).append('@').append(fault / 16);
        }
        return all.toString();
    }

    /** Each node as kind/from/to/parent/children/name/number. */
    static String nodes(SchemaDesk desk, int t) {
        StringBuilder all = new StringBuilder();
        int count = desk.nodes(t);
        for (int k = 0; k < count; k++) {
            all.append(k == 0 ? "" : " ");
            for (int what = 0; what < 7; what++) {
                all.append(what == 0 ? "" : "/").append(desk.node(t, k, what));
            }
        }
        return all.toString();
    }

    /** Each diagnostic of the latest judge() as code/document node/schema node. */
    static String diagnostics(SchemaDesk desk, int count) {
        StringBuilder all = new StringBuilder();
        for (int k = 0; k < count; k++) {
            all.append(k == 0 ? "" : " ").append(desk.diagnostic(k, 0));
            all.append('/').append(desk.diagnostic(k, 1)).append('/').append(desk.diagnostic(k, 2));
        }
        return all.toString();
    }

    static String judged(SchemaDesk desk) {
        return diagnostics(desk, desk.judge());
    }

    static String judged(String schema, String document) {
        return judged(desk(schema, document));
    }

    /** The names of the latest propose(), each in '. */
    static String proposals(SchemaDesk desk, int count) {
        StringBuilder all = new StringBuilder();
        for (int k = 0; k < count; k++) {
            all.append(k == 0 ? "'" : " '");
            int c = desk.proposal(k, 0);
            for (int j = 1; c != SchemaDesk.NONE && j <= 161; j++) {
                all.append((char) c);
                c = desk.proposal(k, j);
            }
            all.append('\'');
        }
        return all.toString();
    }

    static String proposed(String schema, String document, int i) {
        SchemaDesk desk = desk(schema, document);
        return proposals(desk, desk.propose(i));
    }

    /** Kind and from of each node, for tests in which the rest doesn't matter. */
    static String kinds(SchemaDesk desk, int t) {
        StringBuilder all = new StringBuilder();
        int count = desk.nodes(t);
        for (int k = 0; k < count; k++) {
            all.append(k == 0 ? "" : " ").append(desk.node(t, k, 0)).append('@');
            all.append(desk.node(t, k, 1));
        }
        return all.toString();
    }

    /** All that a desk answers without being changed: texts, nodes, faults, the latest results. */
    static String everything(SchemaDesk desk) {
        StringBuilder all = new StringBuilder();
        for (int t = 0; t < 2; t++) {
            all.append(text(desk, t)).append(" | ").append(nodes(desk, t)).append(" | ");
            all.append(faults(desk, t)).append(" | ");
        }
        return all.append(latestDiagnostics(desk)).append(" | ").append(latestProposals(desk))
                .toString();
    }

    static String latestDiagnostics(SchemaDesk desk) {
        return diagnostics(desk, countUntilThrown(k -> desk.diagnostic(k, 0)));
    }

    static String latestProposals(SchemaDesk desk) {
        return proposals(desk, countUntilThrown(k -> desk.proposal(k, 0)));
    }

    /** Bounded, so that a desk that never says that it has no more makes a test fail, not hang. */
    private static int countUntilThrown(IntConsumer call) {
        for (int k = 0; k < 200; k++) {
            try {
                call.accept(k);
            } catch (NoSuchElementException e) {
                return k;
            }
        }
        throw new AssertionError("no end of the latest results");
    }

    void same(String what, Object got, Object due) {
        if (!got.equals(due)) {
            wrong++;
            System.out.println(sentence + what + " answered " + got + ", due is " + due);
        }
    }

    void throwing(String what, Class<? extends RuntimeException> due, Call call) {
        String got = "nothing";
        try {
            call.run();
        } catch (RuntimeException e) {
            got = e.getClass().getSimpleName();
        }
        same(what + " throws", got, due.getSimpleName());
    }

    void end() {
        if (wrong > 0) {
            System.exit(1);
        }
    }
}
