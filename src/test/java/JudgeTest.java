import java.util.NoSuchElementException;

/** Promises 13 and 14: judging, and the diagnostics of it. */
public final class JudgeTest {
    private static final Check check = new Check();

    public static void main(String[] args) {
        nothingWrong();
        eachCode();
        reportedInside();
        orderAndOnce();
        manyDiagnostics();
        latestJudging();
        againOnOneDesk();
        wrongArguments();
        check.end();
    }

    private static void judged(String schema, String document, String due) {
        check.same("diagnostics of " + schema + " for " + document,
                Check.judged(schema, document), due);
    }

    private static void nothingWrong() {
        judged("{}", "1", "");
        judged("null", "1", "");
        judged("{\"type\":\"number\",\"min\":1}", "1", "");
        judged("{\"not\":false}", "1", "");
    }

    private static void eachCode() {
        judged("false", "1", "0/0/0");
        judged("{\"type\":\"null\"}", "1", "1/0/1");
        judged("{\"const\":2}", "1", "2/0/1");
        judged("{\"const\":false}", "1", "2/0/1");
        judged("{\"enum\":[2,3]}", "1", "3/0/1");
        judged("{\"min\":2,\"max\":0}", "1", "4/0/1 5/0/2");
        judged("{\"multiple\":2}", "1", "6/0/1");
        judged("{\"minlength\":2}", "\"a\"", "7/0/1");
        judged("{\"maxlength\":0}", "\"a\"", "8/0/1");
        judged("{\"minitems\":2}", "[1]", "9/0/1");
        judged("{\"maxitems\":0}", "[1]", "10/0/1");
        judged("{\"required\":[\"a\",\"b\"]}", "{}", "11/0/1");
        judged("{\"properties\":{\"a\":false}}", "{\"a\":1}", "0/1/2");
        judged("{\"additional\":false}", "{\"a\":1,\"b\":2}", "0/1/1 0/2/1");
        judged("{\"items\":false}", "[1,2]", "0/1/1 0/2/1");
        judged("{\"allof\":[true,false,{\"min\":2}]}", "1", "0/0/3 4/0/5");
        judged("{\"anyof\":[false,{\"min\":2}]}", "1", "16/0/1");
        judged("{\"oneof\":[true,{\"min\":1}]}", "1", "17/0/1");
        judged("{\"oneof\":[false]}", "1", "17/0/1");
        judged("{\"not\":{\"min\":1}}", "1", "18/0/1");
        judged("{\"ref\":\"#a\"}", "1", "19/0/1");
        judged("{\"ref\":\"#a\",\"defs\":{\"a\":false}}", "1", "0/0/3");
        judged("{\"ref\":\"#a\",\"defs\":{\"a\":{\"min\":2}}}", "1", "4/0/4");
        judged("{\"unevaluated\":false}", "{\"a\":1}", "0/1/1");
    }

    private static void reportedInside() {
        judged("{\"properties\":{\"a\":{\"min\":3},\"b\":{\"min\":3}},\"additional\":{\"max\":0}}",
                "{\"a\":3,\"b\":2,\"c\":1}", "4/2/5 5/3/7");
        judged("{\"items\":{\"items\":{\"type\":\"null\"}}}", "[[null,1],2,[[]]]", "1/3/3 1/6/3");
        judged("{\"unevaluated\":{\"max\":1},\"properties\":{\"a\":{\"max\":2}}}",
                "{\"a\":3,\"b\":2,\"c\":1}", "5/1/5 5/2/2");
        judged("{\"allof\":[{\"anyof\":[false]},{\"not\":1}]}", "1", "16/0/3 18/0/6");
        judged("{\"items\":{\"ref\":\"#\"},\"max\":3}", "[[4,3],5]", "5/2/3 5/4/3");
        // A failing member doesn't make its evaluation undone.
        judged("{\"unevaluated\":false,\"properties\":{\"a\":false}}", "{\"a\":1}", "0/1/3");
        // What an allof that doesn't hold would evaluate is left to unevaluated.
        judged("{\"unevaluated\":false,\"allof\":[{\"properties\":{\"a\":false}}]}", "{\"a\":1}",
                "0/1/1 0/1/5");
    }

    private static void orderAndOnce() {
        judged("{\"max\":0,\"allof\":[{\"ref\":\"#a\"},{\"ref\":\"#a\"}],\"defs\":{\"a\":"
                + "{\"min\":2}},\"ref\":\"#a\"}", "1", "5/0/1 4/0/9");
        judged("{\"properties\":{\"a\":{\"ref\":\"#n\"}},\"required\":[\"z\"],\"defs\":{\"n\":"
                + "false},\"additional\":{\"ref\":\"#n\"}}", "{\"b\":1,\"a\":2}",
                "11/0/4 0/1/7 0/2/7");
        judged("{\"additional\":{\"max\":0},\"min\":1,\"required\":[\"q\"],\"not\":{}}",
                "{\"a\":{},\"b\":5}", "11/0/4 18/0/6 5/2/2");
    }

    private static void manyDiagnostics() {
        StringBuilder schema = new StringBuilder("{\"items\":{\"allof\":[false");
        for (int k = 1; k < 22; k++) {
            schema.append(",false");
        }
        SchemaDesk desk = Check.desk(schema.append("]}}").toString(),
                "[" + "1,".repeat(38) + "1]");
        int count = desk.judge();
        check.same("many diagnostics", count, 22 * 39);
        for (int k : new int[] {0, 21, 22, 63, 64, 127, 128, 500, count - 1}) {
            check.same("code " + k, desk.diagnostic(k, 0), 0);
            check.same("document node " + k, desk.diagnostic(k, 1), 1 + k / 22);
            check.same("schema node " + k, desk.diagnostic(k, 2), 3 + k % 22);
        }
    }

    private static void latestJudging() {
        SchemaDesk desk = Check.desk("{\"items\":{\"max\":5}}", "[9,8,2]");
        check.same("first", Check.judged(desk), "5/1/2 5/2/2");
        desk.remove(1, 1, 2);
        check.same("behind a change", Check.diagnostics(desk, 2), "5/1/2 5/2/2");
        desk.insert(1, 2, ',');
        desk.insert(1, 3, ',');
        check.throwing("faults in the document", IllegalStateException.class, desk::judge);
        check.same("behind a throw", Check.diagnostics(desk, 2), "5/1/2 5/2/2");
        desk.remove(1, 2, 2);
        check.same("second", Check.judged(desk), "5/1/2");
        check.throwing("one is left", NoSuchElementException.class, () -> desk.diagnostic(1, 0));
        desk.remove(1, 1, 2);
        check.same("third", desk.judge(), 0);
        check.throwing("none is left", NoSuchElementException.class, () -> desk.diagnostic(0, 0));
    }

    private static void againOnOneDesk() {
        SchemaDesk desk = Check.desk("{\"items\":false}", "[1,2]");
        check.same("both", Check.judged(desk), "0/1/1 0/2/1");
        desk.remove(1, 0, 5);
        Check.fill(desk, 1, "[1]");
        check.same("one", Check.judged(desk), "0/1/1");
        desk.remove(1, 0, 3);
        Check.fill(desk, 1, "{\"a\":1,\"b\":1}");
        check.same("none", Check.judged(desk), "");
        desk.remove(0, 0, 15);
        Check.fill(desk, 0, "{\"unevaluated\":false,\"additional\":1}");
        check.same("evaluated", Check.judged(desk), "");
        desk.remove(0, 20, 15);
        check.same("no longer evaluated", Check.judged(desk), "0/1/1 0/2/1");
    }

    private static void wrongArguments() {
        check.throwing("empty", IllegalStateException.class, () -> new SchemaDesk().judge());
        check.throwing("no document", IllegalStateException.class,
                () -> Check.desk("{}", "").judge());
        check.throwing("no schema", IllegalStateException.class,
                () -> Check.desk("", "1").judge());
        check.throwing("fault in the schema", IllegalStateException.class,
                () -> Check.desk("{,}", "1").judge());
        check.throwing("circle", UnsupportedOperationException.class,
                () -> Check.desk("{\"ref\":\"#\"}", "1").judge());
        check.throwing("circle that is not reached", UnsupportedOperationException.class,
                () -> Check.desk("{\"defs\":{\"a\":{\"ref\":\"#a\"}}}", "1").judge());
        check.throwing("circle and fault", IllegalStateException.class,
                () -> Check.desk("{\"ref\":\"#\"}", "1 1").judge());
        SchemaDesk desk = Check.desk("false", "1");
        desk.judge();
        check.throwing("what 3", IllegalArgumentException.class, () -> desk.diagnostic(9, 3));
        check.throwing("what -1", IllegalArgumentException.class, () -> desk.diagnostic(0, -1));
        check.throwing("k 1", NoSuchElementException.class, () -> desk.diagnostic(1, 0));
        check.throwing("k -1", NoSuchElementException.class, () -> desk.diagnostic(-1, 2));
        check.same("still there", Check.diagnostics(desk, 1), "0/0/0");
        desk.remove(0, 0, 5);
        Check.fill(desk, 0, "{\"ref\":\"#\"}");
        check.throwing("now a circle", UnsupportedOperationException.class, desk::judge);
        check.same("still there", Check.diagnostics(desk, 1), "0/0/0");
    }
}
