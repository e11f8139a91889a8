import java.util.NoSuchElementException;

/** Promises 15 and 16: names that could stand in the document. */
public final class ProposeTest {
    private static final Check check = new Check();

    public static void main(String[] args) {
        namesOfProperties();
        reached();
        notReached();
        inOrder();
        withFaults();
        fullText();
        againOnOneDesk();
        latestProposing();
        wrongArguments();
        check.end();
    }

    private static void proposed(String schema, String document, int i, String due) {
        check.same("proposals of " + schema + " for " + i + " of " + document,
                Check.proposed(schema, document, i), due);
    }

    private static void namesOfProperties() {
        proposed("{\"properties\":{\"a\":1,\"b\":{}}}", "{}", 0, "'a' 'b'");
        proposed("{\"properties\":{\"a\":1,\"b\":{}}}", "{\"a\":1}", 0, "'b'");
        proposed("{\"properties\":{\"a\":1}}", "{\"a\":1}", 0, "");
        proposed("{\"properties\":{\"\":1}}", "{\"a\":1}", 0, "''");
        proposed("{\"properties\":[\"a\"]}", "{}", 0, "");
        proposed("true", "{}", 0, "");
        proposed("false", "{}", 0, "");
        proposed("{\"properties\":{\"a\":{\"properties\":{\"b\":1}}}}", "{}", 0, "'a'");
        // A node that doesn't hold is reached nevertheless.
        proposed("{\"type\":\"null\",\"properties\":{\"a\":1}}", "{}", 0, "'a'");
    }

    private static void reached() {
        String b = "{\"properties\":{\"b\":1}}";
        proposed("{\"properties\":{\"a\":" + b + "}}", "{\"a\":{}}", 1, "'b'");
        proposed("{\"properties\":{\"a\":" + b + "}}", "{\"a\":{},\"a\":{}}", 2, "'b'");
        proposed("{\"additional\":" + b + "}", "{\"a\":{}}", 1, "'b'");
        proposed("{\"items\":" + b + "}", "[1,{}]", 2, "'b'");
        proposed("{\"allof\":[1," + b + "]}", "{}", 0, "'b'");
        proposed("{\"anyof\":[1," + b + "]}", "{}", 0, "'b'");
        proposed("{\"oneof\":[1," + b + "]}", "{}", 0, "'b'");
        proposed("{\"ref\":\"#x\",\"defs\":{\"x\":" + b + "}}", "{}", 0, "'b'");
        proposed("{\"properties\":{\"k\":{\"ref\":\"#\"},\"v\":1}}", "{\"k\":{\"k\":{\"v\":1}}}", 2,
                "'k'");
        proposed("{\"items\":{\"items\":{\"allof\":[{\"anyof\":[" + b + "]}]}}}", "[[1],[{}]]", 4,
                "'b'");
    }

    private static void notReached() {
        String b = "{\"properties\":{\"b\":1}}";
        proposed("{\"not\":" + b + "}", "{}", 0, "");
        proposed("{\"unevaluated\":" + b + "}", "{\"a\":{}}", 1, "");
        proposed("{\"defs\":{\"x\":" + b + "}}", "{}", 0, "");
        proposed("{\"additional\":" + b + ",\"properties\":{\"a\":1}}", "{\"a\":{}}", 1, "");
        proposed("{\"items\":" + b + "}", "{\"a\":{}}", 1, "");
        proposed("{\"additional\":" + b + "}", "[{}]", 1, "");
        proposed("{\"allof\":{\"x\":" + b + "}}", "{}", 0, "");
        proposed("{\"ref\":\"#y\",\"defs\":{\"x\":" + b + "}}", "{}", 0, "");
        proposed("[" + b + "]", "{}", 0, "");
    }

    private static void inOrder() {
        proposed("{\"properties\":{\"b\":1,\"ab\":1,\"B\":1,\"a\":1,\" \":1,\"\":1,\"~\":1}}", "{}",
                0, "'' ' ' 'B' 'a' 'ab' 'b' '~'");
        proposed("{\"properties\":{\"b\":1,\"a\":1},\"allof\":[{\"properties\":{\"c\":1,\"b\":1}},"
                + "{\"properties\":{\"a\":1}}]}", "{\"q\":1}", 0, "'a' 'b' 'c'");
        proposed("{\"properties\":{\"abc\":1,\"abd\":1,\"abca\":1,\"ab\":1}}", "{\"ab\":1}", 0,
                "'abc' 'abca' 'abd'");
    }

    private static void withFaults() {
        proposed("{\"properties\":{\"b\"1 \"a\":2,\"b\":3,\"c\"", "{,", 0, "'a' 'b'");
        proposed("{\"properties\":{\"b\":1},\"properties\":{\"c\":1}}", "{}", 0, "'b'");
        proposed("{\"properties\":{\"b\":1}}", "{\"b\"}", 0, "'b'");
    }

    /** The last of the names is one that nothing ends but the end of a full text. */
    private static void fullText() {
        String head = "{\"properties\":{\"abc\":1,\"ab\":1,\"b\":1,";
        String full = head + " ".repeat(160 - head.length() - 9) + "\"ac\":1,\"a";
        proposed(full, "{}", 0, "'ab' 'abc' 'ac' 'b'");
        proposed(full, "{\"b\":1,\"ac\":1,\"ab\":1}", 0, "'abc'");
    }

    private static void latestProposing() {
        SchemaDesk desk = Check.desk("{\"properties\":{\"cd\":1,\"ab\":1}}", "[{}]");
        check.same("not reached", desk.propose(1), 0);
        desk.remove(1, 0, 1);
        desk.remove(1, 2, 1);
        check.same("reached", Check.proposals(desk, desk.propose(0)), "'ab' 'cd'");
        desk.remove(0, 0, desk.length(0));
        check.throwing("no schema", NoSuchElementException.class, () -> desk.propose(0));
        Check.fill(desk, 0, "{\"ref\":\"#\"}");
        check.throwing("circle", UnsupportedOperationException.class, () -> desk.propose(0));
        desk.remove(1, 0, 2);
        check.throwing("no document", NoSuchElementException.class, () -> desk.propose(0));
        check.same("behind changes and throws", Check.proposals(desk, 2), "'ab' 'cd'");
        desk.remove(0, 0, desk.length(0));
        Check.fill(desk, 0, "{\"properties\":{\"x\":1}}");
        Check.fill(desk, 1, "{}");
        check.same("next", Check.proposals(desk, desk.propose(0)), "'x'");
        check.throwing("one is left", NoSuchElementException.class, () -> desk.proposal(1, 0));
    }

    private static void againOnOneDesk() {
        SchemaDesk desk = Check.desk("{\"items\":{\"properties\":{\"b\":1}}}", "[{}]");
        check.same("reached by items", Check.proposals(desk, desk.propose(1)), "'b'");
        desk.remove(1, 0, 4);
        Check.fill(desk, 1, "{\"a\":{}}");
        check.same("no longer reached", desk.propose(1), 0);
    }

    private static void wrongArguments() {
        SchemaDesk desk = Check.desk("{\"properties\":{\"ab\":1,\"\":1}}", "{\"x\":[]}");
        check.throwing("propose(2)", NoSuchElementException.class, () -> desk.propose(2));
        check.throwing("propose(-1)", NoSuchElementException.class, () -> desk.propose(-1));
        check.throwing("an ARRAY", NoSuchElementException.class, () -> desk.propose(1));
        check.throwing("an ARRAY, circle", NoSuchElementException.class,
                () -> Check.desk("{\"ref\":\"#\"}", "[]").propose(0));
        check.throwing("no schema", NoSuchElementException.class,
                () -> Check.desk("?", "{}").propose(0));
        check.throwing("circle", UnsupportedOperationException.class,
                () -> Check.desk("{\"ref\":\"#\"}", "{}").propose(0));
        check.throwing("nothing proposed", NoSuchElementException.class,
                () -> desk.proposal(0, 0));
        check.same("propose(0)", desk.propose(0), 2);
        check.same("empty name", desk.proposal(0, 0), -1);
        check.same("first character", desk.proposal(1, 0), 97);
        check.same("last character", desk.proposal(1, 1), 98);
        check.same("behind it", desk.proposal(1, 2), -1);
        check.same("far behind it", desk.proposal(1, Integer.MAX_VALUE), -1);
        check.throwing("j -1", NoSuchElementException.class, () -> desk.proposal(0, -1));
        check.throwing("k 2", NoSuchElementException.class, () -> desk.proposal(2, 0));
        check.throwing("k -1", NoSuchElementException.class, () -> desk.proposal(-1, 0));
    }
}
