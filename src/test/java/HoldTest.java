import java.util.NoSuchElementException;

/** Promise 12: which nodes of the schema hold for which of the document. */
public final class HoldTest {
    private static final Check check = new Check();

    public static void main(String[] args) {
        kindsOfSchemas();
        types();
        constAndEnum();
        numbers();
        sizes();
        namesOfChildren();
        children();
        combined();
        refs();
        unevaluated();
        firstOfAName();
        otherNodes();
        fullTexts();
        circles();
        wrongArguments();
        check.end();
    }

    private static void holds(String schema, String document) {
        check.same(schema + " for " + document, Check.desk(schema, document).holds(0, 0), true);
    }

    private static void fails(String schema, String document) {
        check.same(schema + " for " + document, Check.desk(schema, document).holds(0, 0), false);
    }

    private static void kindsOfSchemas() {
        holds("null", "1");
        holds("true", "1");
        holds("5", "1");
        holds("\"false\"", "1");
        holds("[false]", "1");
        holds("{}", "1");
        fails("false", "1");
        holds("{\"other\":false}", "1");
    }

    private static void types() {
        String[] kinds = {"null", "boolean", "number", "string", "array", "object"};
        String[] documents = {"null", "false", "1", "\"a\"", "[]", "{}"};
        for (int k = 0; k < kinds.length; k++) {
            for (int d = 0; d < documents.length; d++) {
                String schema = "{\"type\":\"" + kinds[k] + "\"}";
                boolean holds = Check.desk(schema, documents[d]).holds(0, 0);
                check.same(schema + " for " + documents[d], holds, k == d);
            }
        }
        holds("{\"type\":\"boolean\"}", "true");
        fails("{\"type\":\"true\"}", "true");
        fails("{\"type\":\"\"}", "null");
        holds("{\"type\":[\"null\",\"array\"]}", "[]");
        holds("{\"type\":[\"null\",\"array\"]}", "null");
        fails("{\"type\":[\"null\",\"array\"]}", "{}");
        fails("{\"type\":[null,5,[\"null\"]]}", "null");
        fails("{\"type\":[]}", "1");
        fails("{\"type\":[],\"a\":\"number\"}", "1");
        holds("{\"type\":5}", "1");
        holds("{\"type\":{\"a\":\"null\"}}", "1");
    }

    private static void constAndEnum() {
        holds("{\"const\":null}", "null");
        holds("{\"const\":null}", "nul");
        fails("{\"const\":false}", "true");
        holds("{\"const\":007}", "7");
        holds("{\"const\":-0}", "0");
        fails("{\"const\":7}", "-7");
        fails("{\"const\":7}", "\"7\"");
        holds("{\"const\":\"ab\"}", "\"ab\"");
        fails("{\"const\":\"ab\"}", "\"a\"");
        fails("{\"const\":\"a\"}", "\"ab\"");
        fails("{\"const\":\"ab\"}", "\"ac\"");
        holds("{\"const\":\"ab\"}", "\"ab");
        holds("{\"const\":[1,[2],\"\"]}", "[1,[2],\"\"]");
        fails("{\"const\":[1,2]}", "[2,1]");
        fails("{\"const\":[1]}", "[1,1]");
        fails("{\"const\":[]}", "{}");
        holds("{\"const\":{\"a\":1,\"b\":[2]}}", "{\"b\":[2],\"a\":1}");
        fails("{\"const\":{\"a\":1}}", "{\"b\":1}");
        fails("{\"const\":{\"a\":1}}", "{\"a\":2}");
        fails("{\"const\":{\"a\":1}}", "{\"a\":1,\"b\":1}");
        holds("{\"const\":{\"a\":1,\"a\":1}}", "{\"a\":1,\"b\":2}");
        fails("{\"const\":{\"a\":1,\"b\":2}}", "{\"a\":1,\"a\":1}");
        fails("{\"const\":{\"a\":1,\"a\":2}}", "{\"a\":1,\"a\":2}");
        holds("{\"const\":[[[[[[[5]]]]]]]}", "[[[[[[[5]]]]]]]");
        fails("{\"const\":[[[[[[[5]]]]]]]}", "[[[[[[[6]]]]]]]");
        holds("{\"enum\":[1,[2],null]}", "[2]");
        holds("{\"enum\":[1,[2],null]}", "1");
        holds("{\"enum\":[1,[2],null]}", "null");
        fails("{\"enum\":[1,[2],null]}", "2");
        fails("{\"enum\":[]}", "2");
        holds("{\"enum\":{\"a\":1}}", "2");
    }

    private static void numbers() {
        holds("{\"min\":3}", "3");
        fails("{\"min\":3}", "2");
        fails("{\"min\":-3}", "-4");
        holds("{\"max\":3}", "3");
        fails("{\"max\":3}", "4");
        holds("{\"multiple\":3}", "-6");
        holds("{\"multiple\":3}", "0");
        fails("{\"multiple\":3}", "7");
        holds("{\"multiple\":0}", "7");
        holds("{\"multiple\":-2}", "7");
        holds("{\"min\":3,\"max\":1,\"multiple\":9}", "\"a\"");
        holds("{\"min\":\"9\",\"max\":null,\"multiple\":[5]}", "7");
        fails("{\"min\":1,\"max\":2}", "3");
    }

    private static void sizes() {
        holds("{\"minlength\":2}", "\"ab\"");
        fails("{\"minlength\":3}", "\"ab\"");
        holds("{\"maxlength\":2}", "\"ab\"");
        fails("{\"maxlength\":1}", "\"ab\"");
        holds("{\"maxlength\":0}", "\"\"");
        fails("{\"maxlength\":-1}", "\"\"");
        fails("{\"maxlength\":2}", "\"ab ");
        holds("{\"minlength\":9,\"minitems\":9}", "7");
        holds("{\"minlength\":9}", "[]");
        holds("{\"minlength\":[9]}", "\"a\"");
        holds("{\"minitems\":2}", "[1,2]");
        fails("{\"minitems\":3}", "[1,[2,3]]");
        holds("{\"maxitems\":2}", "[1,[2,3]]");
        fails("{\"maxitems\":1}", "[1,2]");
        holds("{\"minitems\":9}", "{}");
        holds("{\"maxitems\":0}", "{\"a\":1}");
        holds("{\"maxitems\":true}", "[1]");
    }

    private static void namesOfChildren() {
        holds("{\"required\":[\"a\",\"b\"]}", "{\"b\":1,\"c\":2,\"a\":3}");
        fails("{\"required\":[\"a\",\"b\"]}", "{\"a\":1}");
        fails("{\"required\":[\"b\"]}", "{\"a\":{\"b\":1}}");
        holds("{\"required\":[5,[\"x\"]]}", "{\"a\":1}");
        fails("{\"required\":[\"a\"]}", "{\"a\"}");
        holds("{\"required\":[\"a\"]}", "[]");
        holds("{\"required\":\"b\"}", "{}");
    }

    private static void children() {
        holds("{\"properties\":{\"a\":{\"min\":3},\"b\":false}}", "{\"a\":3,\"c\":1}");
        fails("{\"properties\":{\"a\":{\"min\":3}}}", "{\"c\":1,\"a\":2}");
        fails("{\"properties\":{\"a\":{\"min\":3}}}", "{\"a\":3,\"a\":2}");
        holds("{\"properties\":{\"a\":true,\"a\":false}}", "{\"a\":3}");
        holds("{\"properties\":[false]}", "{\"a\":3}");
        holds("{\"properties\":{\"a\":false}}", "[1]");
        holds("{\"additional\":false}", "{}");
        fails("{\"additional\":false}", "{\"a\":1}");
        holds("{\"additional\":false}", "[1]");
        holds("{\"additional\":5}", "{\"a\":1}");
        holds("{\"properties\":{\"a\":1},\"additional\":false}", "{\"a\":1}");
        fails("{\"additional\":false,\"properties\":{\"a\":1}}", "{\"a\":1,\"b\":1}");
        fails("{\"additional\":false,\"properties\":[\"a\"]}", "{\"a\":1}");
        holds("{\"items\":{\"max\":3}}", "[1,2,3]");
        fails("{\"items\":{\"max\":3}}", "[1,4,3]");
        holds("{\"items\":false}", "[]");
        holds("{\"items\":false}", "{\"a\":1}");
        holds("{\"items\":[],\"items\":false}", "[1]");
    }

    private static void combined() {
        holds("{\"allof\":[{\"min\":1},{\"max\":3}]}", "2");
        fails("{\"allof\":[{\"min\":1},{\"max\":3}]}", "4");
        holds("{\"allof\":[]}", "4");
        holds("{\"allof\":{\"a\":false}}", "4");
        holds("{\"anyof\":[{\"max\":1},{\"min\":3}]}", "4");
        fails("{\"anyof\":[{\"max\":1},{\"min\":3}]}", "2");
        fails("{\"anyof\":[]}", "2");
        holds("{\"anyof\":false}", "2");
        holds("{\"oneof\":[{\"max\":3},{\"min\":2}]}", "1");
        fails("{\"oneof\":[{\"max\":3},{\"min\":2}]}", "2");
        fails("{\"oneof\":[false,{\"max\":0}]}", "2");
        fails("{\"oneof\":[]}", "2");
        holds("{\"oneof\":null}", "2");
        holds("{\"not\":false}", "2");
        fails("{\"not\":null}", "2");
        holds("{\"not\":{\"min\":3}}", "2");
        fails("{\"not\":{\"min\":3}}", "3");
        holds("{\"not\":{\"not\":{\"min\":3}}}", "3");
    }

    private static void refs() {
        holds("{\"ref\":\"#a\",\"defs\":{\"a\":{\"min\":3}}}", "3");
        fails("{\"ref\":\"#a\",\"defs\":{\"a\":{\"min\":3}}}", "2");
        fails("{\"ref\":\"#b\",\"defs\":{\"a\":{}}}", "2");
        fails("{\"ref\":\"a\",\"defs\":{\"a\":{}}}", "2");
        fails("{\"ref\":\"\",\"defs\":{\"\":{}}}", "2");
        fails("{\"ref\":\"#a\",\"defs\":[{}]}", "2");
        fails("{\"ref\":\"#a\"}", "2");
        fails("{\"defs\":{\"a\":{}},\"ref\":\"#a ", "2");
        holds("{\"defs\":{\"a\":{}},\"ref\":\"#a", "2");
        holds("{\"ref\":5}", "2");
        holds("{\"properties\":{\"a\":{\"ref\":\"#\"}},\"required\":[\"b\"]}",
                "{\"a\":{\"b\":1},\"b\":1}");
        fails("{\"properties\":{\"a\":{\"ref\":\"#\"}},\"required\":[\"b\"]}",
                "{\"a\":{\"b\":1,\"a\":{}},\"b\":1}");
        fails("{\"items\":{\"defs\":{\"a\":{}},\"ref\":\"#a\"}}", "[1]");
        check.same("ref # from an array", Check.desk("[{\"ref\":\"#\"}]", "1").holds(1, 0), true);
        check.same("ref #a from an array", Check.desk("[{\"ref\":\"#a\"}]", "1").holds(1, 0),
                false);
        fails("{\"ref\":\"#a\",\"defs\":{\"a\":false,\"a\":true}}", "1");
        fails("{\"ref\":\"#a\",\"defs\":{},\"defs\":{\"a\":true}}", "1");
    }

    private static void unevaluated() {
        holds("{\"unevaluated\":false}", "{}");
        fails("{\"unevaluated\":false}", "{\"a\":1}");
        holds("{\"unevaluated\":false}", "[1]");
        holds("{\"unevaluated\":{\"min\":3}}", "{\"a\":3}");
        fails("{\"unevaluated\":{\"min\":3}}", "{\"a\":3,\"b\":2}");
        holds("{\"unevaluated\":false,\"properties\":{\"a\":1}}", "{\"a\":1}");
        fails("{\"unevaluated\":false,\"properties\":{\"a\":1}}", "{\"b\":1}");
        holds("{\"unevaluated\":false,\"additional\":1}", "{\"b\":1}");
        holds("{\"unevaluated\":false,\"allof\":[{\"properties\":{\"a\":1}},5]}", "{\"a\":1}");
        fails("{\"unevaluated\":false,\"allof\":[{\"properties\":{\"a\":1}},5]}", "{\"b\":1}");
        String any = "{\"unevaluated\":false,\"anyof\":[{\"required\":[\"b\"],\"properties\":"
                + "{\"b\":1}},{\"properties\":{\"a\":1}}]}";
        holds(any, "{\"a\":1,\"b\":1}");
        holds(any, "{\"a\":1}");
        fails(any, "{\"a\":1,\"b\":1,\"c\":1}");
        fails("{\"unevaluated\":false,\"anyof\":[5,{\"required\":[\"b\"],\"properties\":"
                + "{\"a\":1}}]}", "{\"a\":1}");
        holds("{\"unevaluated\":false,\"oneof\":[false,{\"additional\":1}]}", "{\"a\":1}");
        fails("{\"unevaluated\":false,\"not\":{\"not\":{\"additional\":1}}}", "{\"a\":1}");
        holds("{\"unevaluated\":false,\"ref\":\"#a\",\"defs\":{\"a\":{\"properties\":"
                + "{\"x\":1}}}}", "{\"x\":1}");
        fails("{\"unevaluated\":false,\"ref\":\"#a\",\"defs\":{\"a\":{\"properties\":"
                + "{\"x\":1}}}}", "{\"y\":1}");
        holds("{\"unevaluated\":false,\"allof\":[{\"unevaluated\":null}]}", "{\"a\":1}");
        holds("{\"unevaluated\":false,\"allof\":[{\"allof\":[{\"unevaluated\":1}]}]}",
                "{\"a\":1}");
        fails("{\"unevaluated\":false,\"allof\":{\"a\":{\"unevaluated\":1}}}", "{\"a\":1}");
        fails("{\"unevaluated\":false,\"properties\":{\"a\":{\"properties\":{\"b\":1}}}}",
                "{\"a\":{},\"b\":1}");
        holds("{\"unevaluated\":false,\"properties\":{\"a\":1}}", "{\"a\":1,\"a\":2}");
    }

    private static void firstOfAName() {
        fails("{\"min\":3,\"min\":1}", "2");
        holds("{\"min\":1,\"min\":3}", "2");
        holds("{\"min\":null,\"min\":3}", "2");
        holds("{\"min\",\"min\":1}", "2");
        fails("{\"min\",\"min\":3}", "2");
    }

    private static void otherNodes() {
        SchemaDesk desk = Check.desk("{\"a\":{\"min\":3},\"b\":false}", "[2,4]");
        check.same("holds(0, 0)", desk.holds(0, 0), true);
        check.same("holds(1, 0)", desk.holds(1, 0), true);
        check.same("holds(1, 1)", desk.holds(1, 1), false);
        check.same("holds(1, 2)", desk.holds(1, 2), true);
        check.same("holds(2, 1)", desk.holds(2, 1), true);
        check.same("holds(3, 1)", desk.holds(3, 1), false);
        desk.remove(1, 1, 1);
        desk.insert(1, 1, '5');
        check.same("behind a change of the document", desk.holds(1, 1), true);
        desk.remove(0, 12, 1);
        desk.insert(0, 12, '9');
        check.same("behind a change of the schema", desk.holds(1, 1), false);
        SchemaDesk wide = Check.desk("[" + "-".repeat(157) + "{}", "[" + "-".repeat(79));
        check.same("last of the most nodes", wide.holds(158, 79), true);
    }

    /** A string that the end of a full text ends. */
    private static void fullTexts() {
        String tail = "\"ref\":\"#a";
        String head = "{\"defs\":{\"a\":false},";
        String full = head + " ".repeat(160 - head.length() - tail.length()) + tail;
        fails(full, "1");
        String noTarget = "{" + " ".repeat(152) + "\"ref\":\"";
        fails(noTarget, "1");
        check.throwing("ref # at the end of a full text", UnsupportedOperationException.class,
                () -> Check.desk("{" + " ".repeat(151) + "\"ref\":\"#", "1").holds(0, 0));
        String word = "{" + " ".repeat(148) + "\"const\":\"ab";
        holds(word, " ".repeat(77) + "\"ab");
        holds(word, "\"ab\"");
        fails(word, "\"abc\"");
        fails(word, "\"a\"");
    }

    private static void circles() {
        circle("{\"ref\":\"#\"}");
        circle("{\"allof\":[1,{\"ref\":\"#\"}]}");
        circle("{\"anyof\":[{\"oneof\":[{\"ref\":\"#\"}]}]}");
        circle("{\"not\":{\"ref\":\"#\"}}");
        circle("{\"defs\":{\"a\":{\"ref\":\"#b\"},\"b\":{\"not\":{\"ref\":\"#a\"}}}}");
        circle("[{\"const\":{\"a\":{\"not\":{}}}},{\"defs\":{\"a\":1}}]", false);
        circle("{\"defs\":{\"a\":{\"ref\":\"#a\"}}}");
        circle("{\"properties\":{\"a\":{\"ref\":\"#\"}}}", false);
        circle("{\"items\":{\"ref\":\"#\"},\"additional\":{\"ref\":\"#\"}}", false);
        circle("{\"unevaluated\":{\"ref\":\"#\"}}", false);
        circle("{\"allof\":{\"ref\":\"#\"}}", false);
        circle("{\"allof\":[[{\"ref\":\"#\"}]]}", false);
        circle("{\"ref\":1,\"ref\":\"#\"}", false);
        circle("{\"ref\":[#]}", false);
        circle("{\"ref\":\"#a\"}", false);
        circle("{\"defs\":{\"a\":{\"ref\":\"#b\"},\"b\":{\"ref\":\"#c\"},\"c\":{}}}", false);
        circle("{\"defs\":{\"c\":{},\"b\":{\"ref\":\"#c\"},\"a\":{\"ref\":\"#b\"}}}", false);
    }

    private static void circle(String schema) {
        check.throwing("circle in " + schema, UnsupportedOperationException.class,
                () -> Check.desk(schema, "1").holds(0, 0));
    }

    private static void circle(String schema, boolean due) {
        boolean thrown = false;
        try {
            Check.desk(schema, "1").holds(0, 0);
        } catch (UnsupportedOperationException e) {
            thrown = true;
        }
        check.same("circle in " + schema, thrown, due);
    }

    private static void wrongArguments() {
        SchemaDesk desk = Check.desk("{\"ref\":\"#\"}", "[1]");
        check.throwing("no s", NoSuchElementException.class, () -> desk.holds(2, 0));
        check.throwing("s -1", NoSuchElementException.class, () -> desk.holds(-1, 0));
        check.throwing("no i", NoSuchElementException.class, () -> desk.holds(0, 2));
        check.throwing("i -1", NoSuchElementException.class, () -> desk.holds(0, -1));
        check.throwing("both there", UnsupportedOperationException.class, () -> desk.holds(1, 1));
        check.throwing("empty", NoSuchElementException.class,
                () -> new SchemaDesk().holds(0, 0));
    }
}
