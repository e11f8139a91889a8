/** The document's sentences on diagnostics and proposals that name a boundary case, one by one. */
public final class FindSentencesTest {
    private static final Check check = new Check();
    private static final String B = "{\"properties\":{\"b\":1}}";

    public static void main(String[] args) {
        nothingReported();
        falseReported();
        reportedForChildren();
        reportedByAllof();
        reportedByRef();
        reportedByUnevaluated();
        theOthers();
        inOrder();
        noneTwice();
        reachedNodesZero();
        reachedForChildren();
        reachedInside();
        reachedByRef();
        notReached();
        whatNoChildHas();
        eachOnce();
        inOrderOfCodes();
        ofAllProperties();
        check.end();
    }

    private static void judged(String schema, String document, String due) {
        check.same("diagnostics of " + schema + " for " + document,
                Check.judged(schema, document), due);
    }

    private static void proposed(String schema, String document, int i, String due) {
        check.same("proposals of " + schema + " for " + i + " of " + document,
                Check.proposed(schema, document, i), due);
    }

    private static void nothingReported() {
        check.about("REPORTED are the nodes 0 of both, if the first doesn't hold for the second.");
        for (String schema : new String[] {"null", "true", "0", "\"\"", "[false]", "{}"}) {
            judged(schema, "1", "");
        }
        judged("{\"not\":{\"not\":{\"not\":false}},\"anyof\":[false,true]}", "1", "");
        judged("{\"not\":{\"max\":0},\"anyof\":[false,true]}", "1", "");
        judged("{\"oneof\":[{\"max\":0},1]}", "1", "");
        judged("{\"defs\":{\"a\":false}}", "1", "");
    }

    private static void falseReported() {
        check.about("Of what is reported, s for i: if s is FALSE, a diagnostic (0, i, s).");
        judged("false", "1", "0/0/0");
        judged("false", "[1,{\"a\":2}]", "0/0/0");
        judged("{\"items\":false}", "[1]", "0/1/1");
        judged("{\"items\":{\"items\":false}}", "[[],[1]]", "0/3/2");
    }

    private static void reportedForChildren() {
        check.about("for each child v of s that is not so: 12, 13, 14, .. all those of their nodes"
                + " that don't hold where they should are reported, for the nodes of the document"
                + " for which they should;");
        judged("{\"properties\":{\"a\":false,\"b\":{\"max\":0},\"c\":false}}",
                "{\"x\":1,\"b\":1,\"a\":1}", "5/2/4 0/3/2");
        judged("{\"properties\":{\"a\":{\"max\":0}},\"additional\":{\"max\":1}}",
                "{\"a\":1,\"b\":2,\"c\":1}", "5/1/3 5/2/5");
        judged("{\"additional\":false,\"properties\":{\"a\":1}}", "{\"b\":1,\"a\":1,\"c\":1}",
                "0/1/1 0/3/1");
        judged("{\"items\":{\"max\":1}}", "[2,1,2]", "5/1/2 5/3/2");
        judged("{\"items\":{\"max\":1}}", "[]", "");
        judged("{\"properties\":{\"a\":{\"items\":false}}}", "{\"a\":[1],\"b\":2}", "0/2/3");
        judged("{\"properties\":{\"a\":{\"items\":{\"additional\":{\"max\":1}}}}}",
                "{\"a\":[{\"b\":1,\"c\":2}]}", "5/4/5");
    }

    private static void reportedByAllof() {
        check.about("15: all those of their nodes that don't hold are reported, for i");
        judged("{\"allof\":[false,true,{\"max\":0},{\"max\":1}]}", "1", "0/0/2 5/0/5");
        judged("{\"allof\":[{\"allof\":[false]}]}", "1", "0/0/4");
        judged("{\"allof\":[]}", "1", "");
        judged("{\"allof\":[false],\"x\":false}", "1", "0/0/2");
    }

    private static void reportedByRef() {
        check.about("and 19 with a target: reported; (without one) a diagnostic (19, i, v)");
        judged("{\"ref\":\"#a\",\"defs\":{\"a\":{\"max\":0}}}", "1", "5/0/4");
        judged("{\"ref\":\"#a\",\"defs\":{\"a\":false}}", "1", "0/0/3");
        judged("{\"ref\":\"#a\",\"defs\":{\"b\":false}}", "1", "19/0/1");
        judged("{\"ref\":\"\"}", "1", "19/0/1");
        judged("{\"ref\":\"#a\",\"defs\":{\"a\":{\"ref\":\"#b\"}}}", "1", "19/0/4");
        judged("{\"items\":{\"ref\":\"#\"},\"max\":0}", "[[1],0]", "5/2/3");
    }

    private static void reportedByUnevaluated() {
        check.about("20: all those of their nodes that don't hold where they should are reported,");
        judged("{\"unevaluated\":false}", "{\"a\":1,\"b\":1}", "0/1/1 0/2/1");
        judged("{\"unevaluated\":false,\"properties\":{\"a\":1}}", "{\"a\":1,\"b\":1}", "0/2/1");
        judged("{\"unevaluated\":{\"max\":0}}", "{\"a\":0,\"b\":1}", "5/2/2");
        // What properties that aren't so speak of is evaluated; what an allof's node that doesn't
        // hold evaluates is not.
        judged("{\"unevaluated\":false,\"properties\":{\"a\":false}}", "{\"a\":1}", "0/1/3");
        judged("{\"unevaluated\":false,\"allof\":[{\"properties\":{\"a\":false}}]}", "{\"a\":1}",
                "0/1/1 0/1/5");
        judged("{\"unevaluated\":false,\"oneof\":[" + B + "," + B + "]}", "{\"b\":1}", "17/0/2");
    }

    private static void theOthers() {
        check.about("the others: a diagnostic (the number above, i, v).");
        judged("{\"type\":\"null\",\"const\":2,\"enum\":[],\"min\":2,\"max\":0,\"multiple\":2}", "1",
                "1/0/1 2/0/2 3/0/3 4/0/4 5/0/5 6/0/6");
        judged("{\"minlength\":2,\"maxlength\":0}", "\"a\"", "7/0/1 8/0/2");
        judged("{\"minitems\":2,\"maxitems\":0}", "[1]", "9/0/1 10/0/2");
        judged("{\"required\":[\"a\",\"b\"]}", "{}", "11/0/1");
        judged("{\"anyof\":[false,false],\"oneof\":[true,true],\"not\":1}", "1",
                "16/0/1 17/0/4 18/0/7");
        judged("{\"anyof\":[],\"oneof\":[]}", "1", "16/0/1 17/0/2");
        judged("{\"const\":false}", "true", "2/0/1");
        judged("{\"type\":\"\",\"max\":5}", "1", "1/0/1");
    }

    private static void inOrder() {
        check.about("They are in the order of the nodes of the document, then of those of the"
                + " schema;");
        judged("{\"additional\":{\"max\":0,\"min\":2},\"required\":[\"c\"],\"not\":1}",
                "{\"b\":1,\"a\":1}", "11/0/4 18/0/6 5/1/2 4/1/3 5/2/2 4/2/3");
        judged("{\"allof\":[{\"ref\":\"#b\"},{\"ref\":\"#a\"}],\"max\":0,\"defs\":{\"a\":false,"
                + "\"b\":false}}", "1", "5/0/6 0/0/8 0/0/9");
        judged("{\"max\":0,\"items\":{\"ref\":\"#\"},\"maxitems\":1}", "[[1,2],1]",
                "10/0/4 10/1/4 5/2/1 5/3/1 5/4/1");
    }

    private static void noneTwice() {
        check.about("none is there twice.");
        judged("{\"allof\":[{\"ref\":\"#a\"},{\"ref\":\"#a\"}],\"ref\":\"#a\",\"defs\":{\"a\":"
                + "{\"max\":0}}}", "1", "5/0/9");
        judged("{\"allof\":[{\"ref\":\"#a\"},{\"ref\":\"#a\"}],\"ref\":\"#a\",\"defs\":{\"a\":"
                + "false}}", "1", "0/0/8");
        judged("{\"properties\":{\"a\":{\"ref\":\"#x\"}},\"unevaluated\":{\"ref\":\"#x\"},"
                + "\"defs\":{\"x\":{\"max\":0}}}", "{\"a\":1,\"b\":1}", "5/1/8 5/2/8");
    }

    private static void reachedNodesZero() {
        check.about("REACHED are the nodes 0 of both;");
        proposed(B, "{}", 0, "'b'");
        proposed(B, "{\"a\":{}}", 1, "");
        proposed(B, "[{}]", 1, "");
        proposed("[" + B + "]", "{}", 0, "");
        proposed("{\"type\":\"null\",\"properties\":{\"b\":1}}", "{}", 0, "'b'");
    }

    private static void reachedForChildren() {
        check.about("and with s for i, if s is an OBJECT, all of which 12, 13, 14, .. speak, with"
                + " the nodes of the document of which they speak.");
        proposed("{\"properties\":{\"a\":" + B + "}}", "{\"c\":{},\"a\":{}}", 2, "'b'");
        proposed("{\"properties\":{\"a\":" + B + "}}", "{\"c\":{},\"a\":{}}", 1, "");
        proposed("{\"properties\":{\"a\":" + B + "}}", "{\"c\":{},\"a\":{}}", 0, "");
        proposed("{\"properties\":{\"a\":" + B + "}}", "[{}]", 1, "");
        proposed("{\"additional\":" + B + ",\"properties\":{\"a\":1}}", "{\"c\":{},\"a\":{}}", 1,
                "'b'");
        proposed("{\"additional\":" + B + ",\"properties\":{\"a\":1}}", "{\"c\":{},\"a\":{}}", 2, "");
        proposed("{\"additional\":" + B + "}", "[{}]", 1, "");
        proposed("{\"items\":" + B + "}", "[1,{},{}]", 2, "'b'");
        proposed("{\"items\":" + B + "}", "[1,{},{}]", 3, "'b'");
        proposed("{\"items\":" + B + "}", "[[{}]]", 2, "");
        proposed("{\"items\":" + B + "}", "{\"a\":{}}", 1, "");
        proposed("{\"items\":[" + B + "]}", "[{}]", 1, "");
        proposed("{\"properties\":{\"a\":{}},\"anyof\":[" + B + "]}", "{\"a\":{}}", 1, "");
        proposed("{\"properties\":{\"a\":{\"items\":" + B + "}}}", "{\"a\":[1],\"c\":{}}", 3, "");
        for (String word : new String[] {"properties", "additional", "items"}) {
            proposed("{\"" + word + "\":[" + B + "]}", "{}", 0, "");
        }
        proposed("{\"properties\":{\"a\":" + B + ",\"a\":{}}}", "{\"a\":{},\"a\":{}}", 2, "'b'");
    }

    private static void reachedInside() {
        check.about("15, 16, 17 (with the children of their ARRAYs, for i)");
        for (String word : new String[] {"allof", "anyof", "oneof"}) {
            proposed("{\"" + word + "\":[" + B + "]}", "{}", 0, "'b'");
            proposed("{\"" + word + "\":[false,1,{}," + B + "]}", "{}", 0, "'b'");
            proposed("{\"" + word + "\":[" + B + ",{\"properties\":{\"a\":1}}]}", "{}", 0,
                    "'a' 'b'");
            proposed("{\"" + word + "\":[]}", "{}", 0, "");
            proposed("{\"" + word + "\":[1],\"x\":" + B + "}", "{}", 0, "");
            proposed("{\"" + word + "\":{\"a\":" + B + "}}", "{}", 0, "");
            proposed("{\"" + word + "\":[[" + B + "]]}", "{}", 0, "");
            proposed("{\"" + word + "\":[{\"" + word + "\":[" + B + "]}]}", "{}", 0, "'b'");
        }
    }

    private static void reachedByRef() {
        check.about("and 19 (with a target) speak");
        proposed("{\"ref\":\"#a\",\"defs\":{\"a\":" + B + "}}", "{}", 0, "'b'");
        proposed("{\"ref\":\"#c\",\"defs\":{\"a\":" + B + "}}", "{}", 0, "");
        proposed("{\"defs\":{\"a\":" + B + "}}", "{}", 0, "");
        proposed("{\"properties\":{\"b\":{\"ref\":\"#\"}}}", "{\"b\":{\"b\":{}}}", 2, "'b'");
        proposed("{\"ref\":\"#a\",\"defs\":{\"a\":false}}", "{}", 0, "");
        proposed("{\"x\":" + B + ",\"ref\":5}", "{}", 0, "");
        // Here the nodes that are reached stand behind and before those that lead to them.
        proposed("{\"defs\":{\"q\":{}},\"allof\":[{\"properties\":{\"ref\":\"#q\"}}]}", "{}", 0,
                "'ref'");
        proposed("{\"defs\":{\"q\":" + B + "},\"allof\":[{\"additional\":{\"ref\":\"#q\"}}]}",
                "{\"a\":{}}", 1, "'b'");
    }

    private static void notReached() {
        check.about("(REACHED is nothing by 18 and 20, nor from what is no OBJECT)");
        proposed("{\"not\":" + B + "}", "{}", 0, "");
        proposed("{\"unevaluated\":" + B + "}", "{\"a\":{}}", 1, "");
        proposed("{\"const\":" + B + ",\"enum\":[" + B + "]}", "{}", 0, "");
        proposed("{\"a\":" + B + "}", "{}", 0, "");
        proposed("false", "{}", 0, "");
        proposed("1", "{}", 0, "");
    }

    private static void whatNoChildHas() {
        check.about("PROPOSED for an OBJECT i are the names of the children of all properties (12)"
                + " of nodes reached for i that no child of i has,");
        proposed("{\"properties\":{}}", "{}", 0, "");
        proposed("{\"properties\":{\"a\":1,\"b\":1}}", "{\"b\":1}", 0, "'a'");
        proposed("{\"properties\":{\"a\":1,\"b\":1}}", "{\"b\":1,\"a\":1}", 0, "");
        proposed("{\"properties\":{\"a\":1}}", "{\"ab\":1,\"\":1,\"A\":1,\"c\":{\"a\":1}}", 0, "'a'");
        proposed("{\"properties\":{\"\":1}}", "{}", 0, "''");
        proposed("{\"properties\":{\"\":1}}", "{\"\":1}", 0, "");
        proposed("{\"properties\":[\"a\"]}", "{}", 0, "");
        proposed("{\"properties\":{\"a\":1,\"b\":}}", "{}", 0, "'a'");
        proposed("{\"properties\":{\"a\":1}}", "{\"a\":}", 0, "'a'");
        proposed("{\"required\":[\"a\"]}", "{}", 0, "");
        proposed("{\"properties\":{\"a\":" + B + "}}", "{}", 0, "'a'");
        proposed("{\"properties\":1,\"properties\":{\"a\":1}}", "{}", 0, "");
    }

    private static void eachOnce() {
        check.about("each once,");
        proposed("{\"properties\":{\"a\":1,\"a\":2}}", "{}", 0, "'a'");
        proposed("{\"properties\":{\"b\":1},\"allof\":[" + B + "," + B + "]}", "{}", 0, "'b'");
        proposed("{\"properties\":{\"\":1,\"\":2}}", "{}", 0, "''");
    }

    private static void inOrderOfCodes() {
        check.about("in the order of their characters' codes (one that another begins with first).");
        proposed("{\"properties\":{\"b\":1,\"a\":1,\"c\":1}}", "{}", 0, "'a' 'b' 'c'");
        proposed("{\"properties\":{\"abc\":1,\"ab\":1,\"\":1,\"a\":1}}", "{}", 0, "'' 'a' 'ab' 'abc'");
        proposed("{\"properties\":{\"b\":1,\"ab\":1,\"B\":1,\"ba\":1}}", "{}", 0, "'B' 'ab' 'b' 'ba'");
        proposed("{\"properties\":{\"~\":1,\" \":1,\"!\":1,\"z\":1,\"0\":1}}", "{}", 0,
                "' ' '!' '0' 'z' '~'");
        proposed("{\"properties\":{\"a!\":1,\"a\":1,\"a \":1,\"b\":1,\"\":1}}", "{}", 0,
                "'' 'a' 'a ' 'a!' 'b'");
        proposed("{\"properties\":{\"a \":1,\"a!\":1,\"a\":1}}", "{}", 0, "'a' 'a ' 'a!'");
        proposed("{\"properties\":{\"ac\":1,\"abz\":1,\"ab~~\":1}}", "{}", 0, "'abz' 'ab~~' 'ac'");
        proposed("{\"properties\":{\"z\":1},\"allof\":[{\"properties\":{\"a\":1}},"
                + "{\"properties\":{\"m\":1}}]}", "{}", 0, "'a' 'm' 'z'");
    }

    private static void ofAllProperties() {
        check.about("(the most and the longest names that a schema can have)");
        // Twenty-eight names of a letter fill the schema: each has five places with its comma.
        StringBuilder schema = new StringBuilder("{\"properties\":{");
        StringBuilder due = new StringBuilder();
        for (char c = 'A' + 27; c >= 'A'; c--) {
            schema.append('"').append(c).append("\":1");
            due.insert(0, "'" + c + "' ");
        }
        check.same("length", schema.length(), 15 + 28 * 5);
        proposed(schema.toString(), "{", 0, due.toString().trim());
        String longest = "z".repeat(160 - 19);
        proposed("{\"properties\":{\"" + longest + "\":1", "{}", 0, "'" + longest + "'");
        SchemaDesk desk = Check.desk("{\"properties\":{\"a\":1,\"b\":1}}", "{}");
        check.same("two names", desk.propose(0), 2);
        desk.remove(0, 0, desk.length(0));
        Check.fill(desk, 0, "{\"properties\":{\"" + longest + "\":1");
        check.same("the longest behind two", Check.proposals(desk, desk.propose(0)),
                "'" + longest + "'");
    }
}
