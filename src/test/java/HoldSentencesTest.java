/** The document's sentences on equalling, holding and circles that name a boundary case. */
public final class HoldSentencesTest {
    private static final Check check = new Check();
    private static final String[] KINDS = {"null", "false", "true", "1", "\"a\"", "[1]", "{\"a\":1}"};

    public static void main(String[] args) {
        sameKind();
        equalNumbers();
        equalStrings();
        equalArrays();
        equalObjects();
        firstOfAName();
        alwaysOrNever();
        anotherKindSaysNothing();
        noOtherName();
        noOthersChildren();
        endOfTheText();
        mostNodes();
        type();
        typesInArray();
        constant();
        enumeration();
        min();
        max();
        multiple();
        minlength();
        maxlength();
        minitems();
        maxitems();
        required();
        properties();
        additional();
        items();
        allof();
        anyof();
        oneof();
        not();
        refToNodeZero();
        refToDefs();
        refWithoutTarget();
        unevaluated();
        evaluatedByProperties();
        evaluatedByAdditional();
        evaluatedInside();
        evaluatedByHavingUnevaluated();
        circles();
        noCircles();
        check.end();
    }

    private static void holds(String schema, String document) {
        check.same(schema + " for " + document, Check.desk(schema, document).holds(0, 0), true);
    }

    private static void fails(String schema, String document) {
        check.same(schema + " for " + document, Check.desk(schema, document).holds(0, 0), false);
    }

    private static void equal(String first, String second, boolean due) {
        String schema = "{\"const\":" + first + "}";
        check.same(schema + " for " + second, Check.desk(schema, second).holds(0, 0), due);
    }

    private static void sameKind() {
        check.about("A node EQUALS another one of the same kind, if they are .. NULLs, FALSEs or"
                + " TRUEs.");
        for (int a = 0; a < KINDS.length; a++) {
            for (int b = 0; b < KINDS.length; b++) {
                equal(KINDS[a], KINDS[b], a == b);
            }
        }
        equal("0", "null", false);
        equal("\"\"", "null", false);
        equal("[]", "{}", false);
        equal("{}", "[]", false);
        equal("\"1\"", "1", false);
        equal("nul", "x", true);
    }

    private static void equalNumbers() {
        check.about("NUMBERS of one number,");
        equal("0", "-0", true);
        equal("-", "0", true);
        equal("007", "7", true);
        equal("7", "-7", false);
        equal("999999", "999998", false);
        equal("999999", "999999", true);
        equal("1234567", "1234569", true);
        equal("-999999", "-999999", true);
    }

    private static void equalStrings() {
        check.about("STRINGS of the same characters,");
        equal("\"\"", "\"\"", true);
        equal("\"\"", "\"a\"", false);
        equal("\"a\"", "\"\"", false);
        equal("\"ab\"", "\"a\"", false);
        equal("\"a\"", "\"ab\"", false);
        equal("\"ab\"", "\"ac\"", false);
        equal("\"bc\"", "\"ac\"", false);
        equal("\"a\"", "\"A\"", false);
        equal("\"a\"", "\"a \"", false);
        equal("\"a\"", "\"a", true);
        equal("\"\"", "\"", true);
    }

    private static void equalArrays() {
        check.about("ARRAYS of as many children, the first's equalling the second's one by one,");
        equal("[]", "[]", true);
        equal("[]", "[1]", false);
        equal("[1]", "[]", false);
        equal("[1,2]", "[1]", false);
        equal("[1]", "[1,2]", false);
        equal("[1,2]", "[1,2]", true);
        equal("[1,2]", "[2,1]", false);
        equal("[1,2]", "[1,3]", false);
        equal("[[1],2]", "[[1],2]", true);
        equal("[[1],2]", "[1,[2]]", false);
        equal("[[1,2],3]", "[[1],2,3]", false);
        equal("[[],[[]]]", "[[[]],[]]", false);
        equal("[[[[[[[]]]]]]]", "[[[[[[[]]]]]]]", true);
        equal("[[[[[[[0]]]]]]]", "[[[[[[[1]]]]]]]", false);
    }

    private static void equalObjects() {
        check.about("OBJECTS of as many children, each child of the first one equalling the second"
                + " one's child of its name;");
        equal("{}", "{}", true);
        equal("{}", "{\"a\":1}", false);
        equal("{\"a\":1}", "{}", false);
        equal("{\"a\":1}", "{\"a\":1,\"b\":1}", false);
        equal("{\"a\":1,\"b\":1}", "{\"a\":1}", false);
        equal("{\"a\":1,\"b\":2}", "{\"b\":2,\"a\":1}", true);
        equal("{\"a\":1,\"b\":2}", "{\"a\":2,\"b\":1}", false);
        equal("{\"a\":1}", "{\"b\":1}", false);
        equal("{\"\":1}", "{\"\":1}", true);
        equal("{\"\":1}", "{\"a\":1}", false);
        equal("{\"a\":{\"b\":[1]}}", "{\"a\":{\"b\":[1]}}", true);
        equal("{\"a\":{\"b\":[1]}}", "{\"a\":{\"b\":[2]}}", false);
        equal("{\"a\":{\"b\":{}}}", "{\"a\":{\"c\":{}}}", false);
    }

    private static void firstOfAName() {
        check.about("\"Child of a name\" means the first one always.");
        equal("{\"a\":1,\"a\":1}", "{\"a\":1,\"b\":2}", true);
        equal("{\"a\":1,\"a\":2}", "{\"a\":1,\"a\":2}", false);
        equal("{\"a\":1,\"b\":2}", "{\"a\":1,\"a\":2}", false);
        equal("{\"a\":1,\"a\":1}", "{\"a\":1,\"a\":2}", true);
        fails("{\"min\":3,\"min\":1}", "2");
        holds("{\"min\":1,\"min\":3}", "2");
        holds("{\"min\":true,\"min\":3}", "2");
        holds("{\"properties\":{\"a\":true,\"a\":false}}", "{\"a\":1}");
        fails("{\"properties\":{\"a\":false,\"a\":true}}", "{\"a\":1}");
        fails("{\"properties\":{\"a\":{\"min\":2}}}", "{\"a\":2,\"a\":1}");
        holds("{\"properties\":{},\"properties\":{\"a\":false}}", "{\"a\":1}");
        holds("{\"properties\":1,\"properties\":{\"a\":false}}", "{\"a\":1}");
        fails("{\"properties\":1,\"properties\":{\"a\":1},\"additional\":false}", "{\"a\":1}");
        fails("{\"ref\":\"#a\",\"defs\":{\"a\":false,\"a\":true}}", "1");
        fails("{\"ref\":\"#a\",\"defs\":1,\"defs\":{\"a\":true}}", "1");
        holds("{\"min\":,\"min\":1}", "2");
        fails("{\"min\":,\"min\":3}", "2");
    }

    private static void alwaysOrNever() {
        check.about("A node s of the schema HOLDS for a node i of the document: always, if it isn't"
                + " FALSE or an OBJECT; never, if it is FALSE;");
        for (String document : KINDS) {
            fails("false", document);
            for (String schema : new String[] {
                "null", "true", "0", "\"\"", "\"false\"", "[]", "[false]", "{}", "nul", "fals",
            }) {
                holds(schema, document);
            }
        }
    }

    private static void anotherKindSaysNothing() {
        check.about("one of another kind than said here says nothing");
        String[] names = {
            "type", "enum", "min", "max", "multiple", "minlength", "maxlength", "minitems",
            "maxitems", "required", "properties", "allof", "anyof", "oneof", "ref",
        };
        String[] said = {"45", "5", "3", "3", "3", "3", "3", "3", "3", "5", "6", "5", "5", "5", "4"};
        for (int n = 0; n < names.length; n++) {
            for (int kind = 0; kind < KINDS.length; kind++) {
                if (said[n].indexOf('0' + kind) < 0) {
                    for (String document : KINDS) {
                        holds("{\"" + names[n] + "\":" + KINDS[kind] + "}", document);
                    }
                }
            }
        }
    }

    private static void noOtherName() {
        check.about("an OBJECT if all that these children of s say is so (each by its name;");
        fails("{\"max\":2,\"min\":1}", "3");
        fails("{\"max\":5,\"min\":4}", "3");
        holds("{\"max\":5,\"min\":1}", "3");
        holds("{\"Max\":2,\"ma\":2,\"maxi\":2,\" max\":2,\"\":false,\"defs\":false}", "3");
        holds("{\"a\":{\"max\":2}}", "3");
        holds("{\"x\":\"null\",\"min\":3,\"min\":\"null\"}", "3");
    }

    private static void noOthersChildren() {
        check.about("all that these children of s say (and not what stands behind them)");
        check.same("a node before a max", Check.desk("{\"not\":{\"min\":1},\"max\":5}", "6")
                .holds(1, 0), true);
        holds("{\"not\":{\"additional\":false},\"properties\":{\"a\":1}}", "{\"a\":1}");
        fails("{\"type\":[1],\"x\":\"number\"}", "1");
        fails("{\"enum\":[2],\"x\":1}", "1");
        holds("{\"required\":[\"a\"],\"x\":\"b\"}", "{\"a\":1}");
        holds("{\"allof\":[1],\"x\":false}", "1");
        fails("{\"anyof\":[false],\"x\":true}", "1");
        holds("{\"oneof\":[1],\"x\":true}", "1");
        fails("{\"unevaluated\":false,\"anyof\":[1],\"x\":{\"properties\":{\"a\":1}}}", "{\"a\":1}");
        check.same("an ARRAY before another child", Check.desk("{\"items\":{\"max\":1}}",
                "[[1],2]").holds(0, 1), true);
        // What the anyof's node evaluates of the inner OBJECT is nothing of the outer one.
        fails("{\"unevaluated\":{\"max\":0},\"anyof\":[{\"properties\":{\"b\":1},\"required\":[\"z\"]},"
                + "1]}", "{\"a\":{\"z\":1},\"b\":1}");
        fails("{\"unevaluated\":{\"max\":0},\"anyof\":[{\"properties\":{\"b\":1},\"required\":[\"z\"]},"
                + "1]}", "{\"b\":1,\"a\":{\"z\":1,\"b\":1}}");
    }

    /** A desk whose texts had some characters more that were removed again. */
    private static SchemaDesk shortened(String schema, String document, String more) {
        SchemaDesk desk = Check.desk(schema + more, document + more);
        desk.nodes(0);
        desk.nodes(1);
        desk.remove(0, schema.length(), more.length());
        desk.remove(1, document.length(), more.length());
        return desk;
    }

    private static void endOfTheText() {
        check.about("STRING: .. if there is none, up to the end of the text (though others stood"
                + " behind it before, or the text is full)");
        for (String more : new String[] {"c", "\"", "cd", "}"}) {
            check.same("schema's end, " + more,
                    shortened("{\"const\":\"ab", "\"ab\"", more).holds(0, 0), true);
            check.same("document's end, " + more,
                    shortened("{\"const\":\"ab\"}", "\"ab", more).holds(0, 0), true);
            check.same("both ends, " + more,
                    shortened("{\"const\":\"ab", "\"ab", more).holds(0, 0), true);
            check.same("schema's end, longer document, " + more,
                    shortened("{\"const\":\"ab", "\"abc\"", more).holds(0, 0), false);
            check.same("longer schema, document's end, " + more,
                    shortened("{\"const\":\"abc\"}", "\"ab", more).holds(0, 0), false);
            check.same("length, " + more,
                    shortened("{\"maxlength\":2}", "\"ab", more).holds(0, 0), true);
            check.same("ref, " + more, shortened("{\"defs\":{\"ab\":false,\"abc\":1},\"ref\":\"#ab",
                    "1", more).holds(0, 0), false);
            check.same("no ref, " + more, shortened("{\"defs\":{\"c\":1},\"ref\":\"", "1",
                    more.replace('c', '#')).holds(0, 0), false);
            check.same("type, " + more, shortened("{\"type\":\"number", "1", more).holds(0, 0),
                    true);
        }
        String full = "{" + " ".repeat(148) + "\"const\":\"ab";
        check.same("length", full.length(), 160);
        holds(full, "\"ab\"");
        holds(full, "\"ab");
        holds(full, " ".repeat(77) + "\"ab");
        fails(full, " ".repeat(76) + "\"abc");
        fails(full, " ".repeat(78) + "\"a");
        holds("{\"const\":\"ab\"}", " ".repeat(77) + "\"ab");
        fails("{\"const\":\"abc\"}", " ".repeat(77) + "\"ab");
        fails("{\"minlength\":3}", " ".repeat(77) + "\"ab");
        fails("{\"defs\":{\"a\":false}," + " ".repeat(130) + "\"ref\":\"#a", "1");
    }

    private static void mostNodes() {
        check.about("A node s of the schema HOLDS for a node i of the document: (the last of as many"
                + " as there can be)");
        SchemaDesk wide = Check.desk("[" + "-".repeat(159), "[" + "-".repeat(79));
        check.same("nodes", wide.nodes(0) + wide.nodes(1), 240);
        check.same("the last for the last", wide.holds(159, 79), true);
        // Nodes 1, 3, .. 63 are NUMBERS and 65, 67, .. are not, those between the other way.
        SchemaDesk desk = Check.desk("[" + "-".repeat(144) + "{\"type\":\"null\"}",
                "[" + "1a".repeat(32) + " " + "a1".repeat(7));
        check.same("nodes of the schema", desk.nodes(0), 147);
        check.same("nodes of the document", desk.nodes(1), 79);
        for (int i = 1; i < 79; i++) {
            boolean due = i % 2 == 0 ? i <= 64 : i > 64;
            check.same("for node " + i, desk.holds(145, i), due);
        }
    }

    private static void type() {
        check.about("1 type: v a STRING, and i is of the kind null, boolean (FALSE or TRUE), number,"
                + " string, array, object that it says (of none, if it says something else);");
        String[] types = {"null", "boolean", "boolean", "number", "string", "array", "object"};
        for (String said : new String[] {
            "null", "boolean", "number", "string", "array", "object", "", "false", "true", "Null",
            "nul", "numbers", "objec", "null ", "type", "integer",
        }) {
            for (int kind = 0; kind < KINDS.length; kind++) {
                boolean due = types[kind].equals(said);
                String schema = "{\"type\":\"" + said + "\"}";
                check.same(schema + " for " + KINDS[kind],
                        Check.desk(schema, KINDS[kind]).holds(0, 0), due);
            }
        }
    }

    private static void typesInArray() {
        check.about("or v an ARRAY, and one of its children that are STRINGS says so.");
        fails("{\"type\":[]}", "1");
        fails("{\"type\":[]}", "null");
        holds("{\"type\":[\"number\"]}", "1");
        holds("{\"type\":[\"null\",\"number\"]}", "1");
        holds("{\"type\":[\"number\",\"null\"]}", "1");
        fails("{\"type\":[\"null\",\"string\"]}", "1");
        holds("{\"type\":[1,\"number\"]}", "1");
        fails("{\"type\":[1,null]}", "1");
        fails("{\"type\":[[\"number\"]]}", "1");
        fails("{\"type\":[{\"type\":\"number\"},true]}", "1");
    }

    private static void constant() {
        check.about("2 const: v equals i.");
        for (int a = 0; a < KINDS.length; a++) {
            holds("{\"const\":" + KINDS[a] + "}", KINDS[a]);
            fails("{\"const\":" + KINDS[a] + "}", "2");
        }
    }

    private static void enumeration() {
        check.about("3 enum: v an ARRAY, a child of which equals i.");
        fails("{\"enum\":[]}", "1");
        fails("{\"enum\":[]}", "[]");
        holds("{\"enum\":[1]}", "1");
        holds("{\"enum\":[2,1]}", "1");
        holds("{\"enum\":[1,2]}", "1");
        fails("{\"enum\":[2,3]}", "1");
        fails("{\"enum\":[[1]]}", "1");
        holds("{\"enum\":[[1]]}", "[1]");
        fails("{\"enum\":[1]}", "[1]");
        fails("{\"enum\":[{\"a\":1,\"b\":2}]}", "{\"a\":1,\"a\":2}");
    }

    private static void min() {
        check.about("Of i a NUMBER, v a NUMBER: 4 min: i is at least v.");
        fails("{\"min\":3}", "2");
        holds("{\"min\":3}", "3");
        holds("{\"min\":3}", "4");
        fails("{\"min\":0}", "-1");
        holds("{\"min\":0}", "-0");
        fails("{\"min\":-999998}", "-999999");
        holds("{\"min\":-999999}", "-999999");
        fails("{\"min\":999999}", "999998");
        fails("{\"min\":1}", "-");
        notOfNumbers("min\":9");
    }

    private static void notOfNumbers(String said) {
        for (String document : new String[] {"null", "true", "\"1\"", "[1]", "{\"a\":1}"}) {
            holds("{\"" + said + "}", document);
        }
    }

    private static void max() {
        check.about("5 max: i is at most v.");
        holds("{\"max\":3}", "2");
        holds("{\"max\":3}", "3");
        fails("{\"max\":3}", "4");
        holds("{\"max\":-1}", "-1");
        fails("{\"max\":-1}", "0");
        fails("{\"max\":-999999}", "999999");
        holds("{\"max\":999999}", "999999");
        notOfNumbers("max\":-9");
    }

    private static void multiple() {
        check.about("6 multiple: v is above 0 (else nothing is said), i a multiple of it.");
        holds("{\"multiple\":0}", "7");
        holds("{\"multiple\":0}", "0");
        holds("{\"multiple\":-1}", "7");
        holds("{\"multiple\":-2}", "7");
        holds("{\"multiple\":-}", "7");
        holds("{\"multiple\":1}", "7");
        fails("{\"multiple\":2}", "7");
        holds("{\"multiple\":2}", "8");
        holds("{\"multiple\":2}", "0");
        holds("{\"multiple\":2}", "-8");
        fails("{\"multiple\":2}", "-7");
        fails("{\"multiple\":8}", "4");
        holds("{\"multiple\":999999}", "-999999");
        notOfNumbers("multiple\":7");
    }

    private static void minlength() {
        check.about("Of i a STRING, v a NUMBER: 7 minlength, .. it has at least .. so many"
                + " characters.");
        holds("{\"minlength\":0}", "\"\"");
        fails("{\"minlength\":1}", "\"\"");
        holds("{\"minlength\":-1}", "\"\"");
        fails("{\"minlength\":3}", "\"ab\"");
        holds("{\"minlength\":2}", "\"ab\"");
        holds("{\"minlength\":2}", "\"ab");
        fails("{\"minlength\":3}", "\"ab");
        fails("{\"minlength\":1}", "\"");
        holds("{\"minlength\":79}", "\"" + "z".repeat(79));
        fails("{\"minlength\":80}", "\"" + "z".repeat(79));
        for (String document : new String[] {"null", "12", "[1]", "{\"a\":1}"}) {
            holds("{\"minlength\":9}", document);
        }
    }

    private static void maxlength() {
        check.about("8 maxlength: it has .. at most, so many characters.");
        holds("{\"maxlength\":0}", "\"\"");
        fails("{\"maxlength\":-1}", "\"\"");
        fails("{\"maxlength\":1}", "\"ab\"");
        holds("{\"maxlength\":2}", "\"ab\"");
        fails("{\"maxlength\":1}", "\"ab");
        holds("{\"maxlength\":2}", "\"ab");
        fails("{\"maxlength\":77}", "\"" + "z".repeat(78) + "\"");
        holds("{\"maxlength\":78}", "\"" + "z".repeat(78) + "\"");
        for (String document : new String[] {"null", "12", "[1]", "{\"a\":1}"}) {
            holds("{\"maxlength\":-1}", document);
        }
    }

    private static void minitems() {
        check.about("Of i an ARRAY, v a NUMBER: 9 minitems, .. likewise children.");
        holds("{\"minitems\":0}", "[]");
        fails("{\"minitems\":1}", "[]");
        holds("{\"minitems\":-1}", "[]");
        holds("{\"minitems\":2}", "[1,2]");
        fails("{\"minitems\":3}", "[1,2]");
        fails("{\"minitems\":3}", "[1,[2,3]]");
        for (String document : new String[] {"null", "12", "\"ab\"", "{\"a\":1}"}) {
            holds("{\"minitems\":9}", document);
        }
    }

    private static void maxitems() {
        check.about("10 maxitems: likewise children.");
        holds("{\"maxitems\":0}", "[]");
        fails("{\"maxitems\":-1}", "[]");
        fails("{\"maxitems\":0}", "[1]");
        holds("{\"maxitems\":2}", "[1,2]");
        fails("{\"maxitems\":1}", "[1,2]");
        holds("{\"maxitems\":2}", "[1,[2,3]]");
        holds("{\"maxitems\":79}", "[" + "-".repeat(79));
        fails("{\"maxitems\":78}", "[" + "-".repeat(79));
        for (String document : new String[] {"null", "12", "\"ab\"", "{\"a\":1}"}) {
            holds("{\"maxitems\":-1}", document);
        }
    }

    private static void required() {
        check.about("Of i an OBJECT: 11 required: v an ARRAY; i has a child of each name that is a"
                + " STRING in v.");
        holds("{\"required\":[]}", "{}");
        fails("{\"required\":[\"a\"]}", "{}");
        fails("{\"required\":[\"\"]}", "{}");
        holds("{\"required\":[\"\"]}", "{\"\":1}");
        holds("{\"required\":[\"a\",\"b\"]}", "{\"b\":1,\"a\":1}");
        fails("{\"required\":[\"a\",\"b\"]}", "{\"a\":1}");
        fails("{\"required\":[\"a\",\"b\"]}", "{\"b\":1}");
        holds("{\"required\":[\"a\",\"a\"]}", "{\"a\":null}");
        fails("{\"required\":[\"ab\"]}", "{\"a\":1}");
        fails("{\"required\":[\"a\"]}", "{\"ab\":1}");
        fails("{\"required\":[\"a\"]}", "{\"b\":{\"a\":1}}");
        fails("{\"required\":[\"a\"]}", "{\"a\":}");
        holds("{\"required\":[1,null,[\"a\"],{\"a\":\"a\"}]}", "{}");
        fails("{\"required\":[1,\"a\"]}", "{}");
        for (String document : new String[] {"null", "1", "\"a\"", "[]", "[\"a\"]"}) {
            holds("{\"required\":[\"a\"]}", document);
        }
    }

    private static void properties() {
        check.about("12 properties: v an OBJECT; each child of i whose name v has, is held for by"
                + " v's child of that name.");
        holds("{\"properties\":{}}", "{\"a\":1}");
        holds("{\"properties\":{\"a\":false}}", "{}");
        fails("{\"properties\":{\"a\":false}}", "{\"a\":1}");
        fails("{\"properties\":{\"\":false}}", "{\"\":1}");
        holds("{\"properties\":{\"a\":false}}", "{\"ab\":1,\"\":1,\"A\":1}");
        holds("{\"properties\":{\"a\":false}}", "{\"b\":{\"a\":1}}");
        fails("{\"properties\":{\"b\":true,\"a\":false}}", "{\"b\":1,\"a\":1}");
        fails("{\"properties\":{\"b\":{\"max\":0},\"a\":true}}", "{\"a\":1,\"b\":1}");
        holds("{\"properties\":{\"b\":{\"max\":0},\"a\":true}}", "{\"a\":1,\"b\":0}");
        for (String document : new String[] {"null", "1", "\"a\"", "[]", "[\"a\"]"}) {
            holds("{\"properties\":{\"a\":false}}", document);
        }
    }

    private static void additional() {
        check.about("13 additional: v holds for each child of i whose name the properties of s (an"
                + " OBJECT, if there) don't have.");
        holds("{\"additional\":false}", "{}");
        fails("{\"additional\":false}", "{\"a\":1}");
        fails("{\"additional\":false}", "{\"\":1}");
        holds("{\"additional\":[false]}", "{\"a\":1}");
        holds("{\"additional\":false,\"properties\":{\"a\":1}}", "{\"a\":1}");
        fails("{\"additional\":false,\"properties\":{\"a\":1}}", "{\"a\":1,\"b\":1}");
        fails("{\"additional\":false,\"properties\":{}}", "{\"a\":1}");
        fails("{\"additional\":false,\"properties\":[\"a\"]}", "{\"a\":1}");
        fails("{\"additional\":false,\"properties\":{\"a\"}}", "{\"a\":1}");
        holds("{\"additional\":{\"max\":1}}", "{\"a\":1,\"b\":0}");
        fails("{\"additional\":{\"max\":1}}", "{\"a\":1,\"b\":2}");
        fails("{\"additional\":false,\"allof\":[{\"properties\":{\"a\":1}}]}", "{\"a\":1}");
        for (String document : new String[] {"null", "1", "\"a\"", "[]", "[\"a\"]"}) {
            holds("{\"additional\":false}", document);
        }
    }

    private static void items() {
        check.about("14 items: i an ARRAY; v holds for each child.");
        holds("{\"items\":false}", "[]");
        fails("{\"items\":false}", "[1]");
        holds("{\"items\":{\"max\":1}}", "[1,0]");
        fails("{\"items\":{\"max\":1}}", "[1,2]");
        fails("{\"items\":{\"max\":1}}", "[2,1]");
        holds("{\"items\":{\"max\":1}}", "[[2]]");
        holds("{\"items\":[false]}", "[1]");
        for (String document : new String[] {"null", "1", "\"a\"", "{}", "{\"a\":1}"}) {
            holds("{\"items\":false}", document);
        }
        holds("{\"items\":1,\"type\":\"object\"}", "{\"a\":1}");
    }

    private static void allof() {
        check.about("15 allof, v an ARRAY; all its children .. hold for i.");
        holds("{\"allof\":[]}", "1");
        holds("{\"allof\":[true]}", "1");
        fails("{\"allof\":[false]}", "1");
        fails("{\"allof\":[true,false]}", "1");
        fails("{\"allof\":[false,true]}", "1");
        holds("{\"allof\":[{\"min\":1},{\"max\":1}]}", "1");
        holds("{\"allof\":[[false]]}", "1");
    }

    private static void anyof() {
        check.about("16 anyof, v an ARRAY; at least one .. hold for i.");
        fails("{\"anyof\":[]}", "1");
        holds("{\"anyof\":[true]}", "1");
        fails("{\"anyof\":[false]}", "1");
        fails("{\"anyof\":[false,{\"min\":2}]}", "1");
        holds("{\"anyof\":[false,true]}", "1");
        holds("{\"anyof\":[true,false]}", "1");
        holds("{\"anyof\":[true,true]}", "1");
    }

    private static void oneof() {
        check.about("17 oneof: v an ARRAY; just one, hold for i.");
        fails("{\"oneof\":[]}", "1");
        holds("{\"oneof\":[true]}", "1");
        fails("{\"oneof\":[false]}", "1");
        fails("{\"oneof\":[true,true]}", "1");
        holds("{\"oneof\":[false,true]}", "1");
        holds("{\"oneof\":[true,false]}", "1");
        fails("{\"oneof\":[true,false,true]}", "1");
        fails("{\"oneof\":[false,false]}", "1");
    }

    private static void not() {
        check.about("18 not: v doesn't hold for i.");
        holds("{\"not\":false}", "1");
        fails("{\"not\":{}}", "1");
        fails("{\"not\":[false]}", "1");
        fails("{\"not\":null}", "1");
        holds("{\"not\":{\"max\":0}}", "1");
        fails("{\"not\":{\"max\":1}}", "1");
        fails("{\"not\":{\"max\":0}}", "null");
    }

    private static void refToNodeZero() {
        check.about("19 ref: v a STRING; the TARGET holds for i: # is node 0;");
        String schema = "{\"max\":1,\"items\":{\"ref\":\"#\"}}";
        holds(schema, "[1,[0]]");
        fails(schema, "[1,[2]]");
        fails(schema, "[2]");
        check.same("# is an ARRAY there", Check.desk("[{\"ref\":\"#\"}]", "1").holds(1, 0), true);
        fails("{\"items\":{\"ref\":\"# \"}}", "[1]");
        fails("{\"items\":{\"ref\":\"##\"}}", "[1]");
        fails("{\"items\":{\"ref\":\" #\"}}", "[1]");
    }

    private static void refToDefs() {
        check.about("#name with a name behind it the child of that name of the child defs (an"
                + " OBJECT) of node 0 (an OBJECT);");
        holds("{\"ref\":\"#a\",\"defs\":{\"a\":{\"max\":1}}}", "1");
        fails("{\"ref\":\"#a\",\"defs\":{\"a\":{\"max\":1}}}", "2");
        fails("{\"ref\":\"#b\",\"defs\":{\"a\":true,\"b\":false}}", "1");
        holds("{\"defs\":{\"a\":false,\"b\":true},\"ref\":\"#b\"}", "1");
        holds("{\"defs\":{\"#\":true},\"ref\":\"##\"}", "1");
        holds("{\"defs\":{\" \":true},\"ref\":\"# \"}", "1");
        holds("{\"defs\":{\"a\":[]},\"ref\":\"#a\"}", "1");
        holds("{\"defs\":{\"a\":1},\"ref\":\"#a", "1");
        holds("{\"items\":{\"ref\":\"#a\"},\"defs\":{\"a\":{\"max\":1}}}", "[1]");
        fails("{\"items\":{\"ref\":\"#a\"},\"defs\":{\"a\":{\"max\":1}}}", "[2]");
    }

    private static void refWithoutTarget() {
        check.about("without a target it isn't so.");
        fails("{\"ref\":\"#a\"}", "1");
        fails("{\"ref\":\"\"}", "1");
        fails("{\"ref\":\"a\",\"defs\":{\"a\":1}}", "1");
        fails("{\"ref\":\"\",\"defs\":{\"\":1}}", "1");
        fails("{\"ref\":\"#a\",\"defs\":{}}", "1");
        fails("{\"ref\":\"#a\",\"defs\":{\"ab\":1,\"A\":1,\"\":1}}", "1");
        fails("{\"ref\":\"#ab\",\"defs\":{\"a\":1}}", "1");
        fails("{\"ref\":\"#a\",\"defs\":[1]}", "1");
        fails("{\"ref\":\"#a\",\"defs\":\"a\"}", "1");
        fails("{\"ref\":\"#{\",\"defs\":[1]}", "1");
        fails("{\"ref\":\"#a\",\"defs\":{\"a\":}}", "1");
        fails("{\"ref\":\"#a\",\"a\":1}", "1");
        fails("{\"ref\":\"#a\",\"defs\":{\"b\":{\"a\":1}}}", "1");
        fails("{\"ref\":\"", "1");
        fails("{" + " ".repeat(152) + "\"ref\":\"", "1");
        check.same("node 0 is no OBJECT", Check.desk("[{\"ref\":\"#a\",\"defs\":{\"a\":1}}]", "1")
                .holds(1, 0), false);
        fails("{\"items\":{\"ref\":\"#a\",\"defs\":{\"a\":1}}}", "[1]");
    }

    private static void unevaluated() {
        check.about("20 unevaluated: i an OBJECT; v holds for each child of i that s did not"
                + " EVALUATE by the others:");
        holds("{\"unevaluated\":false}", "{}");
        fails("{\"unevaluated\":false}", "{\"a\":1}");
        fails("{\"unevaluated\":false}", "{\"\":1}");
        holds("{\"unevaluated\":[false]}", "{\"a\":1}");
        holds("{\"unevaluated\":{\"max\":1}}", "{\"a\":1,\"b\":0}");
        fails("{\"unevaluated\":{\"max\":1}}", "{\"a\":1,\"b\":2}");
        fails("{\"unevaluated\":{\"max\":1}}", "{\"a\":2,\"b\":1}");
        fails("{\"unevaluated\":false,\"required\":[\"a\"],\"not\":false}", "{\"a\":1}");
        for (String document : new String[] {"null", "1", "\"a\"", "[]", "[\"a\"]"}) {
            holds("{\"unevaluated\":false}", document);
        }
    }

    private static void evaluatedByProperties() {
        check.about("by properties, all children of i whose name v has;");
        holds("{\"unevaluated\":false,\"properties\":{\"a\":1}}", "{\"a\":1}");
        fails("{\"unevaluated\":false,\"properties\":{\"a\":1}}", "{\"a\":1,\"b\":1}");
        fails("{\"unevaluated\":false,\"properties\":{}}", "{\"a\":1}");
        fails("{\"unevaluated\":false,\"properties\":[\"a\"]}", "{\"a\":1}");
        fails("{\"unevaluated\":false,\"properties\":{\"ab\":1}}", "{\"a\":1}");
        holds("{\"unevaluated\":false,\"properties\":{\"a\":1}}", "{\"a\":1,\"a\":2}");
        holds("{\"unevaluated\":false,\"properties\":{\"\":1}}", "{\"\":1}");
    }

    private static void evaluatedByAdditional() {
        check.about("by additional, all of which it speaks;");
        holds("{\"unevaluated\":false,\"additional\":1}", "{\"a\":1}");
        holds("{\"unevaluated\":false,\"additional\":1,\"properties\":{\"a\":1}}",
                "{\"a\":1,\"b\":1}");
        fails("{\"unevaluated\":false,\"items\":1}", "{\"a\":1}");
        // What properties speak of, additional doesn't; here it is evaluated by the former only.
        holds("{\"unevaluated\":false,\"allof\":[{\"additional\":1,\"properties\":{\"a\":1}}]}",
                "{\"a\":1}");
    }

    private static void evaluatedInside() {
        check.about("by allof, anyof, oneof and ref, what those of their nodes that hold for i"
                + " evaluate of it,");
        String a = "{\"properties\":{\"a\":1}}";
        String never = "{\"properties\":{\"a\":1},\"required\":[\"z\"]}";
        for (String word : new String[] {"allof", "anyof", "oneof"}) {
            String head = "{\"unevaluated\":false,\"" + word + "\":";
            holds(head + "[" + a + "]}", "{\"a\":1}");
            fails(head + "[" + a + "]}", "{\"a\":1,\"b\":1}");
            fails(head + "[" + never + ",{}]}", "{\"a\":1}");
            holds(head + "[{\"allof\":[" + a + "]}]}", "{\"a\":1}");
            fails(head + "[]}", "{\"a\":1}");
            fails(head + "{\"a\":" + a + "}}", "{\"a\":1}");
            fails(head + "[1]}", "{\"a\":1}");
            fails(head + "[[" + a + "]]}", "{\"a\":1}");
        }
        holds("{\"unevaluated\":false,\"anyof\":[" + never + "," + a + "]}", "{\"a\":1}");
        holds("{\"unevaluated\":false,\"anyof\":[" + a + "," + never + "]}", "{\"a\":1}");
        holds("{\"unevaluated\":false,\"anyof\":[" + a + ",{\"properties\":{\"b\":1}}]}",
                "{\"a\":1,\"b\":1}");
        String head = "{\"unevaluated\":false,\"ref\":\"#x\",\"defs\":{\"x\":";
        holds(head + a + "}}", "{\"a\":1}");
        fails(head + a + "}}", "{\"b\":1}");
        fails(head + "1}}", "{\"a\":1}");
        fails("{\"x\":" + a + ",\"ref\":5,\"unevaluated\":false}", "{\"a\":1}");
        fails("{\"unevaluated\":false,\"not\":{\"not\":" + a + "}}", "{\"a\":1}");
        fails("{\"unevaluated\":false,\"properties\":{\"a\":{\"properties\":{\"b\":1}}}}",
                "{\"a\":{},\"b\":1}");
    }

    private static void evaluatedByHavingUnevaluated() {
        check.about("where an OBJECT s evaluates of i all that it evaluates by these, and all"
                + " children of i if it has unevaluated.");
        holds("{\"unevaluated\":false,\"allof\":[{\"unevaluated\":1}]}", "{\"a\":1,\"b\":1}");
        holds("{\"unevaluated\":false,\"allof\":[{\"unevaluated\":{\"max\":1}}]}", "{\"a\":1}");
        fails("{\"unevaluated\":false,\"anyof\":[{\"unevaluated\":false},1]}", "{\"a\":1}");
        holds("{\"unevaluated\":false,\"allof\":[{\"anyof\":[{\"unevaluated\":1}]}]}", "{\"a\":1}");
        holds("{\"unevaluated\":false,\"ref\":\"#x\",\"defs\":{\"x\":{\"unevaluated\":1}}}",
                "{\"a\":1}");
        fails("{\"unevaluated\":false,\"allof\":[{\"not\":{\"unevaluated\":false}}]}",
                "{\"a\":1}");
        fails("{\"unevaluated\":false,\"unevaluated\":1}", "{\"a\":1}");
        // Its own unevaluated doesn't evaluate for itself.
        fails("{\"unevaluated\":{\"max\":0}}", "{\"a\":1}");
    }

    private static boolean hasCircle(String schema) {
        try {
            Check.desk(schema, "1").holds(0, 0);
            return false;
        } catch (UnsupportedOperationException e) {
            return true;
        }
    }

    private static void circles() {
        check.about("A node of the schema goes in a CIRCLE if one comes from it back to it by allof,"
                + " anyof, oneof (to the children of their ARRAYs), not (to v) and ref (to the"
                + " target).");
        for (String schema : new String[] {
            "{\"ref\":\"#\"}",
            "{\"ref\":\"#",
            "{\"allof\":[{\"ref\":\"#\"}]}",
            "{\"allof\":[1,{},{\"ref\":\"#\"}]}",
            "{\"anyof\":[{\"ref\":\"#\"}]}",
            "{\"oneof\":[{\"ref\":\"#\"}]}",
            "{\"not\":{\"ref\":\"#\"}}",
            "{\"ref\":\"#a\",\"defs\":{\"a\":{\"ref\":\"#\"}}}",
            "{\"defs\":{\"a\":{\"ref\":\"#a\"}}}",
            "{\"defs\":{\"a\":{\"ref\":\"#b\"},\"b\":{\"ref\":\"#c\"},\"c\":{\"ref\":\"#a\"}}}",
            "{\"items\":{\"ref\":\"#a\"},\"defs\":{\"a\":{\"not\":{\"ref\":\"#a\"}}}}",
            "{\"not\":{\"not\":{\"not\":{\"not\":{\"not\":{\"not\":{\"ref\":\"#\"}}}}}}}",
            "{\"ref\":\"#\",\"ref\":1}",
            "{\"defs\":{\"a\":{\"oneof\":[{\"anyof\":[{\"not\":{\"ref\":\"#a\"}}]}]}}}",
        }) {
            check.same("circle in " + schema, hasCircle(schema), true);
        }
    }

    private static void noCircles() {
        check.about("(no CIRCLE by the others, nor without an ARRAY, a target, or a way back)");
        for (String schema : new String[] {
            "{\"properties\":{\"a\":{\"ref\":\"#\"}}}",
            "{\"additional\":{\"ref\":\"#\"}}",
            "{\"items\":{\"ref\":\"#\"}}",
            "{\"unevaluated\":{\"ref\":\"#\"}}",
            "{\"const\":{\"ref\":\"#\"},\"enum\":[{\"ref\":\"#\"}]}",
            "{\"allof\":{\"ref\":\"#\"}}",
            "{\"anyof\":{\"a\":{\"ref\":\"#\"}}}",
            "{\"allof\":[[{\"ref\":\"#\"}]]}",
            "{\"not\":[{\"ref\":\"#\"}]}",
            "{\"ref\":1,\"ref\":\"#\"}",
            "{\"ref\":[\"#\"]}",
            "{\"ref\":[#\"\"]}",
            "{\"not\":{\"x\":1},\"ref\":\"#x\",\"defs\":{\"x\":1}}",
            "{\"ref\":\"#a\"}",
            "{\"ref\":\"#a\",\"defs\":{\"b\":{\"ref\":\"#\"}}}",
            "{\"defs\":{\"a\":{\"ref\":\"#b\"},\"b\":{\"ref\":\"#c\"},\"c\":{}}}",
            "{\"defs\":{\"c\":{},\"b\":{\"ref\":\"#c\"},\"a\":{\"ref\":\"#b\"}}}",
            "{\"allof\":[{\"ref\":\"#a\"},{\"ref\":\"#a\"}],\"defs\":{\"a\":{}}}",
            "{\"ref\":\"#a\",\"defs\":{\"a\":1,\"a\":{\"ref\":\"#\"}}}",
            "[{\"ref\":\"#\"}]",
        }) {
            check.same("circle in " + schema, hasCircle(schema), false);
        }
    }
}
