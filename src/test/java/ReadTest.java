import java.util.NoSuchElementException;

/** Promises 8 to 11: the nodes and faults of a text. */
public final class ReadTest {
    private static final Check check = new Check();

    public static void main(String[] args) {
        wholeText();
        scalars();
        arrays();
        objects();
        depth();
        mostNodesAndFaults();
        fullTexts();
        bothTexts();
        wrongArguments();
        check.end();
    }

    private static void read(String text, String nodes, String faults) {
        SchemaDesk desk = Check.desk("", text);
        check.same("nodes of " + text, Check.nodes(desk, 1), nodes);
        check.same("faults of " + text, Check.faults(desk, 1), faults);
    }

    private static void wholeText() {
        read("", "", "1@0");
        read("   ", "", "1@3");
        read(" ?  A", "", "3@1 3@4 1@5");
        read(" 7 ", "3/1/2/-1/0/-1/7", "");
        read(":, }7", "3/4/5/-1/0/-1/7", "3@0 3@1 3@3");
        read("7 ?8", "3/0/1/-1/0/-1/7", "2@2");
        read("[]  []", "5/0/2/-1/0/-1/0", "2@4");
    }

    private static void scalars() {
        read("null", "0/0/4/-1/0/-1/0", "");
        read("false", "1/0/5/-1/0/-1/0", "");
        read("true", "2/0/4/-1/0/-1/0", "");
        read("nul", "0/0/3/-1/0/-1/0", "7@0");
        read(" trues", "0/1/6/-1/0/-1/0", "7@1");
        read("trueX", "2/0/4/-1/0/-1/0", "2@4");
        read("az", "0/0/2/-1/0/-1/0", "7@0");
        read("string", "0/0/6/-1/0/-1/0", "7@0");
        read("-", "3/0/1/-1/0/-1/0", "5@0");
        read("-12", "3/0/3/-1/0/-1/-12", "");
        read("-0", "3/0/2/-1/0/-1/0", "");
        read("007", "3/0/3/-1/0/-1/7", "");
        read("123456", "3/0/6/-1/0/-1/123456", "");
        read("1234567", "3/0/7/-1/0/-1/123456", "6@0");
        read(" -9876543210", "3/1/12/-1/0/-1/-987654", "6@1");
        read("--1", "3/0/1/-1/0/-1/0", "5@0 2@1");
        read("\"\"", "4/0/2/-1/0/-1/0", "");
        read(" \" {a\" ", "4/1/6/-1/0/-1/0", "");
        read(" \"ab ", "4/1/5/-1/0/-1/0", "4@1");
        read("\"", "4/0/1/-1/0/-1/0", "4@0");
    }

    private static void arrays() {
        read("[]", "5/0/2/-1/0/-1/0", "");
        read("[ 1 , 2 ]", "5/0/9/-1/2/-1/0 3/2/3/0/0/-1/1 3/6/7/0/0/-1/2", "");
        read("[,]", "5/0/3/-1/0/-1/0", "8@1 10@2");
        read("[1,]", "5/0/4/-1/1/-1/0 3/1/2/0/0/-1/1", "10@3");
        read("[1,,2]", "5/0/6/-1/2/-1/0 3/1/2/0/0/-1/1 3/4/5/0/0/-1/2", "8@3");
        read("[1,? ]", "5/0/6/-1/1/-1/0 3/1/2/0/0/-1/1", "3@3 10@5");
        read("[1 2", "5/0/4/-1/2/-1/0 3/1/2/0/0/-1/1 3/3/4/0/0/-1/2", "9@3 4@0");
        read("[1,  ", "5/0/5/-1/1/-1/0 3/1/2/0/0/-1/1", "4@0");
        read("[}:1]", "5/0/5/-1/1/-1/0 3/3/4/0/0/-1/1", "3@1 3@2");
        read("[-true", "5/0/6/-1/2/-1/0 3/1/2/0/0/-1/0 2/2/6/0/0/-1/0", "5@1 9@2 4@0");
        read("[[],[1]]", "5/0/8/-1/2/-1/0 5/1/3/0/0/-1/0 5/4/7/0/1/-1/0 3/5/6/2/0/-1/1", "");
    }

    private static void objects() {
        read("{}", "6/0/2/-1/0/-1/0", "");
        read("{ \"a\" : 1 , \"b\":[] }",
                "6/0/20/-1/2/-1/0 3/8/9/0/0/2/1 5/16/18/0/0/12/0", "");
        read("{\"a\"1}", "6/0/6/-1/1/-1/0 3/4/5/0/0/1/1", "11@4");
        read("{\"a\":}", "6/0/6/-1/0/-1/0", "12@5");
        read("{\"a\"}", "6/0/5/-1/0/-1/0", "11@4 12@4");
        read("{\"a\":,\"a\":1,\"a\":2}",
                "6/0/18/-1/2/-1/0 3/10/11/0/0/6/1 3/16/17/0/0/12/2", "12@5 13@12");
        read("{\"a\":1 \"a\":2}", "6/0/13/-1/2/-1/0 3/5/6/0/0/1/1 3/11/12/0/0/7/2", "9@7 13@7");
        read("{\"a\" \"b\":1}", "6/0/11/-1/1/-1/0 4/5/8/0/0/1/0", "11@5 3@8 3@9");
        read("{\"a\":1,}", "6/0/8/-1/1/-1/0 3/5/6/0/0/1/1", "10@7");
        read("{\"a\",}", "6/0/6/-1/0/-1/0", "11@4 12@4 10@5");
        read("{,\"a\":1,,}", "6/0/10/-1/1/-1/0 3/6/7/0/0/2/1", "8@1 8@8 10@9");
        read("{]ab 1{}", "6/0/8/-1/0/-1/0", "3@1 3@2 3@3 3@5 3@6");
        read("{\"a\":1,\"a", "6/0/9/-1/1/-1/0 3/5/6/0/0/1/1", "4@7 13@7 11@9 12@9 4@0");
        read("{\"a\":1,\"\":2,\"a \":3,\"\":4}", "6/0/24/-1/4/-1/0 3/5/6/0/0/1/1 3/10/11/0/0/7/2"
                + " 3/17/18/0/0/12/3 3/22/23/0/0/19/4", "13@19");
        read("{\"a\":{\"a\":1}}", "6/0/13/-1/1/-1/0 6/5/12/0/1/1/0 3/10/11/1/0/6/1", "");
    }

    private static void depth() {
        read("[[[[[[[[]]]]]]]]", "5/0/16/-1/1/-1/0 5/1/15/0/1/-1/0 5/2/14/1/1/-1/0"
                + " 5/3/13/2/1/-1/0 5/4/12/3/1/-1/0 5/5/11/4/1/-1/0 5/6/10/5/1/-1/0"
                + " 5/7/9/6/0/-1/0", "");
        check.same("ninth [", faults("[[[[[[[[[1]]]]]]]]]"), "14@8 2@18");
        check.same("ninth { in an array", faults("[[[[[[[[{1]]]]]]]]"), "14@8");
        check.same("ninth [ for a value", faults("[[[[[[[{\"\":[1]}]]]]]]]"),
                "12@11 14@11 3@12 3@13");
        check.same("ninth { for a member", faults("[[[[[[[{{[}]]]]]]]"), "14@8 14@9");
        check.same("eighth { for a member", faults("[[[[[[{{}]]]]]]"), "3@7");
        check.same("side by side", faults("[[],[],[],[],[],[],[],[],[]]"), "");
    }

    private static String faults(String text) {
        return Check.faults(Check.desk("", text), 1);
    }

    private static void mostNodesAndFaults() {
        SchemaDesk desk = Check.desk("[[[[[[[[" + "-".repeat(152), "[" + "-".repeat(79));
        check.same("nodes of the schema", desk.nodes(0), 160);
        check.same("faults of the schema", desk.faults(0), 152 + 151 + 8);
        check.same("nodes of the document", desk.nodes(1), 80);
        check.same("last node", desk.node(1, 79, 1), 79);
        check.same("faults of the document", desk.faults(1), 79 + 78 + 1);
        check.same("last fault", desk.fault(1, 157), 4);
        SchemaDesk members = Check.desk("{\"\":1" + "\"\"?".repeat(51) + "\"", "");
        check.same("faults of members", members.faults(0), 5 * 51 + 5 + 1);
    }

    /** The text's last place is the row's last one: nothing may be looked for behind it. */
    private static void fullTexts() {
        String blanks = " ".repeat(72);
        read(" ".repeat(80), "", "1@80");
        read("?".repeat(79) + "1", "3/79/80/-1/0/-1/1",
                Check.faults(Check.desk("", "?".repeat(79)), 1).replace(" 1@79", ""));
        read("z".repeat(80), "0/0/80/-1/0/-1/0", "7@0");
        read("5".repeat(80), "3/0/80/-1/0/-1/555555", "6@0");
        read("\"" + "z".repeat(79), "4/0/80/-1/0/-1/0", "4@0");
        read(blanks + "[       ", "5/72/80/-1/0/-1/0", "4@72");
        read(blanks + "[      -", "5/72/80/-1/1/-1/0 3/79/80/0/0/-1/0", "5@79 4@72");
        read(blanks + "[     1,", "5/72/80/-1/1/-1/0 3/78/79/0/0/-1/1", "4@72");
        read(blanks + "{     \"a", "6/72/80/-1/0/-1/0", "4@78 11@80 12@80 4@72");
        read(blanks + "{    \"a\"", "6/72/80/-1/0/-1/0", "11@80 12@80 4@72");
        read(blanks + "{   \"a\":", "6/72/80/-1/0/-1/0", "12@80 4@72");
        read(blanks + "{  \"a\":1", "6/72/80/-1/1/-1/0 3/79/80/0/0/75/1", "4@72");
        read(" ".repeat(71) + "{\"\":1,\" \"", "6/71/80/-1/1/-1/0 3/75/76/0/0/72/1",
                "11@80 12@80 4@71");
        read(" ".repeat(71) + "{\" \":1,\" ", "6/71/80/-1/1/-1/0 3/76/77/0/0/72/1",
                "4@78 13@78 11@80 12@80 4@71");
    }

    private static void bothTexts() {
        SchemaDesk desk = Check.desk("[1", "{\"a\"");
        check.same("nodes of the schema", Check.nodes(desk, 0), "5/0/2/-1/1/-1/0 3/1/2/0/0/-1/1");
        check.same("faults of the schema", Check.faults(desk, 0), "4@0");
        check.same("nodes of the document", Check.nodes(desk, 1), "6/0/4/-1/0/-1/0");
        check.same("faults of the document", Check.faults(desk, 1), "11@4 12@4 4@0");
    }

    private static void wrongArguments() {
        SchemaDesk desk = Check.desk("[1]", "[1");
        check.throwing("nodes(-1)", IllegalArgumentException.class, () -> desk.nodes(-1));
        check.throwing("nodes(2)", IllegalArgumentException.class, () -> desk.nodes(2));
        check.throwing("node of text 2", IllegalArgumentException.class,
                () -> desk.node(2, 9, 0));
        check.throwing("node, what 7", IllegalArgumentException.class, () -> desk.node(0, 9, 7));
        check.throwing("node, what -1", IllegalArgumentException.class, () -> desk.node(0, 0, -1));
        check.throwing("node 2", NoSuchElementException.class, () -> desk.node(0, 2, 0));
        check.throwing("node -1", NoSuchElementException.class, () -> desk.node(0, -1, 6));
        check.throwing("faults(-1)", IllegalArgumentException.class, () -> desk.faults(-1));
        check.throwing("faults(2)", IllegalArgumentException.class, () -> desk.faults(2));
        check.throwing("fault of text 2", IllegalArgumentException.class, () -> desk.fault(2, 9));
        check.throwing("fault of text -1", IllegalArgumentException.class,
                () -> desk.fault(-1, 0));
        check.throwing("fault 0 of none", NoSuchElementException.class, () -> desk.fault(0, 0));
        check.throwing("fault 1 of one", NoSuchElementException.class, () -> desk.fault(1, 1));
        check.throwing("fault -1", NoSuchElementException.class, () -> desk.fault(1, -1));
    }
}
