/** The document's sentences on the reading of a text that name a boundary case, one by one. */
public final class ReadSentencesTest {
    private static final Check check = new Check();
    private static final String SEVEN = "[[[[[[[";
    private static final String EIGHT = "[[[[[[[[";
    private static final String VALUES = "{[\"-0123456789abcdefghijklmnopqrstuvwxyz";

    public static void main(String[] args) {
        blanksOfCode32();
        wrongCharactersBeforeTheValue();
        nothingButTheEnd();
        somethingBehindTheValue();
        whatAValueBeginsWith();
        theNinth();
        theNinthWhereverThatIsSaid();
        stringUpToTheNextQuote();
        stringUpToTheEnd();
        allDigits();
        theFirstSix();
        withoutDigits();
        moreThanSixDigits();
        lettersThatSaySomething();
        otherLetters();
        blanksInArray();
        closedArray();
        arrayUpToTheEnd();
        commaInArray();
        valueInArray();
        otherCharacterInArray();
        closedObject();
        objectUpToTheEnd();
        commaInObject();
        nameOfMember();
        nameUpToTheEnd();
        nameAgain();
        colonOrElse();
        valueOrElse();
        bothCountAsMember();
        otherCharacterInObject();
        kindsOfNodes();
        numberedByPlaces();
        behindTheLastCharacter();
        parentsChildrenAndNames();
        faultsInTheOrderFound();
        check.end();
    }

    /** A text is read in one way, whichever of the two it is. */
    private static void faults(String text, String due) {
        check.same("faults of schema " + text, Check.faults(Check.desk(text, ""), 0), due);
        if (text.length() <= 80) {
            check.same("faults of document " + text, Check.faults(Check.desk("", text), 1), due);
        }
    }

    private static void kinds(String text, String due) {
        check.same("kinds in schema " + text, Check.kinds(Check.desk(text, ""), 0), due);
        if (text.length() <= 80) {
            check.same("kinds in document " + text, Check.kinds(Check.desk("", text), 1), due);
        }
    }

    private static void nodes(String text, String due) {
        check.same("nodes of schema " + text, Check.nodes(Check.desk(text, ""), 0), due);
        if (text.length() <= 80) {
            check.same("nodes of document " + text, Check.nodes(Check.desk("", text), 1), due);
        }
    }

    private static void blanksOfCode32() {
        check.about("BLANKS are of code 32.");
        faults(" 1 ", "");
        faults("!1", "3@0");
        faults("_1", "3@0");
        faults("1~", "2@1");
        faults(" [ 1 , 2 ] ", "");
        faults(" { \"a\" : 1 , \"b\" : 2 } ", "");
    }

    private static void wrongCharactersBeforeTheValue() {
        check.about("The text: blanks are passed; as long as no value begins there and the text is"
                + " not at its end, fault 3 at this place, the character and blanks behind it are"
                + " passed.");
        faults("   7", "");
        kinds("   7", "3@3");
        faults("?7", "3@0");
        kinds("?7", "3@1");
        faults("?  7", "3@0");
        kinds("?  7", "3@3");
        faults(" ]}:, A7", "3@1 3@2 3@3 3@4 3@6");
        kinds(" ]}:, A7", "3@7");
        faults("?[", "3@0 4@1");
    }

    private static void nothingButTheEnd() {
        check.about("At the end: fault 1 at this place.");
        faults("", "1@0");
        faults(" ", "1@1");
        faults("?", "3@0 1@1");
        faults("? ", "3@0 1@2");
        faults(" ".repeat(80), "1@80");
        faults(" ".repeat(160), "1@160");
        kinds("", "");
        kinds(" ", "");
        kinds("? ", "");
    }

    private static void somethingBehindTheValue() {
        check.about("Otherwise a VALUE is read, and blanks are passed; if there is something behind"
                + " them, fault 2 at its place, and it is not read.");
        faults("7", "");
        faults("7  ", "");
        faults("7]", "2@1");
        faults("7  8", "2@3");
        kinds("7  8", "3@0");
        faults("[] [ ? - nul \"", "2@3");
        kinds("[] [ ? - nul \"", "5@0");
        faults("{}" + " ".repeat(77) + "{", "2@79");
        faults("7" + " ".repeat(158) + "8", "2@159");
    }

    private static void whatAValueBeginsWith() {
        check.about("A VALUE begins with {, [, \", -, a digit or a letter a .. z.");
        for (char c = 33; c <= 126; c++) {
            boolean begins = VALUES.indexOf(c) >= 0;
            SchemaDesk alone = Check.desk("" + c, "" + c);
            for (int t = 0; t < 2; t++) {
                check.same("nodes of " + c, alone.nodes(t), begins ? 1 : 0);
                if (!begins) {
                    check.same("faults of " + c, Check.faults(alone, t), "3@0 1@1");
                }
            }
            check.same("nodes of [" + c, Check.desk("[" + c, "").nodes(0), begins ? 2 : 1);
            SchemaDesk member = Check.desk("", "{\"\":" + c);
            check.same("nodes of {\"\":" + c, member.nodes(1), begins ? 2 : 1);
            check.same("fault 12 in {\"\":" + c, member.fault(1, 0) == 12 + 16 * 4, !begins);
        }
    }

    private static void theNinth() {
        check.about("A { or [ that is the ninth of its kinds around one another begins none;");
        faults(EIGHT + "]]]]]]]]", "");
        faults(EIGHT + "[]]]]]]]]", "14@8");
        faults(EIGHT + "[]]]]]]]]]", "14@8 2@17");
        faults(EIGHT + "{]]]]]]]]", "14@8");
        faults(EIGHT + "[", "14@8 4@7 4@6 4@5 4@4 4@3 4@2 4@1 4@0");
        faults(SEVEN + "{}]]]]]]]", "");
        faults(SEVEN + "[],{}]]]]]]]", "");
        faults(SEVEN + "[[]],[]]]]]]]", "14@8");
        kinds(EIGHT + "[1", "5@0 5@1 5@2 5@3 5@4 5@5 5@6 5@7 3@9");
        check.same("parent of the 1", Check.desk(EIGHT + "[1", "").node(0, 8, 3), 7);
        String four = "{\"\":{\"\":{\"\":{\"\":";
        faults(four + "[[[[]]]]}}}}", "");
        faults(four + "[[[[[]]]]}}}}", "14@20");
        faults(four + "[[[{\"\":1}]]]}}}}", "");
        faults(four + "[[[{\"\":[}]]]}}}}", "12@23 14@23");
        faults("[[],[],[],[],[],[],[],[],[],{}]", "");
        // A { that only stands where a member should is around nothing.
        faults("{{{{{{{{{\"\":[]}", "3@1 3@2 3@3 3@4 3@5 3@6 3@7 3@8");
    }

    private static void theNinthWhereverThatIsSaid() {
        check.about("it is passed with fault 14 instead of 3, wherever that is said of a"
                + " character.");
        faults(EIGHT + "[{?}]]]]]]]]", "14@8 14@9 3@10 3@11");
        faults(EIGHT + "1[,]]]]]]]]", "14@9 10@11");
        faults(SEVEN + "{[{?]}]]]]]]]", "14@8 14@9 3@10 3@11");
        faults(SEVEN + "{\"\"{}]]]]]]]", "11@10 12@10 14@10");
        faults(SEVEN + "{\"\":[]}]]]]]]]", "12@11 14@11 3@12");
        faults(SEVEN + "{\"\":1[}]]]]]]]", "14@12");
        faults("[[[[[[{[{}]]]]]]", "3@7 3@8");
        faults("{[{", "3@1 3@2 4@0");
    }

    private static void stringUpToTheNextQuote() {
        check.about("\" STRING: its characters are those up to the next \";");
        nodes("\"\"", "4/0/2/-1/0/-1/0");
        faults("\"\"", "");
        nodes("\"[1,{:}] \"", "4/0/10/-1/0/-1/0");
        faults("\"[1,{:}] \"", "");
        faults("\"a\"b\"", "2@3");
        nodes("[\"\"\"a\"]", "5/0/7/-1/2/-1/0 4/1/3/0/0/-1/0 4/3/6/0/0/-1/0");
        faults("[\"\"\"a\"]", "9@3");
    }

    private static void stringUpToTheEnd() {
        check.about("if there is none, up to the end of the text, with fault 4 at its from.");
        nodes("\"", "4/0/1/-1/0/-1/0");
        faults("\"", "4@0");
        nodes(" \"a]  ", "4/1/6/-1/0/-1/0");
        faults(" \"a]  ", "4@1");
        nodes("[\"", "5/0/2/-1/1/-1/0 4/1/2/0/0/-1/0");
        faults("[\"", "4@1 4@0");
        nodes(" ".repeat(79) + "\"", "4/79/80/-1/0/-1/0");
        nodes(" ".repeat(159) + "\"", "4/159/160/-1/0/-1/0");
        faults(" ".repeat(159) + "\"", "4@159");
    }

    private static void number(String text, int due, String faults) {
        SchemaDesk desk = Check.desk(text, text);
        for (int t = 0; t < 2; t++) {
            check.same("kind of " + text, desk.node(t, 0, 0), 3);
            check.same("number of " + text, desk.node(t, 0, 6), due);
            check.same("faults of " + text, Check.faults(desk, t), faults);
        }
    }

    private static void allDigits() {
        check.about("- or a digit, NUMBER: a - or not, and all digits there;");
        number("0", 0, "");
        number("9", 9, "");
        number("-0", 0, "");
        number("-9", -9, "");
        number("1-", 1, "2@1");
        number("1-2", 1, "2@1");
        number("1.5", 1, "2@1");
        number("1e5", 1, "2@1");
        number("- 1", 0, "5@0 2@2");
        nodes("-12345678 ", "3/0/9/-1/0/-1/-123456");
        nodes("1" + "0".repeat(79), "3/0/80/-1/0/-1/100000");
        nodes("0".repeat(160), "3/0/160/-1/0/-1/0");
    }

    private static void theFirstSix() {
        check.about("its number is that of the first six (0 without any), negative with a -;");
        number("99999", 99999, "");
        number("999999", 999999, "");
        number("-999999", -999999, "");
        number("1234567", 123456, "6@0");
        number("-1234567", -123456, "6@0");
        number("000001", 1, "");
        number("0000019", 1, "6@0");
        number("0000009", 0, "6@0");
        number("-", 0, "5@0");
        number("99999999999999999999", 999999, "6@0");
    }

    private static void withoutDigits() {
        check.about("fault 5 at its from if there are none,");
        number("-", 0, "5@0");
        number("-0", 0, "");
        faults(" -", "5@1");
        faults("--", "5@0 2@1");
        faults("[-,--]", "5@1 5@3 9@4 5@4");
        kinds("[-,--]", "5@0 3@1 3@3 3@4");
        faults(" ".repeat(79) + "-", "5@79");
    }

    private static void moreThanSixDigits() {
        check.about("6 if there are more than six.");
        number("123456", 123456, "");
        number("-123456", -123456, "");
        number("1234567", 123456, "6@0");
        faults("  -1234567", "6@2");
        faults("[000000,0000000]", "6@8");
    }

    private static void lettersThatSaySomething() {
        check.about("a letter, all letters a .. z there: null NULL, false FALSE, true TRUE;");
        nodes("null", "0/0/4/-1/0/-1/0");
        nodes("false", "1/0/5/-1/0/-1/0");
        nodes("true", "2/0/4/-1/0/-1/0");
        faults("null", "");
        faults("false", "");
        faults("true", "");
        nodes("[null1false-true]", "5/0/17/-1/5/-1/0 0/1/5/0/0/-1/0 3/5/6/0/0/-1/1"
                + " 1/6/11/0/0/-1/0 3/11/12/0/0/-1/0 2/12/16/0/0/-1/0");
        faults("trueA", "2@4");
        kinds("trueA", "2@0");
    }

    private static void otherLetters() {
        check.about("others NULL with fault 7 at its from.");
        for (String text : new String[] {
            "a", "z", "nul", "nulll", "nall", "fals", "falses", "falze", "tru", "trues", "trua",
            "nulltrue", "boolean", "az",
        }) {
            nodes(" " + text, "0/1/" + (1 + text.length()) + "/-1/0/-1/0");
            faults(" " + text, "7@1");
        }
        nodes("z".repeat(160), "0/0/160/-1/0/-1/0");
    }

    private static void blanksInArray() {
        check.about("[ ARRAY, again and again: blanks are passed.");
        faults("[  ]", "");
        faults("[  1  ,  2  ]  ", "");
        nodes("[  1  ,  2  ]  ", "5/0/13/-1/2/-1/0 3/3/4/0/0/-1/1 3/9/10/0/0/-1/2");
        faults("[  ?  ,  ]", "3@3 8@6 10@9");
    }

    private static void closedArray() {
        check.about("A ] ends it, with fault 10 at its place, if a comma was passed and no value"
                + " read behind it.");
        faults("[]", "");
        faults("[ ]", "");
        faults("[1]", "");
        faults("[1,]", "10@3");
        faults("[1, ]", "10@4");
        faults("[1,2]", "");
        faults("[,]", "8@1 10@2");
        faults("[,1]", "8@1");
        faults("[1,?]", "3@3 10@4");
        faults("[[1,],[]]", "10@4");
        faults("[1,[]]", "");
        faults("[?]", "3@1");
    }

    private static void arrayUpToTheEnd() {
        check.about("The end of the text ends it, with fault 4 at its from.");
        faults("[", "4@0");
        nodes("[", "5/0/1/-1/0/-1/0");
        faults("[ ", "4@0");
        nodes("[ ", "5/0/2/-1/0/-1/0");
        faults("[1", "4@0");
        faults("[1,", "4@0");
        nodes("[1, ", "5/0/4/-1/1/-1/0 3/1/2/0/0/-1/1");
        faults(" [[1]", "4@1");
        nodes(" [[1]", "5/1/5/-1/1/-1/0 5/2/5/0/1/-1/0 3/3/4/1/0/-1/1");
        faults("[[", "4@1 4@0");
        faults("[}", "3@1 4@0");
        nodes(" ".repeat(159) + "[", "5/159/160/-1/0/-1/0");
    }

    private static void commaInArray() {
        check.about("A comma is passed, with fault 8 at its place, if no value was read since the ["
                + " or the last comma.");
        faults("[,1]", "8@1");
        faults("[ ,1]", "8@2");
        faults("[1,2,3]", "");
        faults("[1,,2]", "8@3");
        faults("[1,,,2]", "8@3 8@4");
        faults("[,,1]", "8@1 8@2");
        faults("[?,1]", "3@1 8@2");
        faults("[1?,2]", "3@2");
        faults("[1,?,2]", "3@3 8@4");
        faults("[[],[,]]", "8@5 10@6");
        faults("[-,nul,\"\",2]", "5@1 7@3");
    }

    private static void valueInArray() {
        check.about("Where a value begins, it is read, as a child; with fault 9 at its place before,"
                + " if a value was read since the [ or the last comma.");
        faults("[1 2]", "9@3");
        faults("[1 2 3]", "9@3 9@5");
        faults("[1,2 3]", "9@5");
        faults("[1?2]", "3@2 9@3");
        faults("[1[]]", "9@2");
        faults("[[]1]", "9@3");
        faults("[1 nul]", "9@3 7@3");
        faults("[1 \"]", "9@3 4@3 4@0");
        faults("[1--]", "9@2 5@2 9@3 5@3");
        nodes("[1 2]", "5/0/5/-1/2/-1/0 3/1/2/0/0/-1/1 3/3/4/0/0/-1/2");
    }

    private static void otherCharacterInArray() {
        check.about("Another character: 3 at its place, it is passed.");
        for (char c = 33; c <= 126; c++) {
            if (VALUES.indexOf(c) < 0 && c != ',' && c != ']') {
                faults("[" + c + "1 " + c + "]", "3@1 3@4");
                kinds("[" + c + "1 " + c + "]", "5@0 3@2");
            }
        }
    }

    private static void closedObject() {
        check.about("{ OBJECT, likewise with } for ],");
        faults("{}", "");
        faults("{ }", "");
        faults("{\"\":1}", "");
        faults("{\"\":1,}", "10@6");
        faults("{\"\":1, }", "10@7");
        faults("{\"\":1,\"b\":2}", "");
        faults("{,}", "8@1 10@2");
        faults("{\"\":1,?}", "3@6 10@7");
        faults("{?}", "3@1");
        faults("{]}", "3@1");
        faults("[}]", "3@1");
        nodes("{ } ", "6/0/3/-1/0/-1/0");
    }

    private static void objectUpToTheEnd() {
        check.about("{ OBJECT, likewise (The end of the text ends it, with fault 4 at its from.)");
        faults("{", "4@0");
        nodes("{", "6/0/1/-1/0/-1/0");
        faults("{ ", "4@0");
        nodes("{ ", "6/0/2/-1/0/-1/0");
        faults(" {\"\":1", "4@1");
        nodes(" {\"\":1", "6/1/6/-1/1/-1/0 3/5/6/0/0/2/1");
        faults("{\"\":1,", "4@0");
        faults("{\"\":{", "4@4 4@0");
        faults("{]", "3@1 4@0");
        nodes(" ".repeat(159) + "{", "6/159/160/-1/0/-1/0");
    }

    private static void commaInObject() {
        check.about("{ OBJECT, likewise (A comma is passed, with fault 8 at its place), and MEMBERS"
                + " for values");
        faults("{,\"\":1}", "8@1");
        faults("{\"\":1,,\"b\":2}", "8@6");
        faults("{\"\":1,,,\"b\":2}", "8@6 8@7");
        faults("{?,\"\":1}", "3@1 8@2");
        faults("{\"\":1?,\"b\":2}", "3@5");
        faults("{\"\":1,?,\"b\":2}", "3@6 8@7");
    }

    private static void nameOfMember() {
        check.about("where a \" stands, a name is read, like a STRING (which makes no node); with"
                + " fault 9 as above before,");
        nodes("{\"a\":\"b\"}", "6/0/9/-1/1/-1/0 4/5/8/0/0/1/0");
        nodes("{ \"{,:}\" :1}", "6/0/12/-1/1/-1/0 3/10/11/0/0/2/1");
        faults("{ \"{,:}\" :1}", "");
        faults("{\"\":1\"b\":2}", "9@5");
        faults("{\"\":1 \"b\":2 \"c\":3}", "9@6 9@12");
        faults("{\"\":1?\"b\":2}", "3@5 9@6");
        faults("{\"\":1,\"b\":2}", "");
        faults("{?\"b\":2}", "3@1");
    }

    private static void nameUpToTheEnd() {
        check.about("a name is read, like a STRING: if there is no next \", up to the end of the"
                + " text, with fault 4 at its from");
        faults("{\"", "4@1 11@2 12@2 4@0");
        nodes("{\"", "6/0/2/-1/0/-1/0");
        faults("{\"a:1}", "4@1 11@6 12@6 4@0");
        faults("{\"\":1\"", "9@5 4@5 13@5 11@6 12@6 4@0");
        faults("{\"a\":1,\"", "4@7 11@8 12@8 4@0");
        faults("{" + " ".repeat(158) + "\"", "4@159 11@160 12@160 4@0");
    }

    private static void nameAgain() {
        check.about("and behind it (and behind its fault 4) fault 13 at its place, if a child of the"
                + " object has that name (that is, those characters) already.");
        faults("{\"a\":1,\"a\":2}", "13@7");
        faults("{\"a\":1, \"a\" :2}", "13@8");
        faults("{\"a\":1,\"a\":2,\"a\":3}", "13@7 13@13");
        faults("{\"\":1,\"\":2}", "13@6");
        faults("{\"a\":1,\"b\":2,\"a\":3}", "13@13");
        faults("{\"a\":1,\"b\":2,\"b\":3}", "13@13");
        faults("{\"a\":1,\"ab\":2,\"\":3,\"A\":4,\"a \":5}", "");
        faults("{\"ab\":1,\"a\":2,\"b\":3}", "");
        faults("{\"a\":1 \"a\":2}", "9@7 13@7");
        faults("{\"a\":1,\"a\"}", "13@7 11@10 12@10");
        faults("{\"a\":1,\"a", "4@7 13@7 11@9 12@9 4@0");
        // A name without a value, one in another object, and a string are no child's names.
        faults("{\"a\",\"a\":1}", "11@4 12@4");
        faults("{\"a\":,\"a\":1}", "12@5");
        faults("{\"a\":{\"a\":[{\"a\":1}]},\"b\":\"c\",\"c\":1}", "");
        nodes("{\"a\":1,\"a\":2}", "6/0/13/-1/2/-1/0 3/5/6/0/0/1/1 3/11/12/0/0/7/2");
    }

    private static void colonOrElse() {
        check.about("Blanks are passed; a : is passed, or else: fault 11 at this place.");
        faults("{\"\"  :1}", "");
        faults("{\"\"1}", "11@3");
        faults("{\"\"  1}", "11@5");
        faults("{\"\"=1}", "11@3 12@3 3@3 3@4");
        faults("{\"\"\"\"}", "11@3");
        nodes("{\"\"\"\"}", "6/0/6/-1/1/-1/0 4/3/5/0/0/1/0");
        faults("{\"\"", "11@3 12@3 4@0");
        faults("{\"\" ", "11@4 12@4 4@0");
        faults("{\"\"::1}", "12@4 3@4 3@5");
        faults("{\"\",\"b\":1}", "11@3 12@3");
    }

    private static void valueOrElse() {
        check.about("Blanks are passed. If a value begins there, it is read, as a child with that"
                + " name; otherwise fault 12 at this place, and nothing is passed.");
        faults("{\"\":  1}", "");
        nodes("{\"\":  1}", "6/0/8/-1/1/-1/0 3/6/7/0/0/1/1");
        faults("{\"\":}", "12@4");
        nodes("{\"\":}", "6/0/5/-1/0/-1/0");
        faults("{\"\":  }", "12@6");
        faults("{\"\":,\"b\":1}", "12@4");
        faults("{\"\":?}", "12@4 3@4");
        faults("{\"\":]}", "12@4 3@4");
        faults("{\"\":", "12@4 4@0");
        faults("{\"\":  ", "12@6 4@0");
        faults("{\"\":\"b\":1}", "3@7 3@8");
        nodes("{\"\":\"b\":1}", "6/0/10/-1/1/-1/0 4/4/7/0/0/1/0");
    }

    private static void bothCountAsMember() {
        check.about("(Both count as a member that was read.)");
        faults("{\"\":,\"b\":1}", "12@4");
        faults("{\"\":1,\"b\":}", "12@10");
        faults("{\"\":?\"b\":1}", "12@4 3@4 9@5");
        faults("{\"\"?\"b\":1}", "11@3 12@3 3@3 9@4");
        faults("{\"\":?,\"b\":1}", "12@4 3@4");
        faults("{,\"\":}", "8@1 12@5");
        faults("{\"\":1\"b\":1}", "9@5");
    }

    private static void otherCharacterInObject() {
        check.about("Another character than }, comma and \": 3 at its place, it is passed.");
        for (char c = 33; c <= 126; c++) {
            if (c != '}' && c != ',' && c != '"') {
                faults("{" + c + "\"\":\"\" " + c + "}", "3@1 3@8");
                kinds("{" + c + "\"\":\"\" " + c + "}", "6@0 4@5");
            }
        }
        faults("{1a[]}", "3@1 3@2 3@3 3@4");
    }

    private static void kindsOfNodes() {
        check.about("A node has a KIND: 0 NULL, 1 FALSE, 2 TRUE, 3 NUMBER, 4 STRING, 5 ARRAY, 6"
                + " OBJECT;");
        String[] texts = {"null", "false", "true", "0", "\"\"", "[]", "{}"};
        for (int kind = 0; kind < texts.length; kind++) {
            kinds(texts[kind], kind + "@0");
            kinds("[" + texts[kind], "5@0 " + kind + "@1");
            kinds("{\"\":" + texts[kind], "6@0 " + kind + "@4");
        }
    }

    private static void numberedByPlaces() {
        check.about("NODES, numbered 0, 1, .. by the places where they begin,");
        kinds("[[1,[2]],{\"a\":[3],\"b\":4},5]", "5@0 5@1 3@2 5@4 3@5 6@9 5@14 3@15 3@22 3@25");
        kinds("[null,false,true,1,\"\",[],{}]", "5@0 0@1 1@6 2@12 3@17 4@19 5@22 6@25");
        SchemaDesk most = Check.desk("[" + "-".repeat(159), "[" + "-".repeat(79));
        for (int k = 0; k < 80; k++) {
            check.same("from of node " + k, most.node(1, k, 1), k);
        }
        check.same("nodes of the fullest schema", most.nodes(0), 160);
        check.same("from of its last node", most.node(0, 159, 1), 159);
        check.same("parent of its last node", most.node(0, 159, 3), 0);
        check.same("children of its first node", most.node(0, 0, 4), 159);
    }

    private static void behindTheLastCharacter() {
        check.about("a place FROM and a place TO behind its last character;");
        nodes(" [ ] ", "5/1/4/-1/0/-1/0");
        nodes("[1 ,true ,\"\" ]", "5/0/14/-1/3/-1/0 3/1/2/0/0/-1/1 2/4/8/0/0/-1/0"
                + " 4/10/12/0/0/-1/0");
        nodes("7 ?", "3/0/1/-1/0/-1/7");
        nodes("[[ ", "5/0/3/-1/1/-1/0 5/1/3/0/0/-1/0");
        nodes("{\"a\" : 1 ", "6/0/9/-1/1/-1/0 3/7/8/0/0/1/1");
    }

    private static void parentsChildrenAndNames() {
        check.about("perhaps a PARENT, in which it is the next CHILD; and as a child of an OBJECT a"
                + " NAME.");
        nodes("{\"a\":[1,{\"b\":2}],\"\":3}", "6/0/22/-1/2/-1/0 5/5/16/0/2/1/0 3/6/7/1/0/-1/1"
                + " 6/8/15/1/1/-1/0 3/13/14/3/0/9/2 3/20/21/0/0/17/3");
    }

    private static void faultsInTheOrderFound() {
        check.about("FAULTS, in the order in which they are found.");
        faults("?[nul{\"a\":-,\"a\"[}12345678", "3@0 7@2 9@5 5@10 13@12 11@15 3@16 6@17 4@15"
                + " 4@5 4@1");
        SchemaDesk most = Check.desk(EIGHT + "-".repeat(152), "[" + "-".repeat(79));
        check.same("most faults of a schema", most.faults(0), 152 + 151 + 8);
        check.same("the first", most.fault(0, 0), 5 + 16 * 8);
        check.same("the next to last of the -", most.fault(0, 301), 9 + 16 * 159);
        check.same("the last of the -", most.fault(0, 302), 5 + 16 * 159);
        check.same("the last", most.fault(0, 310), 4);
        check.same("most faults of a document", most.faults(1), 79 + 78 + 1);
        check.same("its last", most.fault(1, 157), 4);
    }
}
