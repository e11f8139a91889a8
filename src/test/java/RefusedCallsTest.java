import java.util.NoSuchElementException;
import java.util.function.Consumer;

/** That refused calls change nothing, and that an object answers for all of its 512 calls. */
public final class RefusedCallsTest {
    private static final Check check = new Check();
    private static final String SCHEMA = "{\"properties\":{\"c\":{\"max\":1}},\"min\":3}";
    private static final String DOCUMENT = "{\"d\":{},\"c\":2}";
    private static final String CIRCLE = "{\"not\":{\"ref\":\"#\"}}";

    private static final Class<? extends RuntimeException> ARGUMENT =
            IllegalArgumentException.class;
    private static final Class<? extends RuntimeException> INDEX = IndexOutOfBoundsException.class;
    private static final Class<? extends RuntimeException> STATE = IllegalStateException.class;
    private static final Class<? extends RuntimeException> ELEMENT = NoSuchElementException.class;
    private static final Class<? extends RuntimeException> UNSUPPORTED =
            UnsupportedOperationException.class;

    public static void main(String[] args) {
        refusedEdits();
        refusedEditsOfFullTexts();
        refusedQuestions();
        refusedJudgings();
        refusedProposings();
        refusedByFalse();
        questionsChangeNothing();
        lastCall();
        lastCallsOfFullTexts();
        check.end();
    }

    /** A desk that has judged and proposed before other texts, those given, were put on it. */
    private static SchemaDesk desk(String schema, String document) {
        SchemaDesk desk = Check.desk("{\"properties\":{\"ab\":1,\"\":1},\"not\":1}", "{}");
        desk.judge();
        desk.propose(0);
        desk.remove(0, 0, desk.length(0));
        desk.remove(1, 0, 2);
        fill(desk, 0, schema);
        fill(desk, 1, document);
        return desk;
    }

    /** Words make a long text in few calls. */
    private static void fill(SchemaDesk desk, int t, String text) {
        String word = "\"unevaluated\":";
        String rest = text;
        while (rest.startsWith(word)) {
            desk.word(t, 20);
            rest = rest.substring(word.length());
        }
        Check.fill(desk, t, rest);
    }

    private static void refused(String schema, String document, String what,
            Class<? extends RuntimeException> due, Consumer<SchemaDesk> call) {
        SchemaDesk desk = desk(schema, document);
        String name = what + " of " + schema + " and " + document;
        check.throwing(name, due, () -> call.accept(desk));
        check.same("everything behind " + name, Check.everything(desk),
                Check.everything(desk(schema, document)));
        SchemaDesk used = desk(schema, document);
        used.nodes(0);
        used.nodes(1);
        check.throwing(name, due, () -> call.accept(used));
        check.same("everything behind " + name + ", read before", Check.everything(used),
                Check.everything(desk(schema, document)));
    }

    private static void refusedEdits() {
        check.about("A method that throws changes nothing. (insert, remove)");
        refused(SCHEMA, DOCUMENT, "insert(2, 0, a)", ARGUMENT, d -> d.insert(2, 0, 'a'));
        refused(SCHEMA, DOCUMENT, "insert(-1, 0, a)", ARGUMENT, d -> d.insert(-1, 0, 'a'));
        refused(SCHEMA, DOCUMENT, "insert code 31", ARGUMENT, d -> d.insert(1, 0, (char) 31));
        refused(SCHEMA, DOCUMENT, "insert code 127", ARGUMENT, d -> d.insert(0, 0, (char) 127));
        refused(SCHEMA, DOCUMENT, "insert at -1", INDEX, d -> d.insert(1, -1, 'a'));
        refused(SCHEMA, DOCUMENT, "insert behind", INDEX,
                d -> d.insert(1, DOCUMENT.length() + 1, 'a'));
        refused(SCHEMA, DOCUMENT, "remove(2, 0, 1)", ARGUMENT, d -> d.remove(2, 0, 1));
        refused(SCHEMA, DOCUMENT, "remove(0, 3, -1)", ARGUMENT, d -> d.remove(0, 3, -1));
        refused(SCHEMA, DOCUMENT, "remove(1, -1, 2)", INDEX, d -> d.remove(1, -1, 2));
        refused(SCHEMA, DOCUMENT, "remove too many", INDEX,
                d -> d.remove(0, 1, SCHEMA.length()));
        refused("", "", "remove from empty texts", INDEX, d -> d.remove(0, 0, 1));
    }

    private static void refusedEditsOfFullTexts() {
        check.about("A method that throws changes nothing. (insert into a full text)");
        String schema = "\"unevaluated\":".repeat(11) + " 12 [1";
        String document = "\"unevaluated\":".repeat(5) + "{ 12345678";
        check.same("length of the schema", schema.length(), 160);
        check.same("length of the document", document.length(), 80);
        refused(schema, document, "insert at 0 of 160", STATE, d -> d.insert(0, 0, 'a'));
        refused(schema, document, "insert at 160 of 160", STATE, d -> d.insert(0, 160, 'a'));
        refused(schema, document, "insert at 3 of 80", STATE, d -> d.insert(1, 3, 'a'));
        refused(schema, document, "insert at 80 of 80", STATE, d -> d.insert(1, 80, 'a'));
        refused(schema, document, "insert at 81 of 80", INDEX, d -> d.insert(1, 81, 'a'));
        SchemaDesk desk = desk(schema, document);
        check.same("type", desk.type(0, 'a') || desk.type(1, 'a'), false);
        check.same("word", desk.word(0, 22) || desk.word(1, 22), false);
        check.same("everything behind them", Check.everything(desk),
                Check.everything(desk(schema, document)));
    }

    private static void refusedQuestions() {
        check.about("A method that throws changes nothing. (what only asks)");
        refused(SCHEMA, DOCUMENT, "length(2)", ARGUMENT, d -> d.length(2));
        refused(SCHEMA, DOCUMENT, "letter(2, 0)", ARGUMENT, d -> d.letter(2, 0));
        refused(SCHEMA, DOCUMENT, "letter(1, 99)", INDEX, d -> d.letter(1, 99));
        refused(SCHEMA, DOCUMENT, "nodes(-1)", ARGUMENT, d -> d.nodes(-1));
        refused(SCHEMA, DOCUMENT, "node(0, 0, 7)", ARGUMENT, d -> d.node(0, 0, 7));
        refused(SCHEMA, DOCUMENT, "node(0, 99, 0)", ELEMENT, d -> d.node(0, 99, 0));
        refused(SCHEMA, DOCUMENT, "faults(2)", ARGUMENT, d -> d.faults(2));
        refused(SCHEMA, DOCUMENT, "fault(2, 0)", ARGUMENT, d -> d.fault(2, 0));
        refused(SCHEMA, DOCUMENT, "fault(1, 0)", ELEMENT, d -> d.fault(1, 0));
        refused(SCHEMA, DOCUMENT, "holds(99, 0)", ELEMENT, d -> d.holds(99, 0));
        refused(CIRCLE, DOCUMENT, "holds(0, 0)", UNSUPPORTED, d -> d.holds(0, 0));
        refused(SCHEMA, DOCUMENT, "diagnostic(0, 3)", ARGUMENT, d -> d.diagnostic(0, 3));
        refused(SCHEMA, DOCUMENT, "diagnostic(1, 0)", ELEMENT, d -> d.diagnostic(1, 0));
        refused(SCHEMA, DOCUMENT, "proposal(2, 0)", ELEMENT, d -> d.proposal(2, 0));
        refused(SCHEMA, DOCUMENT, "proposal(0, -1)", ELEMENT, d -> d.proposal(0, -1));
    }

    private static void refusedJudgings() {
        check.about("A method that throws changes nothing. (judge)");
        refused("{\"max\":1", "2", "judge", STATE, d -> d.judge());
        refused("{\"max\":1}", "2 2", "judge", STATE, d -> d.judge());
        refused("", "", "judge", STATE, d -> d.judge());
        refused(CIRCLE, "2", "judge", UNSUPPORTED, d -> d.judge());
        check.same("the diagnostics that stay", Check.latestDiagnostics(desk(CIRCLE, "2")),
                "18/0/4");
    }

    private static void refusedProposings() {
        check.about("A method that throws changes nothing. (propose)");
        refused(SCHEMA, DOCUMENT, "propose(3)", ELEMENT, d -> d.propose(3));
        refused(SCHEMA, DOCUMENT, "propose(-1)", ELEMENT, d -> d.propose(-1));
        refused(SCHEMA, DOCUMENT, "propose(2)", ELEMENT, d -> d.propose(2));
        refused("", DOCUMENT, "propose(0)", ELEMENT, d -> d.propose(0));
        refused(CIRCLE, DOCUMENT, "propose(0)", UNSUPPORTED, d -> d.propose(0));
        check.same("the names that stay", Check.latestProposals(desk(CIRCLE, "2")), "'' 'ab'");
    }

    private static void refusedByFalse() {
        check.about("false, when .. (nothing is appended, and nothing else is changed)");
        SchemaDesk desk = desk(SCHEMA, DOCUMENT);
        check.same("type", desk.type(2, 'a') || desk.type(-1, 'a') || desk.type(0, (char) 31)
                || desk.type(1, (char) 127), false);
        check.same("word", desk.word(2, 1) || desk.word(-1, 1) || desk.word(0, 0)
                || desk.word(1, 28), false);
        check.same("everything behind them", Check.everything(desk),
                Check.everything(desk(SCHEMA, DOCUMENT)));
    }

    private static void questionsChangeNothing() {
        check.about("(judge, propose and holds change no text, and each only its own results)");
        SchemaDesk desk = Check.desk(SCHEMA, DOCUMENT);
        String before = Check.everything(desk);
        check.same("judge", desk.judge(), 1);
        check.same("holds", desk.holds(0, 0), false);
        check.same("everything behind judge", Check.everything(desk),
                before.substring(0, before.length() - 3) + "5/2/3 | ");
        SchemaDesk other = desk(SCHEMA, DOCUMENT);
        other.judge();
        check.same("proposals behind judge", Check.latestProposals(other), "'' 'ab'");
        other.propose(1);
        check.same("diagnostics behind propose", Check.latestDiagnostics(other), "5/2/3");
        check.same("proposals behind propose", Check.latestProposals(other), "");
    }

    /** A desk of which so many calls have been made. */
    private static SchemaDesk usedDesk(int calls) {
        SchemaDesk desk = Check.desk(SCHEMA, DOCUMENT);
        desk.judge();
        int made = SCHEMA.length() + DOCUMENT.length() + 1;
        while (made + 2 <= calls) {
            desk.type(1, '?');
            desk.remove(1, DOCUMENT.length(), 1);
            made += 2;
        }
        if (made < calls) {
            desk.nodes(0);
        }
        return desk;
    }

    private static void lastCall() {
        check.about("An object is used for at most 512 calls after it has been made;");
        check.same("type", usedDesk(511).type(0, ' '), true);
        check.same("type", usedDesk(511).type(2, ' '), false);
        check.same("word", usedDesk(511).word(1, 27), true);
        check.same("length", usedDesk(511).length(1), DOCUMENT.length());
        check.same("letter", usedDesk(511).letter(1, 2), 'd');
        check.same("nodes", usedDesk(511).nodes(0), 5);
        check.same("node", usedDesk(511).node(1, 2, 6), 2);
        check.same("faults", usedDesk(511).faults(1), 0);
        check.same("holds", usedDesk(511).holds(0, 0), false);
        check.same("judge", usedDesk(511).judge(), 1);
        check.same("diagnostic", usedDesk(511).diagnostic(0, 0), 5);
        check.same("propose", usedDesk(511).propose(1), 0);
        check.throwing("proposal", ELEMENT, () -> usedDesk(511).proposal(0, 0));
        check.throwing("insert", INDEX, () -> usedDesk(511).insert(1, 81, 'a'));
        check.throwing("remove", INDEX, () -> usedDesk(511).remove(1, 80, 1));
        check.throwing("fault", ELEMENT, () -> usedDesk(511).fault(1, 0));
        SchemaDesk desk = usedDesk(510);
        desk.remove(1, 1, 7);
        check.same("behind the 511th", desk.propose(0), 0);
    }

    private static void lastCallsOfFullTexts() {
        check.about("An object is used for at most 512 calls after it has been made; (with as many"
                + " diagnostics as it can be, judged again and again)");
        StringBuilder schema = new StringBuilder("{\"items\":{\"allof\":[false");
        for (int k = 1; k < 22; k++) {
            schema.append(",false");
        }
        schema.append("]}}");
        String document = "[" + "1,".repeat(38) + "1]";
        SchemaDesk desk = Check.desk(schema.toString(), document);
        int calls = schema.length() + document.length();
        for (; calls + 4 <= 508; calls += 3) {
            desk.remove(1, 0, 1);
            desk.insert(1, 0, '[');
            check.same("judge behind call " + calls, desk.judge(), 22 * 39);
        }
        check.same("code of the last", desk.diagnostic(22 * 39 - 1, 0), 0);
        check.same("node of the document", desk.diagnostic(22 * 39 - 1, 1), 39);
        check.same("node of the schema", desk.diagnostic(22 * 39 - 1, 2), 24);
        check.throwing("behind the last", ELEMENT, () -> desk.diagnostic(22 * 39, 0));
    }
}
