import java.util.NoSuchElementException;

/** The sentences of promises 1 to 16 that name a boundary case or a refused call, one by one. */
public final class CallSentencesTest {
    private static final Check check = new Check();
    private static final int MOST = Integer.MAX_VALUE;
    private static final int LEAST = Integer.MIN_VALUE;
    private static final int[] NO_TEXTS = {-1, 2, 3, 256, MOST, LEAST};
    private static final int[] NO_CODES = {0, 10, 31, 127, 128, 160, 255, 256 + 65, 65535};

    private static final Class<? extends RuntimeException> ARGUMENT =
            IllegalArgumentException.class;
    private static final Class<? extends RuntimeException> INDEX = IndexOutOfBoundsException.class;
    private static final Class<? extends RuntimeException> STATE = IllegalStateException.class;
    private static final Class<? extends RuntimeException> ELEMENT = NoSuchElementException.class;
    private static final Class<? extends RuntimeException> CIRCLE =
            UnsupportedOperationException.class;

    public static void main(String[] args) {
        limitsOfTheTexts();
        codesOfCharacters();
        placesFromZero();
        newObject();
        type();
        typeRefused();
        typeFull();
        word();
        wordRefused();
        wordThatDoesNotFit();
        insert();
        insertWithoutTextOrCode();
        insertWithoutPlace();
        insertFull();
        remove();
        removeWithoutText();
        removeWithoutPlace();
        length();
        letter();
        nodes();
        node();
        nodeWithoutTextOrWhat();
        nodeThatIsNotThere();
        faults();
        fault();
        faultThatIsNotThere();
        holds();
        holdsWithoutNode();
        holdsInCircle();
        judge();
        judgeWithFaults();
        judgeInCircle();
        diagnosticOfTheLatest();
        diagnosticRefused();
        propose();
        proposeWithoutNode();
        proposeInCircle();
        proposalOfTheLatest();
        proposalRefused();
        check.end();
    }

    private static void limitsOfTheTexts() {
        check.about("TEXT 0 is the SCHEMA, of at most 160 characters, text 1 the DOCUMENT, of at most"
                + " 80;");
        for (int t = 0; t < 2; t++) {
            int limit = t == 0 ? 160 : 80;
            int of = t;
            SchemaDesk typed = new SchemaDesk();
            SchemaDesk inserted = new SchemaDesk();
            for (int n = 0; n < limit; n++) {
                check.same("type " + n + " into " + t, typed.type(t, 'a'), true);
                inserted.insert(t, 0, 'a');
            }
            check.same("type into full " + t, typed.type(t, 'a'), false);
            check.throwing("insert into full " + t, STATE, () -> inserted.insert(of, 0, 'a'));
            check.same("length of " + t, typed.length(t), limit);
            check.same("length of " + t, inserted.length(t), limit);
            SchemaDesk words = new SchemaDesk();
            for (int n = 0; n < limit / 8; n++) {
                check.same("word " + n + " into " + t, words.word(t, 24), true);
            }
            check.same("word into full " + t, words.word(t, 22), false);
            check.same("length of " + t, words.length(t), limit);
            check.same("the other one has room", words.type(1 - t, 'a'), true);
        }
    }

    private static void codesOfCharacters() {
        check.about("characters have the codes 32 to 126.");
        for (int code = 0; code < 400; code++) {
            char c = (char) code;
            boolean due = code >= 32 && code <= 126;
            SchemaDesk desk = new SchemaDesk();
            check.same("type code " + code, desk.type(code % 2, c), due);
            if (due) {
                desk.insert(1, 0, c);
                check.same("letter of code " + code, desk.letter(1, 0), c);
            } else {
                check.throwing("insert code " + code, ARGUMENT, () -> desk.insert(1, 0, c));
            }
        }
    }

    private static void placesFromZero() {
        check.about("PLACES are counted from 0.");
        SchemaDesk desk = Check.desk("[?", "a");
        check.same("letter", desk.letter(0, 0), '[');
        check.same("from", desk.node(0, 0, 1), 0);
        check.same("fault", desk.fault(0, 0), 3 + 16);
        desk.insert(1, 0, 'b');
        check.same("inserted", Check.text(desk, 1), "ba");
        desk.remove(1, 0, 1);
        check.same("removed", Check.text(desk, 1), "a");
    }

    private static void newObject() {
        check.about("Promise 1: Both texts are empty, nothing is judged or proposed.");
        for (int t = 0; t < 2; t++) {
            SchemaDesk desk = new SchemaDesk();
            int text = t;
            check.same("length", desk.length(t), 0);
            check.throwing("letter", INDEX, () -> desk.letter(text, 0));
            check.same("nodes", desk.nodes(t), 0);
            check.throwing("node", ELEMENT, () -> desk.node(text, 0, 0));
            check.same("faults", Check.faults(desk, t), "1@0");
        }
        SchemaDesk desk = new SchemaDesk();
        check.throwing("diagnostic", ELEMENT, () -> desk.diagnostic(0, 0));
        check.throwing("proposal", ELEMENT, () -> desk.proposal(0, 0));
        check.throwing("holds", ELEMENT, () -> desk.holds(0, 0));
        check.throwing("judge", STATE, () -> desk.judge());
        check.throwing("propose", ELEMENT, () -> desk.propose(0));
        check.same("NONE", SchemaDesk.NONE, -1);
        // One object's texts are not another one's.
        SchemaDesk other = Check.desk("a", "b");
        check.same("length beside another one", desk.length(0) + desk.length(1), 0);
        check.same("length of the other one", other.length(0) + other.length(1), 2);
    }

    private static void type() {
        check.about("Promise 2: Appends a character to text t: true;");
        for (int t = 0; t < 2; t++) {
            SchemaDesk desk = new SchemaDesk();
            check.same("type 32", desk.type(t, (char) 32), true);
            check.same("type 126", desk.type(t, (char) 126), true);
            check.same("type \"", desk.type(t, '"'), true);
            check.same("text", Check.text(desk, t), " ~\"");
            check.same("the other text", desk.length(1 - t), 0);
        }
        SchemaDesk all = new SchemaDesk();
        for (char c = 32; c <= 126; c++) {
            check.same("type code " + (int) c, all.type(0, c), true);
            check.same("letter of code " + (int) c, all.letter(0, c - 32), c);
        }
    }

    private static void typeRefused() {
        check.about("Promise 2: false, when there is no such text, c is not of the codes said,");
        SchemaDesk desk = Check.desk("a", "b");
        for (int t : NO_TEXTS) {
            check.same("type into text " + t, desk.type(t, 'a'), false);
        }
        for (int code : NO_CODES) {
            check.same("type code " + code + " into 0", desk.type(0, (char) code), false);
            check.same("type code " + code + " into 1", desk.type(1, (char) code), false);
        }
        check.same("schema", Check.text(desk, 0), "a");
        check.same("document", Check.text(desk, 1), "b");
    }

    private static void typeFull() {
        check.about("Promise 2: false, when .. the text is full. (TEXT 0 is the SCHEMA, of at most"
                + " 160 characters, text 1 the DOCUMENT, of at most 80;)");
        SchemaDesk desk = new SchemaDesk();
        for (int n = 0; n < 160; n++) {
            check.same("type " + n + " into 0", desk.type(0, (char) (33 + n % 90)), true);
        }
        check.same("type into the full schema", desk.type(0, 'a'), false);
        check.same("again", desk.type(0, 'a'), false);
        for (int n = 0; n < 80; n++) {
            check.same("type " + n + " into 1", desk.type(1, (char) (40 + n)), true);
        }
        check.same("type into the full document", desk.type(1, 'a'), false);
        check.same("length of the schema", desk.length(0), 160);
        check.same("length of the document", desk.length(1), 80);
        check.same("its first letter", desk.letter(0, 0), (char) 33);
        check.same("its last letter", desk.letter(0, 159), (char) (33 + 159 % 90));
        check.same("the other's first letter", desk.letter(1, 0), (char) 40);
        check.same("the other's last letter", desk.letter(1, 79), (char) 119);
        desk.remove(0, 0, 1);
        desk.remove(1, 0, 1);
        check.same("type where there is room again", desk.type(0, 'a'), true);
        check.same("type where there is room again", desk.type(1, 'a'), true);
        check.same("full again", desk.type(0, 'a') || desk.type(1, 'a'), false);
    }

    private static final String[] WORDS = {
        "", "\"type\":", "\"const\":", "\"enum\":", "\"min\":", "\"max\":", "\"multiple\":",
        "\"minlength\":", "\"maxlength\":", "\"minitems\":", "\"maxitems\":", "\"required\":",
        "\"properties\":", "\"additional\":", "\"items\":", "\"allof\":", "\"anyof\":",
        "\"oneof\":", "\"not\":", "\"ref\":", "\"unevaluated\":", "\"defs\":", "\"null\"",
        "\"boolean\"", "\"number\"", "\"string\"", "\"array\"", "\"object\"",
    };

    private static void word() {
        check.about("Promise 3: Appends a word to text t: w = 1 .. 20 the name with this number"
                + " above, in \" and with a : behind; 21 likewise defs; 22 .. 27 in \" null, boolean,"
                + " number, string, array, object. True;");
        for (int t = 0; t < 2; t++) {
            for (int w = 1; w <= 27; w++) {
                SchemaDesk desk = Check.desk("{", "[");
                check.same("word " + w, desk.word(t, w), true);
                check.same("text of word " + w, Check.text(desk, t), "{[".charAt(t) + WORDS[w]);
                check.same("the other text", desk.length(1 - t), 1);
            }
        }
    }

    private static void wordRefused() {
        check.about("Promise 3: false when there is no such text or word,");
        SchemaDesk desk = new SchemaDesk();
        for (int t : NO_TEXTS) {
            check.same("word into text " + t, desk.word(t, 1), false);
        }
        for (int w : new int[] {0, -1, 28, 29, 30, 256 + 1, MOST, LEAST}) {
            check.same("word " + w + " into 0", desk.word(0, w), false);
            check.same("word " + w + " into 1", desk.word(1, w), false);
        }
        check.same("lengths", desk.length(0) + desk.length(1), 0);
    }

    private static void wordThatDoesNotFit() {
        check.about("Promise 3: false when .. it does not fit into the text.");
        for (int w = 1; w <= 27; w++) {
            for (int t = 0; t < 2; t++) {
                int before = (t == 0 ? 160 : 80) - WORDS[w].length();
                SchemaDesk fits = new SchemaDesk();
                Check.fill(fits, t, "x".repeat(before));
                SchemaDesk tight = new SchemaDesk();
                Check.fill(tight, t, "x".repeat(before + 1));
                check.same("word " + w + " that fits into " + t, fits.word(t, w), true);
                check.same("text", Check.text(fits, t), "x".repeat(before) + WORDS[w]);
                check.same("word " + w + " that doesn't into " + t, tight.word(t, w), false);
                check.same("text", Check.text(tight, t), "x".repeat(before + 1));
            }
        }
        SchemaDesk full = Check.desk("x".repeat(160), "y".repeat(80));
        check.same("word into a full text", full.word(0, 18) || full.word(1, 22), false);
    }

    private static void insert() {
        check.about("Promise 4: Puts c before place at of text t (at its end, if at is its"
                + " length).");
        for (int t = 0; t < 2; t++) {
            SchemaDesk desk = new SchemaDesk();
            desk.insert(t, 0, 'c');
            desk.insert(t, 0, 'a');
            desk.insert(t, 1, 'b');
            desk.insert(t, 3, (char) 126);
            desk.insert(t, 4, (char) 32);
            check.same("text", Check.text(desk, t), "abc~ ");
            check.same("the other text", desk.length(1 - t), 0);
        }
    }

    private static void insertWithoutTextOrCode() {
        check.about("Promise 4: IllegalArgumentException when there is no such text or c is not of"
                + " the codes said;");
        SchemaDesk desk = Check.desk("ab", "c");
        SchemaDesk full = Check.desk("x".repeat(160), "y".repeat(80));
        for (int t : NO_TEXTS) {
            check.throwing("insert into text " + t, ARGUMENT, () -> desk.insert(t, 0, 'a'));
            check.throwing("and at no place", ARGUMENT, () -> desk.insert(t, -1, 'a'));
        }
        for (int code : NO_CODES) {
            char c = (char) code;
            check.throwing("insert code " + code, ARGUMENT, () -> desk.insert(0, 0, c));
            check.throwing("insert code " + code, ARGUMENT, () -> desk.insert(1, 1, c));
            check.throwing("and below", ARGUMENT, () -> desk.insert(1, -1, c));
            check.throwing("and behind", ARGUMENT, () -> desk.insert(1, 2, c));
            check.throwing("and full", ARGUMENT, () -> full.insert(1, 0, c));
            check.throwing("and full, and behind", ARGUMENT, () -> full.insert(0, 161, c));
        }
        check.same("schema", Check.text(desk, 0), "ab");
        check.same("document", Check.text(desk, 1), "c");
    }

    private static void insertWithoutPlace() {
        check.about("Promise 4: else IndexOutOfBoundsException when at is not 0 .. length;");
        SchemaDesk desk = Check.desk("ab", "c");
        SchemaDesk full = Check.desk("x".repeat(160), "y".repeat(80));
        for (int at : new int[] {-1, 3, 4, 160, 161, MOST, LEAST}) {
            check.throwing("insert at " + at, INDEX, () -> desk.insert(0, at, 'a'));
        }
        for (int at : new int[] {-1, 2, 80, 81, MOST, LEAST}) {
            check.throwing("insert at " + at, INDEX, () -> desk.insert(1, at, 'a'));
        }
        check.throwing("insert at 1 of 0", INDEX, () -> new SchemaDesk().insert(0, 1, 'a'));
        for (int at : new int[] {-1, 161, MOST, LEAST}) {
            check.throwing("full, insert at " + at, INDEX, () -> full.insert(0, at, 'a'));
        }
        for (int at : new int[] {-1, 81, 160, MOST, LEAST}) {
            check.throwing("full, insert at " + at, INDEX, () -> full.insert(1, at, 'a'));
        }
        check.same("schema", Check.text(desk, 0), "ab");
        check.same("document", Check.text(desk, 1), "c");
    }

    private static void insertFull() {
        check.about("Promise 4: else IllegalStateException when the text is full.");
        SchemaDesk desk = Check.desk("x".repeat(159), "y".repeat(79));
        desk.insert(0, 159, 'a');
        desk.insert(1, 0, 'b');
        for (int at : new int[] {0, 1, 159, 160}) {
            check.throwing("insert at " + at, STATE, () -> desk.insert(0, at, 'a'));
        }
        for (int at : new int[] {0, 1, 79, 80}) {
            check.throwing("insert at " + at, STATE, () -> desk.insert(1, at, 'a'));
        }
        check.same("length of the schema", desk.length(0), 160);
        check.same("last of the schema", desk.letter(0, 159), 'a');
        check.same("document", Check.text(desk, 1), "b" + "y".repeat(79));
    }

    private static void remove() {
        check.about("Promise 5: Takes n characters from place at on out of text t.");
        for (int t = 0; t < 2; t++) {
            SchemaDesk desk = Check.desk("abcdef", "abcdef");
            desk.remove(t, 0, 0);
            desk.remove(t, 6, 0);
            desk.remove(t, 3, 0);
            check.same("none", Check.text(desk, t), "abcdef");
            desk.remove(t, 0, 1);
            check.same("the first", Check.text(desk, t), "bcdef");
            desk.remove(t, 4, 1);
            check.same("the last", Check.text(desk, t), "bcde");
            desk.remove(t, 1, 2);
            check.same("some inside", Check.text(desk, t), "be");
            desk.remove(t, 0, 2);
            check.same("all", desk.length(t), 0);
            desk.remove(t, 0, 0);
            check.same("none of none", desk.length(t), 0);
            check.same("the other text", Check.text(desk, 1 - t), "abcdef");
        }
        SchemaDesk full = Check.desk("x".repeat(160), "y".repeat(80));
        full.remove(0, 0, 160);
        full.remove(1, 1, 79);
        check.same("all of the full schema", full.length(0), 0);
        check.same("all but one of the full document", Check.text(full, 1), "y");
    }

    private static void removeWithoutText() {
        check.about("Promise 5: IllegalArgumentException when there is no such text or n is below"
                + " 0;");
        SchemaDesk desk = Check.desk("ab", "c");
        for (int t : NO_TEXTS) {
            check.throwing("remove from text " + t, ARGUMENT, () -> desk.remove(t, 0, 0));
            check.throwing("and at no place", ARGUMENT, () -> desk.remove(t, -1, 9));
        }
        for (int n : new int[] {-1, -2, LEAST}) {
            check.throwing("remove " + n, ARGUMENT, () -> desk.remove(0, 1, n));
            check.throwing("remove " + n, ARGUMENT, () -> desk.remove(1, 1, n));
            check.throwing("and below", ARGUMENT, () -> desk.remove(0, -1, n));
            check.throwing("and behind", ARGUMENT, () -> desk.remove(0, 3, n));
            check.throwing("and far", ARGUMENT, () -> desk.remove(0, MOST, n));
        }
        check.same("schema", Check.text(desk, 0), "ab");
        check.same("document", Check.text(desk, 1), "c");
    }

    private static void removeWithoutPlace() {
        check.about("Promise 5: else IndexOutOfBoundsException when at is below 0 or not so many are"
                + " there.");
        SchemaDesk desk = Check.desk("ab", "c");
        for (int at : new int[] {-1, -2, LEAST}) {
            for (int n : new int[] {0, 1, 2, MOST}) {
                check.throwing("remove at " + at + ", " + n, INDEX, () -> desk.remove(0, at, n));
            }
        }
        check.throwing("3 of 2", INDEX, () -> desk.remove(0, 0, 3));
        check.throwing("2 at 1", INDEX, () -> desk.remove(0, 1, 2));
        check.throwing("1 at 2", INDEX, () -> desk.remove(0, 2, 1));
        check.throwing("2 of 1", INDEX, () -> desk.remove(1, 0, 2));
        check.throwing("1 at 1", INDEX, () -> desk.remove(1, 1, 1));
        check.throwing("1 of none", INDEX, () -> new SchemaDesk().remove(0, 0, 1));
        check.throwing("none behind", INDEX, () -> desk.remove(1, 2, 0));
        for (int n : new int[] {1, 2, MOST}) {
            check.throwing(n + " at the most", INDEX, () -> desk.remove(0, MOST, n));
            check.throwing(n + " at the most but one", INDEX, () -> desk.remove(0, MOST - 1, n));
            check.throwing("the most at " + n, INDEX, () -> desk.remove(0, n, MOST));
            check.throwing("the most but " + n, INDEX, () -> desk.remove(0, n, MOST - n + 1));
        }
        check.same("schema", Check.text(desk, 0), "ab");
        check.same("document", Check.text(desk, 1), "c");
    }

    private static void length() {
        check.about("Promise 6: How many characters text t has. IllegalArgumentException when there"
                + " is no such text.");
        SchemaDesk desk = Check.desk("x".repeat(160), "y".repeat(80));
        check.same("full schema", desk.length(0), 160);
        check.same("full document", desk.length(1), 80);
        check.same("empty", new SchemaDesk().length(0), 0);
        check.same("blanks", Check.desk("", "   ").length(1), 3);
        for (int t : NO_TEXTS) {
            check.throwing("length of text " + t, ARGUMENT, () -> desk.length(t));
        }
    }

    private static void letter() {
        check.about("Promise 7: The character at a place of text t. IllegalArgumentException when"
                + " there is no such text; else IndexOutOfBoundsException when none is there.");
        SchemaDesk desk = Check.desk("abc", "d ");
        check.same("first", desk.letter(0, 0), 'a');
        check.same("last", desk.letter(0, 2), 'c');
        check.same("of the other text", desk.letter(1, 0), 'd');
        check.same("a blank", desk.letter(1, 1), ' ');
        for (int t : NO_TEXTS) {
            check.throwing("letter of text " + t, ARGUMENT, () -> desk.letter(t, 0));
            check.throwing("and at -1", ARGUMENT, () -> desk.letter(t, -1));
            check.throwing("and far", ARGUMENT, () -> desk.letter(t, 1000));
        }
        for (int at : new int[] {-1, 3, 4, 80, 160, MOST, LEAST}) {
            check.throwing("letter at " + at, INDEX, () -> desk.letter(0, at));
        }
        check.throwing("letter at 2 of 2", INDEX, () -> desk.letter(1, 2));
        check.throwing("letter of none", INDEX, () -> new SchemaDesk().letter(1, 0));
        desk.remove(0, 2, 1);
        check.throwing("letter that was removed", INDEX, () -> desk.letter(0, 2));
        SchemaDesk full = Check.desk("x".repeat(160), "y".repeat(80));
        check.same("last of the full schema", full.letter(0, 159), 'x');
        check.throwing("behind it", INDEX, () -> full.letter(0, 160));
        check.same("last of the full document", full.letter(1, 79), 'y');
        check.throwing("behind it", INDEX, () -> full.letter(1, 80));
    }

    private static void nodes() {
        check.about("Promise 8: How many nodes text t has, as it is now. IllegalArgumentException"
                + " when there is no such text.");
        for (int t = 0; t < 2; t++) {
            SchemaDesk desk = new SchemaDesk();
            check.same("none", desk.nodes(t), 0);
            desk.type(t, '?');
            check.same("none", desk.nodes(t), 0);
            desk.type(t, '[');
            check.same("behind type", desk.nodes(t), 1);
            desk.word(t, 1);
            check.same("behind word", desk.nodes(t), 2);
            desk.insert(t, 2, '1');
            check.same("behind insert", desk.nodes(t), 3);
            desk.remove(t, 2, 1);
            check.same("behind remove", desk.nodes(t), 2);
            desk.remove(t, 0, desk.length(t));
            check.same("empty again", desk.nodes(t), 0);
            check.same("the other text", desk.nodes(1 - t), 0);
        }
        for (int t : NO_TEXTS) {
            check.throwing("nodes of text " + t, ARGUMENT, () -> new SchemaDesk().nodes(t));
        }
    }

    private static void node() {
        check.about("Promise 9: what = 0 its kind, 1 from, 2 to, 3 its parent (NONE without one), 4"
                + " how many children it has, 5 the place of its name's first \" (NONE without a"
                + " name), 6 its number (0 for others than NUMBERS).");
        String text = " {\"a\":[-12,\"\"],\"\" : true}";
        for (int t = 0; t < 2; t++) {
            SchemaDesk desk = t == 0 ? Check.desk(text, "") : Check.desk("", text);
            check.same("nodes", Check.nodes(desk, t), "6/1/25/-1/2/-1/0 5/6/14/0/2/2/0"
                    + " 3/7/10/1/0/-1/-12 4/11/13/1/0/-1/0 2/20/24/0/0/15/0");
        }
        SchemaDesk again = Check.desk("[7,8]", "");
        again.node(0, 2, 6);
        again.remove(0, 1, 1);
        again.insert(0, 1, '[');
        check.same("number where another one stood", again.node(0, 1, 6), 0);
    }

    private static void nodeWithoutTextOrWhat() {
        check.about("Promise 9: IllegalArgumentException when there is no such text or what is none"
                + " of these;");
        SchemaDesk desk = Check.desk("[1]", "2");
        for (int t : NO_TEXTS) {
            check.throwing("node of text " + t, ARGUMENT, () -> desk.node(t, 0, 0));
            check.throwing("and no node", ARGUMENT, () -> desk.node(t, 9, 0));
        }
        for (int what : new int[] {-1, 7, 8, MOST, LEAST}) {
            check.throwing("what " + what, ARGUMENT, () -> desk.node(0, 0, what));
            check.throwing("what " + what, ARGUMENT, () -> desk.node(1, 0, what));
            check.throwing("and no node", ARGUMENT, () -> desk.node(1, 1, what));
            check.throwing("and node -1", ARGUMENT, () -> desk.node(0, -1, what));
        }
    }

    private static void nodeThatIsNotThere() {
        check.about("Promise 9: else NoSuchElementException when there is no such node.");
        SchemaDesk desk = Check.desk("[1]", "2");
        for (int what = 0; what <= 6; what++) {
            int of = what;
            for (int k : new int[] {-1, 2, 3, 160, MOST, LEAST}) {
                check.throwing("node " + k, ELEMENT, () -> desk.node(0, k, of));
            }
            check.throwing("node 1 of 1", ELEMENT, () -> desk.node(1, 1, of));
            check.throwing("node 0 of none", ELEMENT, () -> new SchemaDesk().node(1, 0, of));
        }
        desk.remove(0, 1, 1);
        check.throwing("node that was there", ELEMENT, () -> desk.node(0, 1, 0));
    }

    private static void faults() {
        check.about("Promise 10: How many faults text t has. IllegalArgumentException when there is"
                + " no such text.");
        SchemaDesk desk = Check.desk("[1]", "[nul");
        check.same("none", desk.faults(0), 0);
        check.same("two", desk.faults(1), 2);
        desk.type(1, ']');
        check.same("one", desk.faults(1), 1);
        desk.insert(0, 0, '?');
        check.same("one", desk.faults(0), 1);
        desk.remove(0, 0, 1);
        check.same("none", desk.faults(0), 0);
        desk.word(0, 1);
        check.same("one", desk.faults(0), 1);
        for (int t : NO_TEXTS) {
            check.throwing("faults of text " + t, ARGUMENT, () -> desk.faults(t));
        }
    }

    private static void fault() {
        check.about("Promise 11: Fault k of text t: its number + 16 * its place.");
        SchemaDesk desk = Check.desk(" [nul,]", "?");
        check.same("first", desk.fault(0, 0), 7 + 16 * 2);
        check.same("second", desk.fault(0, 1), 10 + 16 * 6);
        check.same("at place 0", desk.fault(1, 0), 3);
        check.same("at the end", desk.fault(1, 1), 1 + 16);
        check.same("at the last place", Check.desk(" ".repeat(160), "").fault(0, 0), 1 + 16 * 160);
        check.same("the highest number", Check.desk("[[[[[[[[[", "").fault(0, 0), 14 + 16 * 8);
    }

    private static void faultThatIsNotThere() {
        check.about("Promise 11: IllegalArgumentException when there is no such text; else"
                + " NoSuchElementException when there is no such fault.");
        SchemaDesk desk = Check.desk("[1]", "[nul");
        for (int t : NO_TEXTS) {
            check.throwing("fault of text " + t, ARGUMENT, () -> desk.fault(t, 0));
            check.throwing("and no fault", ARGUMENT, () -> desk.fault(t, -1));
        }
        check.throwing("fault 0 of none", ELEMENT, () -> desk.fault(0, 0));
        for (int k : new int[] {-1, 2, 3, 480, MOST, LEAST}) {
            check.throwing("fault " + k, ELEMENT, () -> desk.fault(1, k));
        }
        desk.type(1, ']');
        check.throwing("fault that was there", ELEMENT, () -> desk.fault(1, 1));
    }

    private static void holds() {
        check.about("Promise 12: Whether node s of the schema holds for node i of the document.");
        SchemaDesk desk = Check.desk("[{\"max\":1},false]", "[1,2]");
        String all = "";
        for (int s = 0; s < 4; s++) {
            for (int i = 0; i < 3; i++) {
                all += desk.holds(s, i) ? "+" : "-";
            }
        }
        check.same("each for each", all, "+++" + "++-" + "+++" + "---");
        check.same("with faults", Check.desk("{\"max\":1", "[2").holds(0, 1), false);
        desk.remove(1, 3, 1);
        desk.insert(1, 3, '0');
        check.same("behind a change of the document", desk.holds(1, 2), true);
        desk.insert(0, 8, '-');
        check.same("behind a change of the schema", desk.holds(1, 2), false);
        SchemaDesk evaluated = Check.desk("{\"unevaluated\":false,\"additional\":1}", "{\"a\":1}");
        check.same("evaluated", evaluated.holds(0, 0), true);
        evaluated.remove(0, 20, 15);
        check.same("no longer evaluated", evaluated.holds(0, 0), false);
        evaluated.remove(1, 1, 5);
        check.same("no child", evaluated.holds(0, 0), true);
    }

    private static void holdsWithoutNode() {
        check.about("Promise 12: NoSuchElementException when one of them is not there;");
        SchemaDesk desk = Check.desk("[1]", "2");
        SchemaDesk circle = Check.desk("{\"ref\":\"#\"}", "2");
        for (int s : new int[] {-1, 2, 160, MOST, LEAST}) {
            check.throwing("s " + s, ELEMENT, () -> desk.holds(s, 0));
            check.throwing("s " + s + " and i", ELEMENT, () -> desk.holds(s, 1));
            check.throwing("s " + s + " and a circle", ELEMENT, () -> circle.holds(s, 0));
        }
        for (int i : new int[] {-1, 1, 80, MOST, LEAST}) {
            check.throwing("i " + i, ELEMENT, () -> desk.holds(1, i));
            check.throwing("i " + i + " and a circle", ELEMENT, () -> circle.holds(0, i));
        }
        check.throwing("no schema", ELEMENT, () -> Check.desk("", "1").holds(0, 0));
        check.throwing("no document", ELEMENT, () -> Check.desk("1", "?").holds(0, 0));
        check.throwing("circle, no document", ELEMENT,
                () -> Check.desk("{\"ref\":\"#\"}", "").holds(0, 0));
    }

    private static void holdsInCircle() {
        check.about("Promise 12: else UnsupportedOperationException when some node of the schema"
                + " goes in a circle.");
        SchemaDesk desk = Check.desk("{\"defs\":{\"a\":{\"ref\":\"#a\"}},\"max\":1}", "[1]");
        int last = desk.nodes(0) - 1;
        check.same("last node", last, 4);
        for (int s = 0; s <= last; s++) {
            int of = s;
            check.throwing("node " + s, CIRCLE, () -> desk.holds(of, 0));
            check.throwing("node " + s, CIRCLE, () -> desk.holds(of, 1));
        }
        desk.remove(0, 21, 1);
        check.same("without the circle", desk.holds(0, 0), true);
        desk.insert(0, 21, '#');
        check.throwing("with it again", CIRCLE, () -> desk.holds(0, 0));
    }

    private static void judge() {
        check.about("Promise 13: Judges the document: how many diagnostics there are.");
        check.same("none", Check.desk("{}", "1").judge(), 0);
        check.same("one", Check.desk("false", "1").judge(), 1);
        check.same("two", Check.desk("{\"items\":false}", "[1,2]").judge(), 2);
        SchemaDesk desk = Check.desk("{\"items\":false}", "[1]");
        check.same("first", desk.judge(), 1);
        check.same("again", desk.judge(), 1);
        desk.remove(1, 1, 1);
        check.same("behind a change", desk.judge(), 0);
        desk.remove(1, 0, 2);
        Check.fill(desk, 1, "{\"a\":1}");
        check.same("for an OBJECT", desk.judge(), 0);
    }

    private static void judgeWithFaults() {
        check.about("Promise 13: IllegalStateException when one of the texts has faults;");
        String[] faulty = {
            "", " ", "1 1", "?1", "[", "\"", "{", "-", "1234567", "nul", "[,1]", "[1 1]", "[1,]",
            "{\"a\"1}", "{\"a\":}", "{\"a\":1,\"a\":1}", "[[[[[[[[[]]]]]]]]",
        };
        for (String text : faulty) {
            check.throwing("schema " + text, STATE, () -> Check.desk(text, "1").judge());
            check.throwing("document " + text, STATE, () -> Check.desk("1", text).judge());
            check.throwing("both " + text, STATE, () -> Check.desk(text, text).judge());
            check.throwing("circle and " + text, STATE,
                    () -> Check.desk("{\"ref\":\"#\"}", text).judge());
        }
        check.throwing("circle with a fault", STATE,
                () -> Check.desk("{\"ref\":\"#\",}", "1").judge());
        check.same("without faults", Check.desk(" [1] ", " {} ").judge(), 0);
    }

    private static void judgeInCircle() {
        check.about("Promise 13: else UnsupportedOperationException when some node of the schema"
                + " goes in a circle.");
        check.throwing("node 0", CIRCLE, () -> Check.desk("{\"ref\":\"#\"}", "1").judge());
        check.throwing("a node that nothing asks", CIRCLE,
                () -> Check.desk("{\"defs\":{\"a\":{\"ref\":\"#a\"}}}", "1").judge());
        SchemaDesk desk = Check.desk("{\"not\":{\"ref\":\"#\"}}", "1");
        check.throwing("a circle", CIRCLE, () -> desk.judge());
        desk.insert(0, 15, 'a');
        check.same("no more", desk.judge(), 0);
        desk.remove(0, 15, 1);
        check.throwing("again", CIRCLE, () -> desk.judge());
    }

    private static void diagnosticOfTheLatest() {
        check.about("Promise 14: Of diagnostic k of the latest judge() that did not throw: what = 0"
                + " its code, 1 the node of the document, 2 that of the schema (as they were"
                + " numbered then).");
        SchemaDesk desk = Check.desk("{\"items\":{\"max\":1}}", "[1,2]");
        check.throwing("before any", ELEMENT, () -> desk.diagnostic(0, 0));
        desk.judge();
        check.same("code", desk.diagnostic(0, 0), 5);
        check.same("node of the document", desk.diagnostic(0, 1), 2);
        check.same("node of the schema", desk.diagnostic(0, 2), 2);
        desk.remove(1, 1, 2);
        desk.insert(0, 0, '[');
        check.same("behind changes", Check.latestDiagnostics(desk), "5/2/2");
        check.throwing("a judge() with faults", STATE, () -> desk.judge());
        check.same("behind it", Check.latestDiagnostics(desk), "5/2/2");
        desk.remove(0, 0, 1);
        check.same("the next judge()", desk.judge(), 1);
        check.same("behind it", Check.latestDiagnostics(desk), "5/1/2");
        desk.remove(0, 0, desk.length(0));
        Check.fill(desk, 0, "{\"ref\":\"#\"}");
        check.throwing("a judge() with a circle", CIRCLE, () -> desk.judge());
        check.same("behind it", Check.latestDiagnostics(desk), "5/1/2");
        desk.remove(0, 0, desk.length(0));
        Check.fill(desk, 0, "{}");
        check.same("a judge() that finds nothing", desk.judge(), 0);
        check.same("behind it", Check.latestDiagnostics(desk), "");
    }

    private static void diagnosticRefused() {
        check.about("Promise 14: IllegalArgumentException when what is none of these; else"
                + " NoSuchElementException when there is no such diagnostic.");
        SchemaDesk desk = Check.desk("{\"items\":false}", "[1,2]");
        SchemaDesk fresh = new SchemaDesk();
        desk.judge();
        for (int what : new int[] {-1, 3, 4, MOST, LEAST}) {
            check.throwing("what " + what, ARGUMENT, () -> desk.diagnostic(0, what));
            check.throwing("and k behind", ARGUMENT, () -> desk.diagnostic(2, what));
            check.throwing("and k below", ARGUMENT, () -> desk.diagnostic(-1, what));
            check.throwing("and none judged", ARGUMENT, () -> fresh.diagnostic(0, what));
        }
        for (int what = 0; what <= 2; what++) {
            int of = what;
            for (int k : new int[] {-1, 2, 3, 64, MOST, LEAST}) {
                check.throwing("k " + k, ELEMENT, () -> desk.diagnostic(k, of));
            }
            check.throwing("none judged", ELEMENT, () -> fresh.diagnostic(0, of));
        }
        check.same("the last", desk.diagnostic(1, 1), 2);
    }

    private static void propose() {
        check.about("Promise 15: Looks for the names proposed for node i of the document: how many."
                + " .. (Faults do not matter.)");
        String schema = "{\"properties\":{\"b\":{\"properties\":{\"a\":1,\"c\":1}}}}";
        SchemaDesk desk = Check.desk(schema, "{\"b\":{}}");
        check.same("none", desk.propose(0), 0);
        check.same("two", desk.propose(1), 2);
        check.same("two again", desk.propose(1), 2);
        check.same("none again", desk.propose(0), 0);
        desk.remove(1, 2, 1);
        check.same("one, behind a change", desk.propose(0), 1);
        check.same("none, behind a change", desk.propose(1), 0);
        check.same("faults in the schema", Check.desk("?{\"properties\":{\"a\":1", "{}").propose(0),
                1);
        check.same("faults in the document",
                Check.desk("{\"properties\":{\"a\":1}}", "?{\"b\"").propose(0), 1);
        check.same("faults in both", Check.desk("{\"properties\":{\"a\":nul", "{,").propose(0), 1);
    }

    private static void proposeWithoutNode() {
        check.about("Promise 15: NoSuchElementException when there is no node i or it is no OBJECT,"
                + " or the schema has no nodes;");
        SchemaDesk desk = Check.desk("{}", "{\"a\":{}}");
        SchemaDesk circle = Check.desk("{\"ref\":\"#\"}", "{\"a\":{}}");
        for (int i : new int[] {-1, 2, 3, 80, MOST, LEAST}) {
            check.throwing("i " + i, ELEMENT, () -> desk.propose(i));
            check.throwing("i " + i + " and a circle", ELEMENT, () -> circle.propose(i));
        }
        for (String document : new String[] {"null", "false", "true", "1", "\"\"", "[{}]", "x"}) {
            check.throwing("for " + document, ELEMENT,
                    () -> Check.desk("{}", document).propose(0));
            check.throwing("circle, for " + document, ELEMENT,
                    () -> Check.desk("{\"ref\":\"#\"}", document).propose(0));
        }
        check.throwing("no document", ELEMENT, () -> Check.desk("{}", "").propose(0));
        check.throwing("no schema", ELEMENT, () -> Check.desk("", "{}").propose(0));
        check.throwing("no node in the schema", ELEMENT, () -> Check.desk(" ?", "{}").propose(0));
        check.throwing("neither", ELEMENT, () -> new SchemaDesk().propose(0));
        check.same("any node in the schema", Check.desk("1", "{}").propose(0), 0);
        check.same("an OBJECT behind others", Check.desk("{}", "[1,{}]").propose(2), 0);
    }

    private static void proposeInCircle() {
        check.about("Promise 15: else UnsupportedOperationException when some node of the schema"
                + " goes in a circle.");
        SchemaDesk desk = Check.desk("{\"defs\":{\"a\":{\"ref\":\"#a\"}}}", "{\"a\":{}}");
        check.throwing("node 0", CIRCLE, () -> desk.propose(0));
        check.throwing("node 1", CIRCLE, () -> desk.propose(1));
        check.throwing("with faults", CIRCLE, () -> Check.desk("{\"ref\":\"#", "{").propose(0));
        desk.insert(0, 21, 'b');
        check.same("no more", desk.propose(1), 0);
        desk.remove(0, 21, 1);
        check.throwing("again", CIRCLE, () -> desk.propose(1));
    }

    private static void proposalOfTheLatest() {
        check.about("Promise 16: Character j of name k of the latest propose() that did not throw,"
                + " or NONE behind its last one.");
        SchemaDesk desk = Check.desk("{\"properties\":{\"cd\":1,\"\":1}}", "{}");
        check.throwing("before any", ELEMENT, () -> desk.proposal(0, 0));
        desk.propose(0);
        check.same("an empty name", desk.proposal(0, 0), -1);
        check.same("the first", desk.proposal(1, 0), (int) 'c');
        check.same("the last", desk.proposal(1, 1), (int) 'd');
        for (int j : new int[] {2, 3, 160, 161, MOST}) {
            check.same("behind it, " + j, desk.proposal(1, j), -1);
            check.same("behind the empty one, " + j, desk.proposal(0, j), -1);
        }
        desk.remove(0, 16, 2);
        desk.insert(1, 0, '[');
        check.same("behind changes", Check.latestProposals(desk), "'' 'cd'");
        check.throwing("a propose() for an ARRAY", ELEMENT, () -> desk.propose(0));
        check.same("behind it", Check.latestProposals(desk), "'' 'cd'");
        desk.remove(1, 0, 1);
        desk.remove(0, 0, desk.length(0));
        check.throwing("a propose() without a schema", ELEMENT, () -> desk.propose(0));
        Check.fill(desk, 0, "{\"ref\":\"#\"}");
        check.throwing("a propose() with a circle", CIRCLE, () -> desk.propose(0));
        check.same("behind it", Check.latestProposals(desk), "'' 'cd'");
        desk.remove(0, 0, desk.length(0));
        Check.fill(desk, 0, "{\"properties\":{\"e\":1}}");
        check.same("behind a change", Check.latestProposals(desk), "'' 'cd'");
        check.same("the next propose()", desk.propose(0), 1);
        check.same("behind it", Check.latestProposals(desk), "'e'");
        desk.remove(0, 16, 1);
        desk.remove(0, 15, 4);
        check.same("a propose() that finds nothing", desk.propose(0), 0);
        check.same("behind it", Check.latestProposals(desk), "");
    }

    private static void proposalRefused() {
        check.about("Promise 16: NoSuchElementException when there is no such name, or j is below"
                + " 0.");
        SchemaDesk desk = Check.desk("{\"properties\":{\"ab\":1,\"c\":1}}", "{}");
        desk.propose(0);
        for (int k : new int[] {-1, 2, 3, 160, MOST, LEAST}) {
            check.throwing("k " + k, ELEMENT, () -> desk.proposal(k, 0));
            check.throwing("k " + k + " and j", ELEMENT, () -> desk.proposal(k, -1));
        }
        for (int j : new int[] {-1, -2, LEAST}) {
            check.throwing("j " + j, ELEMENT, () -> desk.proposal(0, j));
            check.throwing("j " + j, ELEMENT, () -> desk.proposal(1, j));
        }
        check.same("the last name", desk.proposal(1, 0), (int) 'c');
    }
}
