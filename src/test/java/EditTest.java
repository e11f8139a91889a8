import java.util.NoSuchElementException;

/** Promises 1 to 7: the new object and the editing of its texts. */
public final class EditTest {
    private static final Check check = new Check();

    public static void main(String[] args) {
        newObject();
        typing();
        words();
        inserting();
        removing();
        lengthAndLetter();
        readingAgainBehindEachEdit();
        check.end();
    }

    private static void newObject() {
        SchemaDesk desk = new SchemaDesk();
        check.same("NONE", SchemaDesk.NONE, -1);
        for (int t = 0; t < 2; t++) {
            check.same("new length", desk.length(t), 0);
            check.same("new nodes", desk.nodes(t), 0);
            check.same("new faults", Check.faults(desk, t), "1@0");
        }
        check.throwing("new diagnostic", NoSuchElementException.class, () -> desk.diagnostic(0, 0));
        check.throwing("new proposal", NoSuchElementException.class, () -> desk.proposal(0, 0));
    }

    private static void typing() {
        SchemaDesk desk = new SchemaDesk();
        check.same("type into text -1", desk.type(-1, 'a'), false);
        check.same("type into text 2", desk.type(2, 'a'), false);
        check.same("type code 31", desk.type(0, (char) 31), false);
        check.same("type code 127", desk.type(0, (char) 127), false);
        check.same("type code 65535", desk.type(0, (char) 65535), false);
        check.same("type code 32", desk.type(0, (char) 32), true);
        check.same("type code 126", desk.type(0, (char) 126), true);
        check.same("typed", Check.text(desk, 0), " ~");
        check.same("other text", desk.length(1), 0);
        SchemaDesk full = Check.desk("x".repeat(159), "y".repeat(79));
        check.same("type the 160th", full.type(0, 'z'), true);
        check.same("type the 161st", full.type(0, 'z'), false);
        check.same("type the 80th", full.type(1, 'z'), true);
        check.same("type the 81st", full.type(1, 'z'), false);
        check.same("full schema", full.length(0), 160);
        check.same("full document", full.length(1), 80);
    }

    private static void words() {
        String[] due = {
            "\"type\":", "\"const\":", "\"enum\":", "\"min\":", "\"max\":", "\"multiple\":",
            "\"minlength\":", "\"maxlength\":", "\"minitems\":", "\"maxitems\":", "\"required\":",
            "\"properties\":", "\"additional\":", "\"items\":", "\"allof\":", "\"anyof\":",
            "\"oneof\":", "\"not\":", "\"ref\":", "\"unevaluated\":", "\"defs\":", "\"null\"",
            "\"boolean\"", "\"number\"", "\"string\"", "\"array\"", "\"object\"",
        };
        for (int w = 1; w <= 27; w++) {
            SchemaDesk desk = Check.desk("a", "b");
            check.same("word(0, " + w + ")", desk.word(0, w), true);
            check.same("word " + w, Check.text(desk, 0), "a" + due[w - 1]);
            check.same("word(1, " + w + ")", desk.word(1, w), true);
            check.same("word " + w, Check.text(desk, 1), "b" + due[w - 1]);
        }
        SchemaDesk desk = new SchemaDesk();
        check.same("word 0", desk.word(0, 0), false);
        check.same("word 28", desk.word(0, 28), false);
        check.same("word 29", desk.word(0, 29), false);
        check.same("word -1", desk.word(0, -1), false);
        check.same("word into text -1", desk.word(-1, 1), false);
        check.same("word into text 2", desk.word(2, 1), false);
        check.same("nothing written", desk.length(0) + desk.length(1), 0);
        SchemaDesk tight = Check.desk("x".repeat(154), "y".repeat(74));
        check.same("a name of 7 into 6", tight.word(0, 1), false);
        check.same("length behind it", tight.length(0), 154);
        check.same("a name of 6 into 6", tight.word(0, 18), true);
        check.same("length behind it", tight.length(0), 160);
        check.same("a word of 7 into 6", tight.word(1, 26), false);
        check.same("a word of 6 into 6", tight.word(1, 22), true);
        check.same("length behind it", tight.length(1), 80);
    }

    private static void inserting() {
        SchemaDesk desk = Check.desk("", "ad");
        desk.insert(1, 1, 'c');
        desk.insert(1, 1, 'b');
        desk.insert(1, 4, 'e');
        desk.insert(1, 0, ' ');
        check.same("inserted", Check.text(desk, 1), " abcde");
        check.throwing("no text, no place", IllegalArgumentException.class,
                () -> desk.insert(2, 9, 'a'));
        check.throwing("text -1", IllegalArgumentException.class, () -> desk.insert(-1, 0, 'a'));
        check.throwing("code 31, no place", IllegalArgumentException.class,
                () -> desk.insert(1, 9, (char) 31));
        check.throwing("code 127", IllegalArgumentException.class,
                () -> desk.insert(1, 0, (char) 127));
        check.throwing("at -1", IndexOutOfBoundsException.class, () -> desk.insert(1, -1, 'a'));
        check.throwing("at 7", IndexOutOfBoundsException.class, () -> desk.insert(1, 7, 'a'));
        check.same("unchanged", Check.text(desk, 1), " abcde");
        SchemaDesk full = Check.desk("x".repeat(160), "y".repeat(80));
        check.throwing("full schema", IllegalStateException.class, () -> full.insert(0, 160, 'a'));
        check.throwing("full document", IllegalStateException.class, () -> full.insert(1, 0, 'a'));
        check.throwing("full, no place", IndexOutOfBoundsException.class,
                () -> full.insert(1, 81, 'a'));
        full.remove(1, 79, 1);
        full.insert(1, 0, 'z');
        check.same("full again", Check.text(full, 1), "z" + "y".repeat(79));
    }

    private static void removing() {
        SchemaDesk desk = Check.desk("", "abcdef");
        desk.remove(1, 1, 2);
        check.same("removed", Check.text(desk, 1), "adef");
        desk.remove(1, 3, 1);
        desk.remove(1, 0, 1);
        desk.remove(1, 2, 0);
        check.same("removed", Check.text(desk, 1), "de");
        check.throwing("text 2", IllegalArgumentException.class, () -> desk.remove(2, 9, 9));
        check.throwing("text -1", IllegalArgumentException.class, () -> desk.remove(-1, 0, 0));
        check.throwing("n -1, no place", IllegalArgumentException.class,
                () -> desk.remove(1, 9, -1));
        check.throwing("at -1", IndexOutOfBoundsException.class, () -> desk.remove(1, -1, 0));
        check.throwing("3 of 2", IndexOutOfBoundsException.class, () -> desk.remove(1, 0, 3));
        check.throwing("at 2, 1", IndexOutOfBoundsException.class, () -> desk.remove(1, 2, 1));
        check.throwing("at 3, none", IndexOutOfBoundsException.class, () -> desk.remove(1, 3, 0));
        check.throwing("far", IndexOutOfBoundsException.class,
                () -> desk.remove(1, Integer.MAX_VALUE, Integer.MAX_VALUE));
        check.throwing("many", IndexOutOfBoundsException.class,
                () -> desk.remove(1, 1, Integer.MAX_VALUE));
        check.same("unchanged", Check.text(desk, 1), "de");
        desk.remove(1, 0, 2);
        check.same("all removed", desk.length(1), 0);
    }

    private static void lengthAndLetter() {
        SchemaDesk desk = Check.desk("abc", "de");
        check.same("length of the schema", desk.length(0), 3);
        check.same("length of the document", desk.length(1), 2);
        check.throwing("length(-1)", IllegalArgumentException.class, () -> desk.length(-1));
        check.throwing("length(2)", IllegalArgumentException.class, () -> desk.length(2));
        check.same("letter", desk.letter(0, 2), 'c');
        check.same("letter", desk.letter(1, 0), 'd');
        check.throwing("letter of text 2", IllegalArgumentException.class,
                () -> desk.letter(2, 9));
        check.throwing("letter at -1", IndexOutOfBoundsException.class, () -> desk.letter(0, -1));
        check.throwing("letter at 3", IndexOutOfBoundsException.class, () -> desk.letter(0, 3));
        check.throwing("letter at 2", IndexOutOfBoundsException.class, () -> desk.letter(1, 2));
    }

    private static void readingAgainBehindEachEdit() {
        for (int t = 0; t < 2; t++) {
            SchemaDesk desk = new SchemaDesk();
            check.same("empty", desk.nodes(t), 0);
            desk.type(t, '[');
            check.same("behind type", desk.nodes(t), 1);
            desk.word(t, 22);
            check.same("behind word", desk.nodes(t), 2);
            desk.insert(t, 1, '1');
            check.same("behind insert", desk.nodes(t), 3);
            desk.remove(t, 0, 1);
            check.same("behind remove", desk.nodes(t), 1);
        }
    }
}
