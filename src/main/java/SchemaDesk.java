import java.util.Arrays;
import java.util.NoSuchElementException;

/**
 * A desk for two texts, a schema and a document: both are read tolerantly, with all that is wrong
 * in them; the document is judged by the schema, with the places that don't hold and why; and names
 * are proposed that could stand in it.
 */
public final class SchemaDesk {
    public static final int NONE = -1;

    private static final int SCHEMA = 0;
    private static final int DOCUMENT = 1;
    private static final int SCHEMA_LIMIT = 160;
    private static final int DOCUMENT_LIMIT = 80;
    private static final int LOWEST_CODE = 32;
    private static final int HIGHEST_CODE = 126;

    /** So many { and [ may stand around one another; this keeps every recursion low. */
    private static final int DEEPEST = 8;
    private static final int MOST_DIGITS = 6;
    private static final char QUOTE = '"';

    private static final int NULL = 0;
    private static final int FALSE = 1;
    private static final int TRUE = 2;
    private static final int NUMBER = 3;
    private static final int STRING = 4;
    private static final int ARRAY = 5;
    private static final int OBJECT = 6;

    private static final int NOTHING_THERE = 1;
    private static final int SOMETHING_BEHIND = 2;
    private static final int WRONG_CHARACTER = 3;
    private static final int NOT_ENDED = 4;
    private static final int NO_DIGITS = 5;
    private static final int TOO_MANY_DIGITS = 6;
    private static final int UNKNOWN_LETTERS = 7;
    private static final int COMMA_TOO_MANY = 8;
    private static final int COMMA_MISSING = 9;
    private static final int COMMA_BEFORE_END = 10;
    private static final int COLON_MISSING = 11;
    private static final int VALUE_MISSING = 12;
    private static final int NAME_AGAIN = 13;
    private static final int TOO_DEEP = 14;

    private static final int TYPE = 1;
    private static final int CONST = 2;
    private static final int ENUM = 3;
    private static final int MIN = 4;
    private static final int MAX = 5;
    private static final int MULTIPLE = 6;
    private static final int MINLENGTH = 7;
    private static final int MAXLENGTH = 8;
    private static final int MINITEMS = 9;
    private static final int MAXITEMS = 10;
    private static final int REQUIRED = 11;
    private static final int PROPERTIES = 12;
    private static final int ADDITIONAL = 13;
    private static final int ITEMS = 14;
    private static final int ALLOF = 15;
    private static final int ANYOF = 16;
    private static final int ONEOF = 17;
    private static final int NOT = 18;
    private static final int REF = 19;
    private static final int UNEVALUATED = 20;
    private static final int DEFS = 21;
    private static final int WORD_NULL = 22;
    private static final int LAST_WORD = 27;
    private static final int WORD_FALSE = 28;
    private static final int WORD_TRUE = 29;
    private static final int WORDS = 29;

    /** Every word has a blank behind it, so that the next one's start tells where it ends. */
    private static final String SPELLED = "type const enum min max multiple minlength maxlength minitems maxitems required properties additional items allof anyof oneof not ref unevaluated defs null boolean number string array object false true ";

    /** The word that a type says of a node, by the node's kind. */
    private static final int[] WORD_OF_KIND = {22, 23, 23, 24, 25, 26, 27};

    private final WordBook words;
    private final Tree schema;
    private final Tree document;
    private final Reader schemaReader;
    private final Reader documentReader;
    private final Plan plan;
    private final Verdicts verdicts;
    private final Report report;
    private final Proposals proposals;

    public SchemaDesk() {
        words = new WordBook();
        schema = new Tree(new Text(SCHEMA_LIMIT));
        document = new Tree(new Text(DOCUMENT_LIMIT));
        schemaReader = new Reader(schema, words);
        documentReader = new Reader(document, words);
        plan = new Plan(schema, words);
        verdicts = new Verdicts(plan, document);
        report = new Report(verdicts);
        proposals = new Proposals(verdicts);
    }

    public boolean type(int t, char c) {
        if (!isText(t) || !isCharacter(c)) {
            return false;
        }
        Text text = textOf(t);
        if (text.room() < 1) {
            return false;
        }
        text.put(text.size, c);
        edited(t);
        return true;
    }

    public boolean word(int t, int w) {
        if (!isText(t) || w < TYPE || w > LAST_WORD) {
            return false;
        }
        Text text = textOf(t);
        boolean isName = w <= DEFS;
        int size = words.sizeOf(w);
        if (text.room() < size + (isName ? 3 : 2)) {
            return false;
        }
        text.put(text.size, QUOTE);
        for (int k = 0; k < size; k++) {
            text.put(text.size, words.characterOf(w, k));
        }
        text.put(text.size, QUOTE);
        if (isName) {
            text.put(text.size, ':');
        }
        edited(t);
        return true;
    }

    public void insert(int t, int at, char c)
            throws IllegalArgumentException, IndexOutOfBoundsException, IllegalStateException {
        if (!isText(t) || !isCharacter(c)) {
            throw new IllegalArgumentException();
        }
        Text text = textOf(t);
        if (at < 0 || at > text.size) {
            throw new IndexOutOfBoundsException();
        }
        if (text.room() < 1) {
            throw new IllegalStateException();
        }
        text.put(at, c);
        edited(t);
    }

    public void remove(int t, int at, int n)
            throws IllegalArgumentException, IndexOutOfBoundsException {
        if (!isText(t) || n < 0) {
            throw new IllegalArgumentException();
        }
        Text text = textOf(t);
        if (at < 0 || n > text.size - at) {
            throw new IndexOutOfBoundsException();
        }
        text.take(at, n);
        edited(t);
    }

    public int length(int t) throws IllegalArgumentException {
        if (!isText(t)) {
            throw new IllegalArgumentException();
        }
        return textOf(t).size;
    }

    public char letter(int t, int at) throws IllegalArgumentException, IndexOutOfBoundsException {
        if (!isText(t)) {
            throw new IllegalArgumentException();
        }
        Text text = textOf(t);
        if (at < 0 || at >= text.size) {
            throw new IndexOutOfBoundsException();
        }
        return text.letters[at];
    }

    public int nodes(int t) throws IllegalArgumentException {
        if (!isText(t)) {
            throw new IllegalArgumentException();
        }
        return readTree(t).size;
    }

    public int node(int t, int k, int what)
            throws IllegalArgumentException, NoSuchElementException {
        if (!isText(t) || what < 0 || what > 6) {
            throw new IllegalArgumentException();
        }
        Tree tree = readTree(t);
        if (!tree.has(k)) {
            throw new NoSuchElementException();
        }
        switch (what) {
            case 0: return tree.kind[k];
            case 1: return tree.from[k];
            case 2: return tree.to[k];
            case 3: return tree.parent[k];
            case 4: return tree.children[k];
            case 5: return tree.name[k];
            default: return tree.number[k];
        }
    }

    public int faults(int t) throws IllegalArgumentException {
        if (!isText(t)) {
            throw new IllegalArgumentException();
        }
        return readTree(t).faultCount;
    }

    public int fault(int t, int k) throws IllegalArgumentException, NoSuchElementException {
        if (!isText(t)) {
            throw new IllegalArgumentException();
        }
        Tree tree = readTree(t);
        if (k < 0 || k >= tree.faultCount) {
            throw new NoSuchElementException();
        }
        return tree.faultRow[k];
    }

    public boolean holds(int s, int i)
            throws NoSuchElementException, UnsupportedOperationException {
        if (!readTree(SCHEMA).has(s) || !readTree(DOCUMENT).has(i)) {
            throw new NoSuchElementException();
        }
        plan.refresh();
        if (plan.circular) {
            throw new UnsupportedOperationException();
        }
        verdicts.refresh();
        return verdicts.isHeld(s, i);
    }

    public int judge() throws IllegalStateException, UnsupportedOperationException {
        if (readTree(SCHEMA).faultCount > 0 || readTree(DOCUMENT).faultCount > 0) {
            throw new IllegalStateException();
        }
        plan.refresh();
        if (plan.circular) {
            throw new UnsupportedOperationException();
        }
        verdicts.refresh();
        report.write();
        return report.count;
    }

    public int diagnostic(int k, int what)
            throws IllegalArgumentException, NoSuchElementException {
        if (what < 0 || what > 2) {
            throw new IllegalArgumentException();
        }
        if (k < 0 || k >= report.count) {
            throw new NoSuchElementException();
        }
        switch (what) {
            case 0: return report.codeOf(k);
            case 1: return report.documentNodeOf(k);
            default: return report.schemaNodeOf(k);
        }
    }

    public int propose(int i) throws NoSuchElementException, UnsupportedOperationException {
        readTree(DOCUMENT);
        readTree(SCHEMA);
        if (!document.has(i) || document.kind[i] != OBJECT || schema.size == 0) {
            throw new NoSuchElementException();
        }
        plan.refresh();
        if (plan.circular) {
            throw new UnsupportedOperationException();
        }
        proposals.lookFor(i);
        return proposals.count;
    }

    public int proposal(int k, int j) throws NoSuchElementException {
        if (k < 0 || k >= proposals.count || j < 0) {
            throw new NoSuchElementException();
        }
        return proposals.characterOf(k, j);
    }

    private static boolean isText(int t) {
        return t == SCHEMA || t == DOCUMENT;
    }

    private static boolean isCharacter(char c) {
        return c >= LOWEST_CODE && c <= HIGHEST_CODE;
    }

    private Text textOf(int t) {
        return t == SCHEMA ? schema.text : document.text;
    }

    private Tree readTree(int t) {
        Reader reader = t == SCHEMA ? schemaReader : documentReader;
        reader.refresh();
        return reader.tree;
    }

    /** Texts are read only when something is asked of them: most calls are edits. */
    private void edited(int t) {
        if (t == SCHEMA) {
            schemaReader.fresh = false;
            plan.fresh = false;
        } else {
            documentReader.fresh = false;
        }
        verdicts.fresh = false;
    }

    /** The words of promise 3 by their numbers, and behind them false and true. */
    private static final class WordBook {
        private final char[] letters;
        private final int[] starts;

        WordBook() {
            letters = SPELLED.toCharArray();
            starts = new int[WORDS + 2];
            int w = 1;
            for (int at = 0; at < letters.length; at++) {
                if (letters[at] == ' ' && w <= WORDS) {
                    w++;
                    starts[w] = at + 1;
                }
            }
        }

        int sizeOf(int w) {
            return starts[w + 1] - 1 - starts[w];
        }

        char characterOf(int w, int k) {
            return letters[starts[w] + k];
        }

        /** Whether the characters of a text from one place up to another are the word w. */
        boolean isWord(int w, Text text, int from, int to) {
            int start = starts[w];
            if (to - from != starts[w + 1] - 1 - start) {
                return false;
            }
            for (int k = 0; k < to - from; k++) {
                if (text.letters[from + k] != letters[start + k]) {
                    return false;
                }
            }
            return true;
        }
    }

    /** One of the two texts: its characters. */
    private static final class Text {
        final char[] letters;
        int size;

        Text(int limit) {
            letters = new char[limit];
        }

        int room() {
            return letters.length - size;
        }

        void put(int at, char c) {
            System.arraycopy(letters, at, letters, at + 1, size - at);
            letters[at] = c;
            size++;
        }

        void take(int at, int n) {
            System.arraycopy(letters, at + n, letters, at, size - at - n);
            size -= n;
        }

        /** The place of the next " from a place on, or the text's end. */
        int quotedEnd(int from) {
            int end = from;
            while (end < size && letters[end] != QUOTE) {
                end++;
            }
            return end;
        }

        /** Whether the characters up to the next " are the same, here and in another text. */
        boolean sameQuoted(int from, Text other, int otherFrom) {
            for (int k = 0; k <= size; k++) {
                boolean ended = from + k >= size || letters[from + k] == QUOTE;
                boolean otherEnded = otherFrom + k >= other.size
                        || other.letters[otherFrom + k] == QUOTE;
                if (ended || otherEnded) {
                    return ended && otherEnded;
                }
                if (letters[from + k] != other.letters[otherFrom + k]) {
                    return false;
                }
            }
            return false;
        }

        /** Whether the characters here up to the next " come before those there. */
        boolean comesBefore(int from, int otherFrom) {
            for (int k = 0; k <= size; k++) {
                if (otherFrom + k >= size || letters[otherFrom + k] == QUOTE) {
                    return false;
                }
                if (from + k >= size || letters[from + k] == QUOTE) {
                    return true;
                }
                if (letters[from + k] != letters[otherFrom + k]) {
                    return letters[from + k] < letters[otherFrom + k];
                }
            }
            return false;
        }
    }

    /**
     * The nodes and faults of a text. The rows have an element for each place of the text, as no
     * two nodes begin at one place; all that is inside a node has the numbers behind its own.
     */
    private static final class Tree {
        final Text text;
        final int[] kind;
        final int[] from;
        final int[] to;
        final int[] parent;
        final int[] children;
        final int[] name;
        final int[] number;
        /** The first number behind a node and all inside it: that of the next child, if there. */
        final int[] behind;
        int size;
        final int[] faultRow;
        int faultCount;

        Tree(Text text) {
            int limit = text.letters.length;
            this.text = text;
            kind = new int[limit];
            from = new int[limit];
            to = new int[limit];
            parent = new int[limit];
            children = new int[limit];
            name = new int[limit];
            number = new int[limit];
            behind = new int[limit];
            // On an average a character brings two faults at most, and the end of the text a few.
            faultRow = new int[3 * limit];
        }

        void clear() {
            size = 0;
            faultCount = 0;
        }

        boolean has(int k) {
            return k >= 0 && k < size;
        }

        int open(int itsKind, int itsFrom, int itsParent, int itsName) {
            int k = size;
            size++;
            kind[k] = itsKind;
            from[k] = itsFrom;
            parent[k] = itsParent;
            children[k] = 0;
            name[k] = itsName;
            number[k] = 0;
            if (itsParent != NONE) {
                children[itsParent]++;
            }
            return k;
        }

        void close(int k, int itsTo) {
            to[k] = itsTo;
            behind[k] = size;
        }

        void blame(int fault, int place) {
            if (faultCount < faultRow.length) {
                faultRow[faultCount] = fault + 16 * place;
                faultCount++;
            }
        }

        /** The first child of the name that begins at a place of a text (behind its "). */
        int childNamed(int k, Text other, int otherFrom) {
            if (kind[k] != OBJECT) {
                return NONE;
            }
            for (int n = 0, c = k + 1; n < children[k]; n++, c = behind[c]) {
                if (text.sameQuoted(name[c] + 1, other, otherFrom)) {
                    return c;
                }
            }
            return NONE;
        }

        int charactersOf(int string) {
            int first = from[string] + 1;
            return text.quotedEnd(first) - first;
        }
    }

    /** Reads a text from left to right into its tree. */
    private static final class Reader {
        final Tree tree;
        boolean fresh;
        private final Text text;
        private final WordBook words;
        private int at;

        Reader(Tree tree, WordBook words) {
            this.tree = tree;
            this.text = tree.text;
            this.words = words;
        }

        void refresh() {
            if (fresh) {
                return;
            }
            fresh = true;
            tree.clear();
            at = 0;
            passBlanks();
            for (int round = 0; round < text.size && at < text.size && !valueBegins(0); round++) {
                passWrong(0);
                passBlanks();
            }
            if (at >= text.size) {
                tree.blame(NOTHING_THERE, at);
                return;
            }
            readValue(NONE, NONE, 0);
            passBlanks();
            if (at < text.size) {
                tree.blame(SOMETHING_BEHIND, at);
            }
        }

        private void passBlanks() {
            while (at < text.size && text.letters[at] == ' ') {
                at++;
            }
        }

        /** Around counts the { and [ that are open here. */
        private boolean valueBegins(int around) {
            if (at >= text.size) {
                return false;
            }
            char c = text.letters[at];
            if (opens(c)) {
                return around < DEEPEST;
            }
            return c == QUOTE || c == '-' || isDigit(c) || isLowerLetter(c);
        }

        private void passWrong(int around) {
            boolean tooDeep = around >= DEEPEST && opens(text.letters[at]);
            tree.blame(tooDeep ? TOO_DEEP : WRONG_CHARACTER, at);
            at++;
        }

        private void readValue(int parent, int name, int around) {
            char c = text.letters[at];
            int k = tree.open(kindBegunBy(c), at, parent, name);
            if (opens(c)) {
                at++;
                readInside(k, around + 1);
            } else if (c == QUOTE) {
                passQuoted();
            } else if (isLowerLetter(c)) {
                readLetters(k);
            } else {
                readNumber(k);
            }
            tree.close(k, at);
        }

        private static int kindBegunBy(char c) {
            if (c == '{') {
                return OBJECT;
            }
            if (c == '[') {
                return ARRAY;
            }
            if (c == QUOTE) {
                return STRING;
            }
            return isLowerLetter(c) ? NULL : NUMBER;
        }

        private void readInside(int k, int around) {
            boolean isObject = tree.kind[k] == OBJECT;
            char closer = isObject ? '}' : ']';
            boolean commaPassed = false;
            boolean readSince = false;
            // Each round but the last passes a character at least.
            for (int round = 0; round <= text.size; round++) {
                passBlanks();
                if (at >= text.size) {
                    tree.blame(NOT_ENDED, tree.from[k]);
                    return;
                }
                char c = text.letters[at];
                if (c == closer) {
                    if (commaPassed && !readSince) {
                        tree.blame(COMMA_BEFORE_END, at);
                    }
                    at++;
                    return;
                }
                if (c == ',') {
                    if (!readSince) {
                        tree.blame(COMMA_TOO_MANY, at);
                    }
                    at++;
                    commaPassed = true;
                    readSince = false;
                } else if (isObject ? c == QUOTE : valueBegins(around)) {
                    if (readSince) {
                        tree.blame(COMMA_MISSING, at);
                    }
                    if (isObject) {
                        readMember(k, around);
                    } else {
                        readValue(k, NONE, around);
                    }
                    readSince = true;
                } else {
                    passWrong(around);
                }
            }
        }

        private void readMember(int k, int around) {
            int name = at;
            passQuoted();
            if (tree.childNamed(k, text, name + 1) != NONE) {
                tree.blame(NAME_AGAIN, name);
            }
            passBlanks();
            if (at < text.size && text.letters[at] == ':') {
                at++;
            } else {
                tree.blame(COLON_MISSING, at);
            }
            passBlanks();
            if (valueBegins(around)) {
                readValue(k, name, around);
            } else {
                tree.blame(VALUE_MISSING, at);
            }
        }

        private void passQuoted() {
            int end = text.quotedEnd(at + 1);
            if (end < text.size) {
                at = end + 1;
            } else {
                tree.blame(NOT_ENDED, at);
                at = end;
            }
        }

        private void readNumber(int k) {
            int from = at;
            boolean negative = text.letters[at] == '-';
            if (negative) {
                at++;
            }
            int digits = 0;
            int value = 0;
            while (at < text.size && isDigit(text.letters[at])) {
                if (digits < MOST_DIGITS) {
                    value = 10 * value + (text.letters[at] - '0');
                }
                digits++;
                at++;
            }
            if (digits == 0) {
                tree.blame(NO_DIGITS, from);
            } else if (digits > MOST_DIGITS) {
                tree.blame(TOO_MANY_DIGITS, from);
            }
            tree.number[k] = negative ? -value : value;
        }

        private void readLetters(int k) {
            int from = at;
            while (at < text.size && isLowerLetter(text.letters[at])) {
                at++;
            }
            if (words.isWord(WORD_FALSE, text, from, at)) {
                tree.kind[k] = FALSE;
            } else if (words.isWord(WORD_TRUE, text, from, at)) {
                tree.kind[k] = TRUE;
            } else if (!words.isWord(WORD_NULL, text, from, at)) {
                tree.blame(UNKNOWN_LETTERS, from);
            }
        }

        private static boolean opens(char c) {
            return c == '{' || c == '[';
        }

        private static boolean isDigit(char c) {
            return c >= '0' && c <= '9';
        }

        private static boolean isLowerLetter(char c) {
            return c >= 'a' && c <= 'z';
        }
    }

    /** What the schema's own nodes say: by which words they speak, and in which order to ask. */
    private static final class Plan {
        final Tree schema;
        boolean fresh;
        /** By node: the word by which it speaks in its parent, 0 if by none. */
        final int[] word = new int[SCHEMA_LIMIT];
        /** By node that speaks by ref: the target. */
        final int[] target = new int[SCHEMA_LIMIT];
        /** By node: its properties, if they are an OBJECT. */
        final int[] properties = new int[SCHEMA_LIMIT];
        /** The OBJECTS, each behind all to which it leads for the same node of the document. */
        final int[] order = new int[SCHEMA_LIMIT];
        int ordered;
        boolean circular;
        final WordBook words;
        private final boolean[] placed = new boolean[SCHEMA_LIMIT];

        Plan(Tree schema, WordBook words) {
            this.schema = schema;
            this.words = words;
        }

        void refresh() {
            if (fresh) {
                return;
            }
            fresh = true;
            for (int k = 0; k < schema.size; k++) {
                word[k] = wordOf(k);
            }
            for (int k = 0; k < schema.size; k++) {
                target[k] = targetOf(k);
                int v = childBy(k, PROPERTIES);
                properties[k] = v != NONE && schema.kind[v] == OBJECT ? v : NONE;
            }
            arrange();
        }

        /** The child of s that speaks by a word. */
        int childBy(int s, int w) {
            for (int n = 0, v = s + 1; n < schema.children[s]; n++, v = schema.behind[v]) {
                if (word[v] == w) {
                    return v;
                }
            }
            return NONE;
        }

        /** Of children with the same name only the first one speaks. */
        private int wordOf(int k) {
            int name = schema.name[k];
            if (name == NONE || schema.childNamed(schema.parent[k], schema.text, name + 1) != k) {
                return 0;
            }
            int end = schema.text.quotedEnd(name + 1);
            for (int w = TYPE; w <= DEFS; w++) {
                if (words.isWord(w, schema.text, name + 1, end)) {
                    return w;
                }
            }
            return 0;
        }

        private int targetOf(int k) {
            if (word[k] != REF || schema.kind[k] != STRING) {
                return NONE;
            }
            Text text = schema.text;
            int hash = schema.from[k] + 1;
            if (hash >= text.size || text.letters[hash] != '#') {
                return NONE;
            }
            if (text.quotedEnd(hash + 1) == hash + 1) {
                return 0;
            }
            int defs = childBy(0, DEFS);
            return defs == NONE ? NONE : schema.childNamed(defs, text, hash + 1);
        }

        /** What can never be placed goes in a circle, or leads to what does. */
        private void arrange() {
            ordered = 0;
            int objects = 0;
            for (int s = 0; s < schema.size; s++) {
                boolean isObject = schema.kind[s] == OBJECT;
                placed[s] = !isObject;
                objects += isObject ? 1 : 0;
            }
            int before = NONE;
            for (int round = 0; round <= objects && ordered > before; round++) {
                before = ordered;
                placeAllReady();
            }
            circular = ordered < objects;
        }

        /** From the last to the first, as most leads to what is inside. */
        private void placeAllReady() {
            for (int s = schema.size - 1; s >= 0; s--) {
                if (!placed[s] && isReady(s)) {
                    placed[s] = true;
                    order[ordered] = s;
                    ordered++;
                }
            }
        }

        private boolean isReady(int s) {
            for (int n = 0, v = s + 1; n < schema.children[s]; n++, v = schema.behind[v]) {
                if (!leadsToPlaced(v)) {
                    return false;
                }
            }
            return true;
        }

        private boolean leadsToPlaced(int v) {
            switch (word[v]) {
                case ALLOF:
                case ANYOF:
                case ONEOF:
                    return schema.kind[v] != ARRAY || areAllPlaced(v);
                case NOT:
                    return placed[v];
                case REF:
                    return target[v] == NONE || placed[target[v]];
                default:
                    return true;
            }
        }

        private boolean areAllPlaced(int array) {
            for (int n = 0, a = array + 1; n < schema.children[array]; n++, a = schema.behind[a]) {
                if (!placed[a]) {
                    return false;
                }
            }
            return true;
        }
    }

    /** A mark, there or not, for each node of the schema with each of the document. */
    private static final class Marks {
        private final long[] bits = new long[2 * SCHEMA_LIMIT];

        void clear() {
            Arrays.fill(bits, 0L);
        }

        boolean has(int s, int i) {
            return (bits[2 * s + (i >> 6)] >>> (i & 63) & 1L) != 0L;
        }

        void put(int s, int i) {
            bits[2 * s + (i >> 6)] |= 1L << (i & 63);
        }
    }

    /** Which nodes of the schema hold for which of the document. */
    private static final class Verdicts {
        final Plan plan;
        final Tree schema;
        final Tree document;
        boolean fresh;
        private final Marks held = new Marks();
        /** s with a child of i: that s evaluates it by others than unevaluated. */
        private final Marks evaluated = new Marks();

        Verdicts(Plan plan, Tree document) {
            this.plan = plan;
            this.schema = plan.schema;
            this.document = document;
        }

        /**
         * All pairs are weighed, in an order in which what a pair depends on comes before it: so
         * nothing is weighed twice, however many ways lead to it, and there is no recursion.
         */
        void refresh() {
            if (fresh) {
                return;
            }
            fresh = true;
            held.clear();
            evaluated.clear();
            for (int i = document.size - 1; i >= 0; i--) {
                for (int k = 0; k < plan.ordered; k++) {
                    weigh(plan.order[k], i);
                }
            }
        }

        boolean isHeld(int s, int i) {
            return schema.kind[s] == OBJECT ? held.has(s, i) : schema.kind[s] != FALSE;
        }

        private void weigh(int s, int i) {
            if (document.kind[i] == OBJECT) {
                markEvaluated(s, i);
            }
            for (int n = 0, v = s + 1; n < schema.children[s]; n++, v = schema.behind[v]) {
                if (!isSo(s, v, i)) {
                    return;
                }
            }
            held.put(s, i);
        }

        private void markEvaluated(int s, int i) {
            for (int n = 0, v = s + 1; n < schema.children[s]; n++, v = schema.behind[v]) {
                for (int m = 0, c = i + 1; m < document.children[i]; m++, c = document.behind[c]) {
                    if (evaluatesBy(s, v, i, c)) {
                        evaluated.put(s, c);
                    }
                }
            }
        }

        private boolean evaluatesBy(int s, int v, int i, int c) {
            switch (plan.word[v]) {
                case PROPERTIES:
                case ADDITIONAL:
                    return nodeFor(s, v, i, c) != NONE;
                case ALLOF:
                case ANYOF:
                case ONEOF:
                    return schema.kind[v] == ARRAY && isEvaluatedInside(v, i, c);
                case REF:
                    return plan.target[v] != NONE && holdsAndEvaluates(plan.target[v], i, c);
                default:
                    return false;
            }
        }

        private boolean isEvaluatedInside(int array, int i, int c) {
            for (int n = 0, a = array + 1; n < schema.children[array]; n++, a = schema.behind[a]) {
                if (holdsAndEvaluates(a, i, c)) {
                    return true;
                }
            }
            return false;
        }

        private boolean holdsAndEvaluates(int s, int i, int c) {
            if (schema.kind[s] != OBJECT || !held.has(s, i)) {
                return false;
            }
            return evaluated.has(s, c) || plan.childBy(s, UNEVALUATED) != NONE;
        }

        /**
         * The node of the schema that has to hold for the child c of i, by the child v of s that
         * speaks of children; NONE if v doesn't speak of c.
         */
        int nodeFor(int s, int v, int i, int c) {
            int w = plan.word[v];
            if (document.kind[i] == ARRAY) {
                return w == ITEMS ? v : NONE;
            }
            if (document.kind[i] != OBJECT) {
                return NONE;
            }
            if (w == UNEVALUATED) {
                return evaluated.has(s, c) ? NONE : v;
            }
            if (w != PROPERTIES && w != ADDITIONAL) {
                return NONE;
            }
            int all = plan.properties[s];
            int own = all == NONE
                    ? NONE : schema.childNamed(all, document.text, document.name[c] + 1);
            if (w == PROPERTIES) {
                return own;
            }
            return own == NONE ? v : NONE;
        }

        /** Whether what the child v of s says of i is so. */
        boolean isSo(int s, int v, int i) {
            int kind = schema.kind[v];
            switch (plan.word[v]) {
                case TYPE:
                    return isTypeSo(v, i);
                case CONST:
                    return isSame(v, i, 0);
                case ENUM:
                    return kind != ARRAY || hasSame(v, i);
                case MIN:
                case MAX:
                case MULTIPLE:
                    return kind != NUMBER || document.kind[i] != NUMBER
                            || isNumberSo(plan.word[v], document.number[i], schema.number[v]);
                case MINLENGTH:
                case MAXLENGTH:
                    return kind != NUMBER || document.kind[i] != STRING
                            || isNumberSo(plan.word[v], document.charactersOf(i), schema.number[v]);
                case MINITEMS:
                case MAXITEMS:
                    return kind != NUMBER || document.kind[i] != ARRAY
                            || isNumberSo(plan.word[v], document.children[i], schema.number[v]);
                case REQUIRED:
                    return kind != ARRAY || document.kind[i] != OBJECT || hasAllNames(v, i);
                case PROPERTIES:
                case ADDITIONAL:
                case ITEMS:
                case UNEVALUATED:
                    return holdForChildren(s, v, i);
                case ALLOF:
                    return kind != ARRAY || countHeld(v, i) == schema.children[v];
                case ANYOF:
                    return kind != ARRAY || countHeld(v, i) > 0;
                case ONEOF:
                    return kind != ARRAY || countHeld(v, i) == 1;
                case NOT:
                    return !isHeld(v, i);
                case REF:
                    return kind != STRING
                            || plan.target[v] != NONE && isHeld(plan.target[v], i);
                default:
                    return true;
            }
        }

        private boolean isTypeSo(int v, int i) {
            if (schema.kind[v] == STRING) {
                return saysKindOf(v, i);
            }
            if (schema.kind[v] != ARRAY) {
                return true;
            }
            for (int n = 0, a = v + 1; n < schema.children[v]; n++, a = schema.behind[a]) {
                if (schema.kind[a] == STRING && saysKindOf(a, i)) {
                    return true;
                }
            }
            return false;
        }

        private boolean saysKindOf(int string, int i) {
            int first = schema.from[string] + 1;
            int end = schema.text.quotedEnd(first);
            return plan.words.isWord(WORD_OF_KIND[document.kind[i]], schema.text, first, end);
        }

        private static boolean isNumberSo(int w, int has, int said) {
            switch (w) {
                case MIN:
                case MINLENGTH:
                case MINITEMS:
                    return has >= said;
                case MULTIPLE:
                    return said <= 0 || has % said == 0;
                default:
                    return has <= said;
            }
        }

        /** Whether node v of the schema equals node i of the document. */
        private boolean isSame(int v, int i, int depth) {
            int kind = schema.kind[v];
            if (kind != document.kind[i] || depth > DEEPEST) {
                return false;
            }
            if (kind == NUMBER) {
                return schema.number[v] == document.number[i];
            }
            if (kind == STRING) {
                return schema.text.sameQuoted(schema.from[v] + 1, document.text,
                        document.from[i] + 1);
            }
            if (schema.children[v] != document.children[i]) {
                return false;
            }
            int next = i + 1;
            for (int n = 0, x = v + 1; n < schema.children[v]; n++, x = schema.behind[x]) {
                int y = next;
                if (kind == OBJECT) {
                    y = document.childNamed(i, schema.text, schema.name[x] + 1);
                }
                if (y == NONE || !isSame(x, y, depth + 1)) {
                    return false;
                }
                next = document.behind[next];
            }
            return true;
        }

        private boolean hasSame(int array, int i) {
            for (int n = 0, a = array + 1; n < schema.children[array]; n++, a = schema.behind[a]) {
                if (isSame(a, i, 0)) {
                    return true;
                }
            }
            return false;
        }

        private boolean hasAllNames(int array, int i) {
            for (int n = 0, a = array + 1; n < schema.children[array]; n++, a = schema.behind[a]) {
                if (schema.kind[a] == STRING
                        && document.childNamed(i, schema.text, schema.from[a] + 1) == NONE) {
                    return false;
                }
            }
            return true;
        }

        private boolean holdForChildren(int s, int v, int i) {
            for (int m = 0, c = i + 1; m < document.children[i]; m++, c = document.behind[c]) {
                int asked = nodeFor(s, v, i, c);
                if (asked != NONE && !isHeld(asked, c)) {
                    return false;
                }
            }
            return true;
        }

        private int countHeld(int array, int i) {
            int count = 0;
            for (int n = 0, a = array + 1; n < schema.children[array]; n++, a = schema.behind[a]) {
                count += isHeld(a, i) ? 1 : 0;
            }
            return count;
        }
    }

    /** The diagnostics of the latest judging. */
    private static final class Report {
        int count;
        /** Each diagnostic in one element: document node, schema node and code, a byte each. */
        private int[] rows = new int[64];
        private final Verdicts verdicts;
        private final Plan plan;
        private final Tree schema;
        private final Tree document;
        private final Marks reported = new Marks();
        private final Marks wrong = new Marks();

        Report(Verdicts verdicts) {
            this.verdicts = verdicts;
            this.plan = verdicts.plan;
            this.schema = verdicts.schema;
            this.document = verdicts.document;
        }

        int codeOf(int k) {
            return rows[k] & 255;
        }

        int documentNodeOf(int k) {
            return rows[k] >> 16;
        }

        int schemaNodeOf(int k) {
            return rows[k] >> 8 & 255;
        }

        /** Pairs are gone through in an order in which each comes before those it reports. */
        void write() {
            reported.clear();
            wrong.clear();
            report(0, 0);
            for (int i = 0; i < document.size; i++) {
                for (int k = plan.ordered - 1; k >= 0; k--) {
                    if (reported.has(plan.order[k], i)) {
                        explain(plan.order[k], i);
                    }
                }
            }
            collect();
        }

        /** What holds is not reported. */
        private void report(int s, int i) {
            if (!verdicts.isHeld(s, i)) {
                reported.put(s, i);
            }
        }

        private void explain(int s, int i) {
            for (int n = 0, v = s + 1; n < schema.children[s]; n++, v = schema.behind[v]) {
                if (!verdicts.isSo(s, v, i)) {
                    explainChild(s, v, i);
                }
            }
        }

        private void explainChild(int s, int v, int i) {
            switch (plan.word[v]) {
                case PROPERTIES:
                case ADDITIONAL:
                case ITEMS:
                case UNEVALUATED:
                    reportForChildren(s, v, i);
                    break;
                case ALLOF:
                    reportInside(v, i);
                    break;
                case REF:
                    if (plan.target[v] != NONE) {
                        report(plan.target[v], i);
                    } else {
                        wrong.put(v, i);
                    }
                    break;
                default:
                    wrong.put(v, i);
                    break;
            }
        }

        private void reportForChildren(int s, int v, int i) {
            for (int m = 0, c = i + 1; m < document.children[i]; m++, c = document.behind[c]) {
                int asked = verdicts.nodeFor(s, v, i, c);
                if (asked != NONE) {
                    report(asked, c);
                }
            }
        }

        private void reportInside(int array, int i) {
            for (int n = 0, a = array + 1; n < schema.children[array]; n++, a = schema.behind[a]) {
                report(a, i);
            }
        }

        private void collect() {
            count = 0;
            for (int i = 0; i < document.size; i++) {
                for (int s = 0; s < schema.size; s++) {
                    if (schema.kind[s] == FALSE && reported.has(s, i)) {
                        add(0, i, s);
                    }
                    if (wrong.has(s, i)) {
                        add(plan.word[s], i, s);
                    }
                }
            }
        }

        private void add(int code, int i, int s) {
            if (count == rows.length) {
                rows = Arrays.copyOf(rows, 2 * count);
            }
            rows[count] = i << 16 | s << 8 | code;
            count++;
        }
    }

    /** The names of the latest proposing; their characters are kept, as the texts may change. */
    private static final class Proposals {
        int count;
        private final char[] letters = new char[SCHEMA_LIMIT];
        private final int[] starts = new int[SCHEMA_LIMIT + 1];
        private final int[] found = new int[SCHEMA_LIMIT];
        private int foundCount;
        private final Verdicts verdicts;
        private final Plan plan;
        private final Tree schema;
        private final Tree document;
        private final Marks reached = new Marks();

        Proposals(Verdicts verdicts) {
            this.verdicts = verdicts;
            this.plan = verdicts.plan;
            this.schema = verdicts.schema;
            this.document = verdicts.document;
        }

        int characterOf(int k, int j) {
            return j < starts[k + 1] - starts[k] ? letters[starts[k] + j] : NONE;
        }

        void lookFor(int i) {
            reachAll(i);
            foundCount = 0;
            for (int k = 0; k < plan.ordered; k++) {
                int s = plan.order[k];
                if (reached.has(s, i) && plan.properties[s] != NONE) {
                    findNames(plan.properties[s], i);
                }
            }
            keepFound();
        }

        /** Nothing behind node i of the document leads back to it. */
        private void reachAll(int last) {
            reached.clear();
            reached.put(0, 0);
            for (int i = 0; i <= last; i++) {
                for (int k = plan.ordered - 1; k >= 0; k--) {
                    if (reached.has(plan.order[k], i)) {
                        reachFrom(plan.order[k], i);
                    }
                }
            }
        }

        private void reachFrom(int s, int i) {
            for (int n = 0, v = s + 1; n < schema.children[s]; n++, v = schema.behind[v]) {
                switch (plan.word[v]) {
                    case PROPERTIES:
                    case ADDITIONAL:
                    case ITEMS:
                        reachForChildren(s, v, i);
                        break;
                    case ALLOF:
                    case ANYOF:
                    case ONEOF:
                        reachInside(v, i);
                        break;
                    case REF:
                        if (plan.target[v] != NONE) {
                            reached.put(plan.target[v], i);
                        }
                        break;
                    default:
                        break;
                }
            }
        }

        private void reachForChildren(int s, int v, int i) {
            for (int m = 0, c = i + 1; m < document.children[i]; m++, c = document.behind[c]) {
                int asked = verdicts.nodeFor(s, v, i, c);
                if (asked != NONE) {
                    reached.put(asked, c);
                }
            }
        }

        private void reachInside(int v, int i) {
            if (schema.kind[v] != ARRAY) {
                return;
            }
            for (int n = 0, a = v + 1; n < schema.children[v]; n++, a = schema.behind[a]) {
                reached.put(a, i);
            }
        }

        private void findNames(int properties, int i) {
            int most = schema.children[properties];
            for (int n = 0, p = properties + 1; n < most; n++, p = schema.behind[p]) {
                int from = schema.name[p] + 1;
                if (document.childNamed(i, schema.text, from) == NONE) {
                    addFound(from);
                }
            }
        }

        /** Keeps the places of the names found in order, each name once. */
        private void addFound(int from) {
            int at = 0;
            while (at < foundCount && schema.text.comesBefore(found[at], from)) {
                at++;
            }
            if (at < foundCount && schema.text.sameQuoted(found[at], schema.text, from)) {
                return;
            }
            for (int k = foundCount; k > at; k--) {
                found[k] = found[k - 1];
            }
            found[at] = from;
            foundCount++;
        }

        private void keepFound() {
            count = foundCount;
            for (int k = 0; k < count; k++) {
                int size = schema.text.quotedEnd(found[k]) - found[k];
                System.arraycopy(schema.text.letters, found[k], letters, starts[k], size);
                starts[k + 1] = starts[k] + size;
            }
        }
    }
}
