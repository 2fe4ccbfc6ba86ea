/**
 * Reads marked texts into trees, finds to which spaces their names belong, tells what is wrong and
 * where, and writes each tree in the one form that all texts with the same content have.
 *
 * <p>A tree is there exactly when it has elements, and a form when it has characters: no text
 * without an element can be read, so neither needs a mark of its own.
 */
public final class MarkupReader {
    private static final int MOST_TYPED = 240;
    private static final int MOST_ELEMENTS = 24;
    private static final int MOST_DEEP = 12;
    private static final int MOST_ATTRIBUTES = 6;
    /** No character typed becomes more than six in the form: a mark in a value, as &quot; there. */
    private static final int MOST_FORM = 6 * MOST_TYPED;

    private static final char LINE = 10;
    private static final int FIRST_PRINTED = 32;
    private static final int LAST_PRINTED = 126;
    /** What is found where a row has no character; it can't be typed, nor meant by a number. */
    private static final char END = 0;
    private static final int NOWHERE = -1;

    private static final int CANNOT_GO_ON = 1;
    private static final int OTHER_NAME = 2;
    private static final int NO_REFERENCE = 3;
    private static final int TOO_MANY = 4;
    private static final int NAME_TWICE = 5;
    private static final int WRONG_DECLARATION = 6;
    private static final int NOT_DECLARED = 7;
    private static final int TWICE_IN_SPACE = 8;

    private final Row typed = new Row(MOST_TYPED);
    private final Row kept = new Row(MOST_FORM);
    private final Tree tree = new Tree();
    private final FormWriter writer = new FormWriter(tree);
    private final Reading reading = new Reading(tree, writer);

    public MarkupReader() {
    }

    public int type(char c) throws IllegalArgumentException, IllegalStateException {
        if (!isCharacter(c)) {
            throw new IllegalArgumentException("not a character");
        }
        if (typed.size >= MOST_TYPED) {
            throw new IllegalStateException("no more can be typed");
        }
        typed.put(c);
        return typed.size;
    }

    public void wipe() {
        typed.size = 0;
    }

    public int read() throws IllegalArgumentException {
        reading.readText(typed);
        return tree.size;
    }

    public int reason() {
        return reading.wrongReason;
    }

    public int place() {
        return reading.wrongPlace;
    }

    public int element(int e, int which) throws IndexOutOfBoundsException, IllegalArgumentException {
        Element found = tree.find(e);
        if (found == null) {
            throw new IndexOutOfBoundsException("no such element");
        }
        switch (which) {
            case 0:
                return found.around == null ? -1 : found.around.number;
            case 1:
                return found.elementsInside;
            case 2:
                return found.attributeCount - found.declarationCount;
            case 3:
                return found.ownCharacters;
            case 4:
                return found.name.hasSpace() ? found.name.space.valueLength() : -1;
            default:
                throw new IllegalArgumentException("which is not 0 .. 4");
        }
    }

    public char name(int e, int i) throws IndexOutOfBoundsException {
        Element found = tree.find(e);
        if (found == null || i < 0 || i >= found.name.end - found.name.start) {
            throw new IndexOutOfBoundsException("no such character of a name");
        }
        return tree.text.at(found.name.start + i);
    }

    public char content(int e, int i) throws IndexOutOfBoundsException {
        Element found = tree.find(e);
        int at = found == null ? NOWHERE : tree.ownContentAt(found, i);
        if (at == NOWHERE) {
            throw new IndexOutOfBoundsException("no such character of content");
        }
        return tree.content.at(at);
    }

    public char space(int e, int i) throws IndexOutOfBoundsException {
        Element found = tree.find(e);
        if (found == null || i < 0 || i >= found.name.space.valueLength()) {
            throw new IndexOutOfBoundsException("no such character of a space");
        }
        return tree.values.at(found.name.space.valueStart + i);
    }

    public int form() {
        return writer.form.size;
    }

    public char formAt(int i) throws IndexOutOfBoundsException {
        if (i < 0 || i >= writer.form.size) {
            throw new IndexOutOfBoundsException("no such character of the form");
        }
        return writer.form.at(i);
    }

    public int retype() throws IllegalStateException {
        if (tree.size == 0 || writer.form.size > MOST_TYPED) {
            throw new IllegalStateException("no form that can be typed");
        }
        typed.copyOf(writer.form);
        return typed.size;
    }

    public void keep() throws IllegalStateException {
        if (tree.size == 0) {
            throw new IllegalStateException("no form to keep");
        }
        kept.copyOf(writer.form);
    }

    public boolean same() {
        return tree.size > 0 && kept.holdsSameAs(writer.form);
    }

    private static boolean isCharacter(int c) {
        return c == LINE || c >= FIRST_PRINTED && c <= LAST_PRINTED;
    }

    private static boolean isBlank(char c) {
        return c == ' ' || c == LINE;
    }

    private static boolean beginsPart(char c) {
        return c >= 'a' && c <= 'z' || c >= 'A' && c <= 'Z' || c == '_';
    }

    private static boolean goesOnPart(char c) {
        return beginsPart(c) || c >= '0' && c <= '9' || c == '-' || c == '.';
    }

    /** The number that a digit stands for to the base of 10 or 16, or -1 if it is none there. */
    private static int digit(char c, int base) {
        if (c >= '0' && c <= '9') {
            return c - '0';
        }
        if (base == 16 && c >= 'a' && c <= 'f') {
            return c - 'a' + 10;
        }
        if (base == 16 && c >= 'A' && c <= 'F') {
            return c - 'A' + 10;
        }
        return -1;
    }

    /** Characters in a row that is made once and used again; a stretch of it goes up to its end. */
    private static final class Row {
        final char[] chars;
        int size = 0;

        Row(int most) {
            chars = new char[most];
        }

        char at(int i) {
            return i >= 0 && i < size ? chars[i] : END;
        }

        void put(char c) {
            if (size < chars.length) {
                chars[size] = c;
                size++;
            }
        }

        void putText(String text) {
            for (int i = 0; i < text.length(); i++) {
                put(text.charAt(i));
            }
        }

        void copyOf(Row other) {
            size = 0;
            for (int i = 0; i < other.size; i++) {
                put(other.at(i));
            }
        }

        boolean holdsSameAs(Row other) {
            if (size != other.size) {
                return false;
            }
            for (int i = 0; i < size; i++) {
                if (at(i) != other.at(i)) {
                    return false;
                }
            }
            return true;
        }

        boolean stretchIs(int start, int end, String text) {
            if (end - start != text.length()) {
                return false;
            }
            for (int i = 0; i < text.length(); i++) {
                if (at(start + i) != text.charAt(i)) {
                    return false;
                }
            }
            return true;
        }

        /** Below 0 if the first stretch comes before the second, 0 if they are the same. */
        int order(int start, int end, int otherStart, int otherEnd) {
            int length = end - start;
            int otherLength = otherEnd - otherStart;
            for (int i = 0; i < length && i < otherLength; i++) {
                int difference = at(start + i) - at(otherStart + i);
                if (difference != 0) {
                    return difference;
                }
            }
            return length - otherLength;
        }
    }

    /** A name as a stretch of the tree's text: from its start, or from its local part, to its end. */
    private static final class Name {
        int start;
        int local;
        int end;
        /** The declaration whose value is the space that the name belongs to; empty for none. */
        Attribute space;

        boolean hasPrefix() {
            return local > start;
        }

        boolean hasSpace() {
            return space.valueLength() > 0;
        }

        /** No prefix is an empty one here, so that both are looked for in the same way. */
        int prefixEnd() {
            return hasPrefix() ? local - 1 : start;
        }
    }

    /** An attribute; its value is a stretch of the tree's values. */
    private static final class Attribute {
        final Name name = new Name();
        int valueStart;
        int valueEnd;
        boolean isDeclaration;

        int valueLength() {
            return valueEnd - valueStart;
        }

        /** The prefix that a declaration is of goes from here to the end of its name. */
        int declaredStart() {
            return name.hasPrefix() ? name.local : name.end;
        }
    }

    private static final class Element {
        final int number;
        final Name name = new Name();
        final Attribute[] attributes = new Attribute[MOST_ATTRIBUTES];
        Element around;
        boolean isEmpty;
        int depth;
        int elementsInside;
        int attributeCount;
        int declarationCount;
        int ownCharacters;

        Element(int number) {
            this.number = number;
            for (int i = 0; i < MOST_ATTRIBUTES; i++) {
                attributes[i] = new Attribute();
            }
        }

        void begin(Element outer) {
            around = outer;
            depth = outer == null ? 1 : outer.depth + 1;
            elementsInside = 0;
            attributeCount = 0;
            declarationCount = 0;
            ownCharacters = 0;
            if (outer != null) {
                outer.elementsInside++;
            }
        }
    }

    /** What was read. It has its own copy of the text, for what is typed may change behind it. */
    private static final class Tree {
        final Row text = new Row(MOST_TYPED);
        final Row values = new Row(MOST_TYPED);
        final Row content = new Row(MOST_TYPED);
        /** For each character of content, the number of the element whose own it is. */
        final int[] owners = new int[MOST_TYPED];
        final Element[] elements = new Element[MOST_ELEMENTS];
        /** Stands for the declaration where there is none; as a space, its empty value means none. */
        final Attribute noDeclaration = new Attribute();
        int size = 0;

        Tree() {
            for (int i = 0; i < MOST_ELEMENTS; i++) {
                elements[i] = new Element(i);
            }
        }

        void beginWith(Row newText) {
            text.copyOf(newText);
            values.size = 0;
            content.size = 0;
            size = 0;
        }

        Element find(int e) {
            return e >= 0 && e < size ? elements[e] : null;
        }

        /** The next element within the outer one, or null if there can be no such element. */
        Element add(Element outer) {
            if (size >= MOST_ELEMENTS || outer != null && outer.depth >= MOST_DEEP) {
                return null;
            }
            Element added = elements[size];
            size++;
            added.begin(outer);
            return added;
        }

        void addContent(Element owner, char c) {
            if (content.size < MOST_TYPED) {
                owners[content.size] = owner.number;
                content.put(c);
                owner.ownCharacters++;
            }
        }

        /** Where character i of the element's own content stands in all content. */
        int ownContentAt(Element owner, int i) {
            int passed = 0;
            for (int at = 0; at < content.size; at++) {
                if (owners[at] == owner.number) {
                    if (passed == i) {
                        return at;
                    }
                    passed++;
                }
            }
            return NOWHERE;
        }

        boolean isDeclaration(Name name) {
            int end = name.hasPrefix() ? name.prefixEnd() : name.end;
            return text.stretchIs(name.start, end, "xmlns");
        }

        /** The declaration of a prefix that holds for the element (for none: around all). */
        Attribute declarationFor(Element element, int prefixStart, int prefixEnd) {
            for (Element outer = element; outer != null; outer = outer.around) {
                for (int i = 0; i < outer.attributeCount; i++) {
                    Attribute found = outer.attributes[i];
                    if (found.isDeclaration && text.order(found.declaredStart(), found.name.end,
                            prefixStart, prefixEnd) == 0) {
                        return found;
                    }
                }
            }
            return noDeclaration;
        }

        boolean sameName(Name one, Name other) {
            return text.order(one.start, one.end, other.start, other.end) == 0;
        }

        boolean sameLocal(Name one, Name other) {
            return text.order(one.local, one.end, other.local, other.end) == 0;
        }

        boolean sameValue(Attribute one, Attribute other) {
            return values.order(one.valueStart, one.valueEnd,
                    other.valueStart, other.valueEnd) == 0;
        }
    }

    /** Finds the spaces of the names in one tag, and the first name there that breaks a rule. */
    private static final class SpaceFinder {
        private final Tree tree;

        SpaceFinder(Tree tree) {
            this.tree = tree;
        }

        void findSpaces(Element element) {
            Name own = element.name;
            own.space = tree.declarationFor(element, own.start, own.prefixEnd());
            for (int i = 0; i < element.attributeCount; i++) {
                Name name = element.attributes[i].name;
                // An attribute without a prefix belongs to no space, whatever is declared for none.
                name.space = name.hasPrefix()
                        ? tree.declarationFor(element, name.start, name.prefixEnd())
                        : tree.noDeclaration;
            }
        }

        int firstNameTwice(Element element) {
            for (int i = 0; i < element.attributeCount; i++) {
                Name name = element.attributes[i].name;
                for (int before = 0; before < i; before++) {
                    if (tree.sameName(element.attributes[before].name, name)) {
                        return name.start;
                    }
                }
            }
            return NOWHERE;
        }

        int firstWrongDeclaration(Element element) {
            for (int i = 0; i < element.attributeCount; i++) {
                Attribute attribute = element.attributes[i];
                if (attribute.isDeclaration && attribute.name.hasPrefix()
                        && (attribute.valueLength() == 0 || declaresFixed(attribute.name))) {
                    return attribute.name.start;
                }
            }
            return NOWHERE;
        }

        private boolean declaresFixed(Name name) {
            return tree.text.stretchIs(name.local, name.end, "xml")
                    || tree.text.stretchIs(name.local, name.end, "xmlns");
        }

        int firstNotDeclared(Element element) {
            if (element.name.hasPrefix() && !element.name.hasSpace()) {
                return element.name.start;
            }
            for (int i = 0; i < element.attributeCount; i++) {
                Attribute attribute = element.attributes[i];
                if (!attribute.isDeclaration && attribute.name.hasPrefix()
                        && !attribute.name.hasSpace()) {
                    return attribute.name.start;
                }
            }
            return NOWHERE;
        }

        int firstTwiceInSpace(Element element) {
            for (int i = 0; i < element.attributeCount; i++) {
                Name name = element.attributes[i].name;
                for (int before = 0; before < i; before++) {
                    if (meanTheSame(element.attributes[before].name, name)) {
                        return name.start;
                    }
                }
            }
            return NOWHERE;
        }

        private boolean meanTheSame(Name one, Name other) {
            return one.hasSpace() && tree.sameValue(one.space, other.space)
                    && tree.sameLocal(one, other);
        }
    }

    /** Writes the form while the text is read, for both go through the tree in the same order. */
    private static final class FormWriter {
        private final Tree tree;
        final Row form = new Row(MOST_FORM);
        private final Attribute[] sorted = new Attribute[MOST_ATTRIBUTES];
        private int sortedCount = 0;

        FormWriter(Tree tree) {
            this.tree = tree;
        }

        void beginElement(Element element) {
            sortedCount = 0;
            for (int i = 0; i < element.attributeCount; i++) {
                Attribute attribute = element.attributes[i];
                if (!attribute.isDeclaration || saysSomethingElse(element, attribute)) {
                    insertSorted(attribute);
                }
            }
            form.put('<');
            putName(element.name);
            for (int i = 0; i < sortedCount; i++) {
                putAttribute(sorted[i]);
            }
            form.put('>');
        }

        void endElement(Element element) {
            form.putText("</");
            putName(element.name);
            form.put('>');
        }

        void putContent(char c) {
            if (c == '&') {
                form.putText("&amp;");
            } else if (c == '<') {
                form.putText("&lt;");
            } else if (c == '>') {
                form.putText("&gt;");
            } else {
                form.put(c);
            }
        }

        private boolean saysSomethingElse(Element element, Attribute declaration) {
            Attribute holding = tree.declarationFor(element.around,
                    declaration.declaredStart(), declaration.name.end);
            return !tree.sameValue(holding, declaration);
        }

        private void insertSorted(Attribute attribute) {
            if (sortedCount >= MOST_ATTRIBUTES) {
                return;
            }
            int to = sortedCount;
            while (to > 0 && comesBefore(attribute, sorted[to - 1])) {
                sorted[to] = sorted[to - 1];
                to--;
            }
            sorted[to] = attribute;
            sortedCount++;
        }

        private boolean comesBefore(Attribute one, Attribute other) {
            if (one.isDeclaration != other.isDeclaration) {
                return one.isDeclaration;
            }
            if (one.isDeclaration) {
                return tree.text.order(one.declaredStart(), one.name.end,
                        other.declaredStart(), other.name.end) < 0;
            }
            Attribute space = one.name.space;
            Attribute otherSpace = other.name.space;
            int bySpace = tree.values.order(space.valueStart, space.valueEnd,
                    otherSpace.valueStart, otherSpace.valueEnd);
            if (bySpace != 0) {
                return bySpace < 0;
            }
            return tree.text.order(one.name.local, one.name.end,
                    other.name.local, other.name.end) < 0;
        }

        private void putName(Name name) {
            for (int i = name.start; i < name.end; i++) {
                form.put(tree.text.at(i));
            }
        }

        private void putAttribute(Attribute attribute) {
            form.put(' ');
            putName(attribute.name);
            form.putText("=\"");
            for (int i = attribute.valueStart; i < attribute.valueEnd; i++) {
                putInValue(tree.values.at(i));
            }
            form.put('"');
        }

        private void putInValue(char c) {
            if (c == '&') {
                form.putText("&amp;");
            } else if (c == '<') {
                form.putText("&lt;");
            } else if (c == '"') {
                form.putText("&quot;");
            } else if (c == LINE) {
                form.putText("&#xA;");
            } else {
                form.put(c);
            }
        }
    }

    /** Goes through a text once, from its first character on, up to its end or what is wrong. */
    private static final class Reading {
        private final Tree tree;
        private final FormWriter writer;
        private final SpaceFinder finder;
        private final Row text;
        private final Name endName = new Name();
        private int at = 0;
        /** The innermost element whose content is being read; null outside of all. */
        private Element open = null;
        int wrongReason = 0;
        int wrongPlace = NOWHERE;

        Reading(Tree tree, FormWriter writer) {
            this.tree = tree;
            this.writer = writer;
            finder = new SpaceFinder(tree);
            text = tree.text;
        }

        void readText(Row newText) {
            beginWith(newText);
            passBlanksAndComments();
            enter(readTag());
            for (int turn = 0; turn < text.size && open != null; turn++) {
                if (next(0) == '&') {
                    addContent(open, readReference());
                } else if (next(0) != '<') {
                    readPlain(open);
                } else if (next(1) == '/') {
                    readEndTag(open);
                } else if (next(1) != '!') {
                    enter(readTag());
                } else if (next(2) == '[') {
                    readSection(open);
                } else {
                    passComment();
                }
            }
            passBlanksAndComments();
            if (at < text.size) {
                // Here a < could still have begun a comment; what is behind it shows that it does not.
                fail(CANNOT_GO_ON, next(0) == '<' ? at + 1 : at);
            }
        }

        private void beginWith(Row newText) {
            tree.beginWith(newText);
            writer.form.size = 0;
            at = 0;
            open = null;
            wrongReason = 0;
            wrongPlace = NOWHERE;
        }

        private void fail(int why, int where) {
            tree.size = 0;
            writer.form.size = 0;
            wrongReason = why;
            wrongPlace = where;
            throw new IllegalArgumentException("the text is wrong");
        }

        private void failUnlessNowhere(int why, int where) {
            if (where != NOWHERE) {
                fail(why, where);
            }
        }

        private char next(int ahead) {
            int i = at + ahead;
            return i >= 0 && i < text.size ? text.chars[i] : END;
        }

        private void pass(char due) {
            if (next(0) != due) {
                fail(CANNOT_GO_ON, at);
            }
            at++;
        }

        private void passAll(String due) {
            for (int i = 0; i < due.length(); i++) {
                pass(due.charAt(i));
            }
        }

        private boolean passIfThere(String wanted) {
            for (int i = 0; i < wanted.length(); i++) {
                if (next(i) != wanted.charAt(i)) {
                    return false;
                }
            }
            at += wanted.length();
            return true;
        }

        private boolean passBlanks() {
            int start = at;
            while (at < text.size && isBlank(next(0))) {
                at++;
            }
            return at > start;
        }

        private void passBlanksAndComments() {
            passBlanks();
            for (int turn = 0; turn < text.size && next(0) == '<' && next(1) == '!'; turn++) {
                passComment();
                passBlanks();
            }
        }

        private void passComment() {
            passAll("<!--");
            while (at < text.size && !(next(0) == '-' && next(1) == '-')) {
                // A lone - at the very end is passed too: only the end itself is wrong there.
                at++;
            }
            passAll("-->");
        }

        private void passPart() {
            if (!beginsPart(next(0))) {
                fail(CANNOT_GO_ON, at);
            }
            while (at < text.size && goesOnPart(next(0))) {
                at++;
            }
        }

        private void readName(Name name) {
            name.start = at;
            name.local = at;
            name.space = tree.noDeclaration;
            passPart();
            if (next(0) == ':') {
                at++;
                name.local = at;
                passPart();
            }
            name.end = at;
        }

        private Element readTag() {
            int start = at;
            pass('<');
            if (!beginsPart(next(0))) {
                fail(CANNOT_GO_ON, at);
            }
            Element element = tree.add(open);
            if (element == null) {
                fail(TOO_MANY, start);
                return null;
            }
            readName(element.name);
            for (int turn = 0; turn < text.size && passBlanks() && beginsPart(next(0)); turn++) {
                if (element.attributeCount >= MOST_ATTRIBUTES) {
                    fail(TOO_MANY, start);
                }
                readAttribute(element);
            }
            element.isEmpty = passIfThere("/");
            pass('>');
            return element;
        }

        /** Settles what the names in the tag just read mean, before anything behind it is read. */
        private void enter(Element element) {
            if (element == null) {
                return;
            }
            failUnlessNowhere(NAME_TWICE, finder.firstNameTwice(element));
            failUnlessNowhere(WRONG_DECLARATION, finder.firstWrongDeclaration(element));
            finder.findSpaces(element);
            failUnlessNowhere(NOT_DECLARED, finder.firstNotDeclared(element));
            failUnlessNowhere(TWICE_IN_SPACE, finder.firstTwiceInSpace(element));
            writer.beginElement(element);
            if (element.isEmpty) {
                writer.endElement(element);
            } else {
                open = element;
            }
        }

        private void readAttribute(Element element) {
            Attribute attribute = element.attributes[element.attributeCount];
            readName(attribute.name);
            attribute.isDeclaration = tree.isDeclaration(attribute.name);
            passBlanks();
            pass('=');
            passBlanks();
            readValue(attribute);
            element.attributeCount++;
            if (attribute.isDeclaration) {
                element.declarationCount++;
            }
        }

        private void readValue(Attribute attribute) {
            char mark = next(0);
            if (mark != '"' && mark != '\'') {
                fail(CANNOT_GO_ON, at);
            }
            at++;
            attribute.valueStart = tree.values.size;
            for (int turn = 0; turn < text.size && next(0) != mark; turn++) {
                char c = next(0);
                if (c == '<' || c == END) {
                    fail(CANNOT_GO_ON, at);
                }
                if (c == '&') {
                    tree.values.put(readReference());
                } else {
                    tree.values.put(c == LINE ? ' ' : c);
                    at++;
                }
            }
            pass(mark);
            attribute.valueEnd = tree.values.size;
        }

        private char readReference() {
            int start = at;
            char meant = END;
            if (passIfThere("&lt;")) {
                meant = '<';
            } else if (passIfThere("&gt;")) {
                meant = '>';
            } else if (passIfThere("&amp;")) {
                meant = '&';
            } else if (passIfThere("&quot;")) {
                meant = '"';
            } else if (passIfThere("&apos;")) {
                meant = '\'';
            } else if (passIfThere("&#x")) {
                meant = readNumber(16);
            } else if (passIfThere("&#")) {
                meant = readNumber(10);
            }
            if (meant == END) {
                fail(NO_REFERENCE, start);
            }
            return meant;
        }

        /** The character whose number and ; stand here, or END if they do not. */
        private char readNumber(int base) {
            int number = 0;
            while (at < text.size && digit(next(0), base) >= 0) {
                // Held just above the last character: any number of digits may follow.
                number = Math.min(number * base + digit(next(0), base), LAST_PRINTED + 1);
                at++;
            }
            // Without digits the number is 0, which is no character's.
            if (next(0) != ';' || !isCharacter(number)) {
                return END;
            }
            at++;
            return (char) number;
        }

        private void readEndTag(Element element) {
            passAll("</");
            readName(endName);
            if (!tree.sameName(element.name, endName)) {
                fail(OTHER_NAME, endName.start);
            }
            passBlanks();
            pass('>');
            writer.endElement(element);
            open = element.around;
        }

        private void readSection(Element owner) {
            passAll("<![CDATA[");
            while (at < text.size && !(next(0) == ']' && next(1) == ']' && next(2) == '>')) {
                addContent(owner, next(0));
                at++;
            }
            passAll("]]>");
        }

        private void readPlain(Element owner) {
            char c = next(0);
            boolean endsSection = c == '>' && next(-1) == ']' && next(-2) == ']';
            if (c == END || endsSection) {
                fail(CANNOT_GO_ON, at);
            }
            addContent(owner, c);
            at++;
        }

        private void addContent(Element owner, char c) {
            tree.addContent(owner, c);
            writer.putContent(c);
        }
    }
}
