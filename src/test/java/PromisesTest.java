/** Promises 1 to 15, sentence by sentence: ordinary answers, first and last ones, and refused calls. */
public final class PromisesTest {
    private static final int FAR = Integer.MAX_VALUE;
    private static final int FAR_BELOW = Integer.MIN_VALUE;
    /** Numbers that a narrow or wrapped count would take for 0 or for small ones. */
    private static final int[] OUTSIDE_ALWAYS = {-1, -2, 240, 256, 1 << 16, 1 << 24, FAR, FAR_BELOW, FAR_BELOW + 1};

    /** Elements 0 a, 1 p:b, 2 c, 3 p:d, 4 e. */
    private static final String TREE = "<a xmlns='uv' k='1'>x<p:b xmlns:p='w' p:k='' l=''>y<c xmlns=''/>"
            + "<p:d>\n&#65;<!-- -->]</p:d></p:b>z<e/> <![CDATA[&]]></a>";
    private static final String FULL_TREE = "<r>" + "<b/>".repeat(22) + "<c>x</c></r>";

    public static void main(String[] args) {
        aNewObject();
        typeAnswersHowManyThereAre();
        typeRefusesWhatIsNoCharacter();
        typeRefusesThe241st();
        typeNamesTheArgumentFirst();
        wipeLeavesNothingTyped();
        readAnswersHowManyElements();
        readLeavesItTyped();
        readOfWrongLeavesNoTree();
        readAgainForgetsTheTreeBefore();
        reasonAndPlaceWhenNothingWasRead();
        reasonAndPlaceOfWhatWasReadLast();
        everyReasonIsTold();
        elementTellsTheElementAround();
        elementTellsElementsInside();
        elementTellsAttributesWithoutDeclarations();
        elementTellsItsOwnCharacters();
        elementTellsItsSpace();
        elementRefusesNoSuchElement();
        elementRefusesAnotherWhich();
        name();
        nameRefuses();
        content();
        contentRefuses();
        space();
        spaceRefuses();
        formTellsHowMany();
        formAt();
        formAtRefuses();
        retypeTypesTheFormInstead();
        retypeTakes240();
        retypeRefusesMoreThan240();
        retypeRefusesWithoutATree();
        keepKeepsTheForm();
        keepRefusesWithoutATree();
        sameTellsWhetherItIsKept();
        sameIsFalseWithoutTreeOrKept();
        Checks.end();
    }

    private static void due(String what, Object got, Object want) {
        Checks.due(what, got, want);
    }

    /** "Nothing typed, no tree; nothing is kept." */
    private static void aNewObject() {
        CountedReader reader = new CountedReader();
        Checks.dueNoTree("new", reader);
        due("new: reason and place", Checks.told(reader), "0 at -1");
        due("new: nothing is typed, so read", Checks.outcome(reader), "1 at 0");
        due("new: the first type", new CountedReader().type('a'), 1);
        due("new: nothing is kept", Checks.readOf("<a/>").same(), false);
        CountedReader other = Checks.readOf("<a/>");
        other.keep();
        due("new: nothing that another object kept", Checks.readOf("<a/>").same(), false);
        Checks.dueNoTree("new, behind another object's tree", new CountedReader());
    }

    /** "A character behind what is typed: how many there are." */
    private static void typeAnswersHowManyThereAre() {
        CountedReader reader = new CountedReader();
        for (int i = 1; i <= 240; i++) {
            due("type number " + i, reader.type(i <= 236 ? ' ' : "<a/>".charAt(i - 237)), i);
        }
        due("240 characters are read", reader.read(), 1);
        CountedReader order = new CountedReader();
        due("type <", order.type('<'), 1);
        due("type a", order.type('a'), 2);
        due("type ]", order.type(']'), 3);
        due("each is behind the one before", Checks.outcome(order), "1 at 2");
        for (char c : Texts.CHARACTERS.toCharArray()) {
            due("type " + (int) c, new CountedReader().type(c), 1);
            due("what was typed is " + (int) c, Checks.content(Checks.readOf("<a><![CDATA[" + c + "]]></a>"), 0), String.valueOf(c));
        }
    }

    /** "IllegalArgumentException: it is none" */
    private static void typeRefusesWhatIsNoCharacter() {
        for (int number : new int[] {0, 1, 9, 11, 13, 31, 127, 128, 160, 255, 256, 266, 288, 256 + 'a', 0xFF0A, 65535}) {
            char c = (char) number;
            CountedReader reader = Checks.typed("<a/>");
            Checks.dueArgument("type " + number, () -> reader.type(c));
            due("it is not typed", reader.type(' '), 5);
            due("what is typed is read", Checks.outcome(reader), "right");
        }
        for (int number : new int[] {10, 32, 33, 125, 126}) {
            due("type " + number, new CountedReader().type((char) number), 1);
        }
    }

    /** "IllegalStateException: there are 240." */
    private static void typeRefusesThe241st() {
        CountedReader reader = Checks.typed("<a>" + "x".repeat(232) + "</a>");
        due("type number 240", reader.type('\n'), 240);
        Checks.dueState("type number 241", () -> reader.type(' '));
        Checks.dueState("type number 241 again", () -> reader.type('\n'));
        due("240 stay typed", Checks.outcome(reader), "right");
        Checks.dueState("type when 240 have been read", () -> reader.type('x'));
        due("the tree stays", reader.element(0, 3), 232);
        reader.wipe();
        due("type behind wipe", reader.type('<'), 1);
    }

    /** Both are due: the one that the promise names first. */
    private static void typeNamesTheArgumentFirst() {
        CountedReader reader = Checks.typed(" ".repeat(240));
        for (int number : new int[] {0, 9, 31, 127, 65535}) {
            Checks.dueArgument("type " + number + " when there are 240", () -> reader.type((char) number));
        }
        due("240 stay typed", Checks.outcome(reader), "1 at 240");
    }

    /** "Nothing is typed." */
    private static void wipeLeavesNothingTyped() {
        CountedReader reader = new CountedReader();
        reader.wipe();
        due("wipe of nothing, then read", Checks.outcome(reader), "1 at 0");
        Checks.typeAll(reader, "<a/>");
        reader.wipe();
        reader.wipe();
        due("wipe, then read", Checks.outcome(reader), "1 at 0");
        due("wipe, then type", reader.type('<'), 1);

        CountedReader full = Checks.typed(" ".repeat(240));
        full.wipe();
        due("wipe of 240, then type", full.type(' '), 1);
        due("wipe of 240, then read", Checks.outcome(full), "1 at 1");

        CountedReader tree = Checks.readOf("<p:a xmlns:p='u'>x<b/></p:a>");
        tree.keep();
        String before = Checks.state(tree);
        tree.wipe();
        due("wipe: the tree, its form and what is kept stay", Checks.state(tree), before);
        CountedReader wrong = Checks.readOfWrong("<a>x");
        wrong.wipe();
        due("wipe: reason and place stay", Checks.told(wrong), "1 at 4");
    }

    /** "What is typed is read: how many elements the tree has ..." */
    private static void readAnswersHowManyElements() {
        due("read of 1", Checks.typed("<a/>").read(), 1);
        due("read of 2", Checks.typed("<a><b/></a>").read(), 2);
        due("read of 12 within one another", Checks.typed("<a>".repeat(11) + "<a/>" + "</a>".repeat(11)).read(), 12);
        due("read of 23", Checks.typed("<a>" + "<b/>".repeat(22) + "</a>").read(), 23);
        due("read of 24", Checks.typed("<a>" + "<b/>".repeat(23) + "</a>").read(), 24);
        due("read of 25", Checks.outcome("<a>" + "<b/>".repeat(24) + "</a>"), "4 at 95");
        due("read of what is only in comments and sections", Checks.typed("<!--<a/>--><a><![CDATA[<a/>]]></a>").read(), 1);
        Checks.dueArgument("read of nothing", () -> new CountedReader().read());
    }

    /** "... (it stays typed)." */
    private static void readLeavesItTyped() {
        CountedReader reader = Checks.typed("<a/>");
        due("read", reader.read(), 1);
        due("read again", reader.read(), 1);
        due("type behind what was read", reader.type('x'), 5);
        due("the tree while more is typed", Checks.facts(reader, 0), "-1 0 0 0 -1 a [] []");
        due("read of all that", Checks.outcome(reader), "1 at 4");
        due("wrong text stays typed too", reader.type('y'), 6);
        due("read of it again", Checks.outcome(reader), "1 at 4");
    }

    /** "IllegalArgumentException: it is wrong (then there is no tree)." */
    private static void readOfWrongLeavesNoTree() {
        String[] wrong = {"", "<a", "<a></b>", "<a>&</a>", "<a>".repeat(13), "<a b='' b=''/>", "<a xmlns:p=''/>", "<p:a/>",
            "<a xmlns:p='u' xmlns:q='u' p:b='' q:b=''/>", "<a><b/>x</a>x"};
        for (String text : wrong) {
            CountedReader reader = Checks.readOfWrong(text);
            Checks.dueNoTree("behind " + text, reader);
            CountedReader before = Checks.readOf(TREE);
            before.keep();
            Checks.retypeAs(before, text);
            Checks.dueArgument("read of " + text + " behind a right one", before::read);
            Checks.dueNoTree("behind a right text and " + text, before);
            due("a right text behind " + text, Checks.rereadAs(before, TREE), "right");
            due("what was kept before stays kept", before.same(), true);
        }
    }

    /** Nothing of the tree before is found in the next one. */
    private static void readAgainForgetsTheTreeBefore() {
        CountedReader reader = Checks.readOf(TREE);
        Checks.retypeAs(reader, "<q>1<b/></q>");
        due("before it is read", Checks.facts(reader, 1), "0 2 2 1 1 p:b [y] [w]");
        due("read", reader.read(), 2);
        due("element 0", Checks.facts(reader, 0), "-1 1 0 1 -1 q [1] []");
        due("element 1", Checks.facts(reader, 1), "0 0 0 0 -1 b [] []");
        Checks.dueOut("element 2", () -> reader.element(2, 0));
        due("the form", Checks.form(reader), "<q>1<b></b></q>");
        CountedReader full = Checks.readOf(FULL_TREE);
        Checks.rereadAs(full, "<a/>");
        Checks.dueOut("element 1 behind a full tree", () -> full.name(1, 0));
        due("a full tree again", Checks.rereadAs(full, FULL_TREE), "right");
        due("its last element", Checks.facts(full, 23), "0 0 0 1 -1 c [x] []");
    }

    /** "0 if it is not, or nothing was read." and "-1 if it is not, or nothing was read." */
    private static void reasonAndPlaceWhenNothingWasRead() {
        due("new", Checks.told(new CountedReader()), "0 at -1");
        due("typed, and wrong, but not read", Checks.told(Checks.typed("<a></b>")), "0 at -1");
        CountedReader refused = new CountedReader();
        Checks.dueArgument("type", () -> refused.type('\t'));
        Checks.dueState("retype", refused::retype);
        due("behind refused calls", Checks.told(refused), "0 at -1");
        due("right", Checks.told(Checks.readOf("<a/>")), "0 at -1");
    }

    /** "Why what was read last is wrong" and "At which place (from 0) it is wrong" */
    private static void reasonAndPlaceOfWhatWasReadLast() {
        CountedReader reader = Checks.readOfWrong("<a></b>");
        due("wrong", Checks.told(reader), "2 at 5");
        due("told again", Checks.told(reader), "2 at 5");
        reader.type('x');
        due("more is typed", Checks.told(reader), "2 at 5");
        Checks.retypeAs(reader, "<a/>");
        due("other text is typed", Checks.told(reader), "2 at 5");
        reader.read();
        due("right text is read", Checks.told(reader), "0 at -1");
        reader.type('&');
        due("wrong text is typed", Checks.told(reader), "0 at -1");
        due("wrong text is read", Checks.outcome(reader), "1 at 4");
        due("another wrong text is read", Checks.rereadAs(reader, "<p:a/>"), "7 at 1");
        due("nothing is read", Checks.rereadAs(reader, ""), "1 at 0");
        due("the first place", Checks.outcome("x"), "1 at 0");
        due("the last place", Checks.outcome(" ".repeat(240)), "1 at 240");
        CountedReader retyped = Checks.readOf("<a/>");
        retyped.retype();
        due("behind retype", Checks.told(retyped), "0 at -1");
    }

    private static void everyReasonIsTold() {
        String[] texts = {"<a>", "<a></b>", "<a>&", "<a>".repeat(13), "<a b='' b=''/>", "<a xmlns:p=''/>", "<p:a/>",
            "<a xmlns:p='u' xmlns:q='u' p:b='' q:b=''/>"};
        int[] places = {3, 5, 3, 36, 8, 3, 1, 34};
        for (int i = 0; i < texts.length; i++) {
            CountedReader reader = Checks.readOfWrong(texts[i]);
            due("reason of " + texts[i], reader.reason(), i + 1);
            due("place in " + texts[i], reader.place(), places[i]);
        }
    }

    /** "Of element e, in the order in which they begin, from 0: 0 the element around it (-1 for none) ..." */
    private static void elementTellsTheElementAround() {
        CountedReader reader = Checks.readOf(TREE);
        int[] around = {-1, 0, 1, 1, 0};
        for (int e = 0; e < around.length; e++) {
            due("around element " + e, reader.element(e, 0), around[e]);
        }
        CountedReader deep = Checks.readOf("<a>".repeat(11) + "<a/>" + "</a>".repeat(11));
        for (int e = 0; e < 12; e++) {
            due("around deep element " + e, deep.element(e, 0), e - 1);
        }
        due("around the 24th", Checks.readOf(FULL_TREE).element(23, 0), 0);
    }

    /** "... 1 how many elements are in it (and not within those) ..." */
    private static void elementTellsElementsInside() {
        CountedReader reader = Checks.readOf(TREE);
        int[] inside = {2, 2, 0, 0, 0};
        for (int e = 0; e < inside.length; e++) {
            due("elements in element " + e, reader.element(e, 1), inside[e]);
        }
        due("none", Checks.readOf("<a/>").element(0, 1), 0);
        due("23, the most", Checks.readOf(FULL_TREE).element(0, 1), 23);
        due("one, with others within", Checks.readOf("<a><b><c/><d/></b></a>").element(0, 1), 1);
    }

    /** "... 2 attributes without declarations ..." */
    private static void elementTellsAttributesWithoutDeclarations() {
        CountedReader reader = Checks.readOf(TREE);
        int[] attributes = {1, 2, 0, 0, 0};
        for (int e = 0; e < attributes.length; e++) {
            due("attributes of element " + e, reader.element(e, 2), attributes[e]);
        }
        due("6, the most", Checks.readOf("<a a='' b='' c='' d='' e='' f=''/>").element(0, 2), 6);
        due("6 declarations", Checks.readOf("<a xmlns='' xmlns:b='1' xmlns:c='1' xmlns:d='1' xmlns:e='1' xmlns:f='1'/>").element(0, 2), 0);
        due("4 and 2 declarations", Checks.readOf("<a b='' xmlns='u' c='' xmlns:p='v' p:b='' d=''/>").element(0, 2), 4);
    }

    /** "... 3 characters of content that are its own ..." */
    private static void elementTellsItsOwnCharacters() {
        CountedReader reader = Checks.readOf(TREE);
        int[] characters = {4, 1, 0, 3, 0};
        for (int e = 0; e < characters.length; e++) {
            due("characters of element " + e, reader.element(e, 3), characters[e]);
        }
        due("233, the most", Checks.readOf("<a>" + "x".repeat(233) + "</a>").element(0, 3), 233);
        due("only within others", Checks.readOf("<a><b>xyz</b></a>").element(0, 3), 0);
        due("references and sections", Checks.readOf("<a>&lt;&#65;<![CDATA[&lt;]]><!-- x --></a>").element(0, 3), 6);
    }

    /** "... 4 of its space (-1: it has none)." */
    private static void elementTellsItsSpace() {
        CountedReader reader = Checks.readOf(TREE);
        int[] spaces = {2, 1, -1, 1, 2};
        for (int e = 0; e < spaces.length; e++) {
            due("space of element " + e, reader.element(e, 4), spaces[e]);
        }
        due("nothing declared", Checks.readOf("<a/>").element(0, 4), -1);
        due("an empty value", Checks.readOf("<a xmlns=''/>").element(0, 4), -1);
        due("one character", Checks.readOf("<a xmlns='u'/>").element(0, 4), 1);
        due("one by a reference", Checks.readOf("<a xmlns='&#65;'/>").element(0, 4), 1);
        due("227, the most", Checks.readOf("<a xmlns='" + "u".repeat(227) + "'/>").element(0, 4), 227);
        due("only of another prefix", Checks.readOf("<a xmlns:p='u'/>").element(0, 4), -1);
    }

    /** "IndexOutOfBoundsException: there is no tree, or no such element" */
    private static void elementRefusesNoSuchElement() {
        CountedReader reader = Checks.readOf(TREE);
        for (int which = 0; which <= 4; which++) {
            int asked = which;
            Checks.dueOut("element 5, " + which, () -> reader.element(5, asked));
            Checks.dueOut("element -1, " + which, () -> reader.element(-1, asked));
            Checks.dueOut("no tree, " + which, () -> new CountedReader().element(0, asked));
        }
        for (int outside : OUTSIDE_ALWAYS) {
            Checks.dueOut("element " + outside, () -> reader.element(outside, 0));
            Checks.dueOut("element " + outside + ", and which is wrong too", () -> reader.element(outside, 5));
        }
        Checks.dueOut("no tree, and which is wrong too", () -> new CountedReader().element(0, -1));
        CountedReader full = Checks.readOf(FULL_TREE);
        due("element 23", full.element(23, 3), 1);
        Checks.dueOut("element 24", () -> full.element(24, 3));
        due("the tree stays", Checks.facts(reader, 1), "0 2 2 1 1 p:b [y] [w]");
    }

    /** "IllegalArgumentException: which is not 0 .. 4." */
    private static void elementRefusesAnotherWhich() {
        CountedReader reader = Checks.readOf(TREE);
        for (int e = 0; e < 5; e++) {
            int asked = e;
            Checks.dueArgument("which 5 of " + e, () -> reader.element(asked, 5));
            Checks.dueArgument("which -1 of " + e, () -> reader.element(asked, -1));
        }
        for (int outside : OUTSIDE_ALWAYS) {
            Checks.dueArgument("which " + outside, () -> reader.element(0, outside));
        }
        due("the tree stays", Checks.facts(reader, 0), "-1 2 1 4 2 a [xz &] [uv]");
    }

    /** "Character i of its name." */
    private static void name() {
        CountedReader reader = Checks.readOf(TREE);
        String[] names = {"a", "p:b", "c", "p:d", "e"};
        for (int e = 0; e < names.length; e++) {
            for (int i = 0; i < names[e].length(); i++) {
                due("name " + e + ", " + i, reader.name(e, i), names[e].charAt(i));
            }
        }
        String longest = "n".repeat(236) + "z";
        CountedReader full = Checks.readOf("<" + longest + "/>");
        due("the longest name's last", full.name(0, 236), 'z');
        Checks.dueOut("behind it", () -> full.name(0, 237));
        Checks.retypeAs(full, "<other/>");
        due("the name when other text is typed", full.name(0, 236), 'z');
    }

    /** "IndexOutOfBoundsException: there is no tree, no such element or character." */
    private static void nameRefuses() {
        CountedReader reader = Checks.readOf(TREE);
        Checks.dueOut("no tree", () -> new CountedReader().name(0, 0));
        Checks.dueOut("element 5", () -> reader.name(5, 0));
        Checks.dueOut("behind a", () -> reader.name(0, 1));
        Checks.dueOut("behind p:b", () -> reader.name(1, 3));
        for (int outside : OUTSIDE_ALWAYS) {
            Checks.dueOut("element " + outside, () -> reader.name(outside, 0));
            Checks.dueOut("character " + outside, () -> reader.name(1, outside));
            Checks.dueOut("both " + outside, () -> reader.name(outside, outside));
        }
        CountedReader full = Checks.readOf(FULL_TREE);
        due("name of element 23", full.name(23, 0), 'c');
        Checks.dueOut("name of element 24", () -> full.name(24, 0));
        due("the tree stays", Checks.name(reader, 1), "p:b");
    }

    /** "Character i of the content that is its own." */
    private static void content() {
        CountedReader reader = Checks.readOf(TREE);
        String[] contents = {"xz &", "y", "", "\nA]", ""};
        for (int e = 0; e < contents.length; e++) {
            for (int i = 0; i < contents[e].length(); i++) {
                due("content " + e + ", " + i, reader.content(e, i), contents[e].charAt(i));
            }
        }
        CountedReader full = Checks.readOf("<a>" + "x".repeat(232) + "z</a>");
        due("the longest content's last", full.content(0, 232), 'z');
        Checks.dueOut("behind it", () -> full.content(0, 233));
        CountedReader mixed = Checks.readOf("<a>1<b>2<c>3</c>4</b>5<b/>6</a>");
        due("content around others", Checks.content(mixed, 0), "156");
        due("content of the middle one", Checks.content(mixed, 1), "24");
        due("content of the inner one", Checks.content(mixed, 2), "3");
        due("content of the empty one", Checks.content(mixed, 3), "");
    }

    /** "IndexOutOfBoundsException: there is no tree, no such element or character." */
    private static void contentRefuses() {
        CountedReader reader = Checks.readOf(TREE);
        Checks.dueOut("no tree", () -> new CountedReader().content(0, 0));
        Checks.dueOut("element 5", () -> reader.content(5, 0));
        Checks.dueOut("behind the last", () -> reader.content(0, 4));
        Checks.dueOut("of an empty one", () -> reader.content(2, 0));
        for (int outside : OUTSIDE_ALWAYS) {
            Checks.dueOut("element " + outside, () -> reader.content(outside, 0));
            Checks.dueOut("character " + outside, () -> reader.content(0, outside));
            Checks.dueOut("both " + outside, () -> reader.content(outside, outside));
        }
        CountedReader full = Checks.readOf(FULL_TREE);
        due("content of element 23", full.content(23, 0), 'x');
        Checks.dueOut("content of element 24", () -> full.content(24, 0));
        due("the tree stays", Checks.content(reader, 0), "xz &");
    }

    /** "Character i of its space." */
    private static void space() {
        CountedReader reader = Checks.readOf(TREE);
        String[] spaces = {"uv", "w", "", "w", "uv"};
        for (int e = 0; e < spaces.length; e++) {
            for (int i = 0; i < spaces[e].length(); i++) {
                due("space " + e + ", " + i, reader.space(e, i), spaces[e].charAt(i));
            }
        }
        CountedReader full = Checks.readOf("<a xmlns='" + "u".repeat(226) + "z'/>");
        due("the longest space's last", full.space(0, 226), 'z');
        Checks.dueOut("behind it", () -> full.space(0, 227));
    }

    /** "IndexOutOfBoundsException: there is no tree, no such element, or it has no such character." */
    private static void spaceRefuses() {
        CountedReader reader = Checks.readOf(TREE);
        Checks.dueOut("no tree", () -> new CountedReader().space(0, 0));
        Checks.dueOut("element 5", () -> reader.space(5, 0));
        Checks.dueOut("behind the last", () -> reader.space(0, 2));
        Checks.dueOut("of an element that has none", () -> reader.space(2, 0));
        for (int outside : OUTSIDE_ALWAYS) {
            Checks.dueOut("element " + outside, () -> reader.space(outside, 0));
            Checks.dueOut("character " + outside, () -> reader.space(0, outside));
            Checks.dueOut("character " + outside + " of none", () -> reader.space(2, outside));
        }
        CountedReader full = Checks.readOf(FULL_TREE.replace("<c>", "<c xmlns='u'>"));
        due("space of element 23", full.space(23, 0), 'u');
        Checks.dueOut("space of element 24", () -> full.space(24, 0));
        Checks.dueOut("space of element 22", () -> full.space(22, 0));
        due("the tree stays", Checks.space(reader, 0), "uv");
    }

    /** "How many characters the tree's form has; 0 if there is no tree." */
    private static void formTellsHowMany() {
        due("form of the smallest", Checks.readOf("<a/>").form(), 7);
        due("form of the longest", Checks.readOf("<a b='" + "\"".repeat(231) + "'/>").form(), 231 * 6 + 12);
        due("form of a new object", new CountedReader().form(), 0);
        due("form when nothing is read", Checks.typed("<a/>").form(), 0);
        due("form behind wrong", Checks.readOfWrong("<a>").form(), 0);
        CountedReader reader = Checks.readOf("<a/>");
        Checks.retypeAs(reader, "<abc/>");
        due("form before it is read", reader.form(), 7);
        reader.read();
        due("form when it is read", reader.form(), 11);
    }

    /** "Character i of the form." */
    private static void formAt() {
        CountedReader reader = Checks.readOf("<a c='2' b=\"1\">></a>");
        String form = "<a b=\"1\" c=\"2\">&gt;</a>";
        for (int i = 0; i < form.length(); i++) {
            due("formAt " + i, reader.formAt(i), form.charAt(i));
        }
        String longest = "<a b=\"" + "&quot;".repeat(231) + "\"></a>";
        CountedReader full = Checks.readOf("<a b='" + "\"".repeat(231) + "'/>");
        for (int i = 0; i < longest.length(); i += 11) {
            due("formAt " + i + " of the longest", full.formAt(i), longest.charAt(i));
        }
        due("its last", full.formAt(1397), '>');
        Checks.dueOut("behind its last", () -> full.formAt(1398));
    }

    /** "IndexOutOfBoundsException: there is none." */
    private static void formAtRefuses() {
        CountedReader reader = Checks.readOf("<a>&gt;</a>");
        due("the first", reader.formAt(0), '<');
        due("the last", reader.formAt(10), '>');
        Checks.dueOut("behind the last", () -> reader.formAt(11));
        for (int outside : OUTSIDE_ALWAYS) {
            Checks.dueOut("formAt " + outside, () -> reader.formAt(outside));
            Checks.dueOut("no tree, formAt " + outside, () -> new CountedReader().formAt(outside));
        }
        Checks.dueOut("no tree, formAt 0", () -> new CountedReader().formAt(0));
        Checks.rereadAs(reader, "<a/>");
        due("the last of a shorter one", reader.formAt(6), '>');
        Checks.dueOut("behind it, where the form before was", () -> reader.formAt(7));
    }

    /** "The form is typed instead of what is (the tree stays): how many characters." */
    private static void retypeTypesTheFormInstead() {
        CountedReader reader = Checks.readOf("<a  b = 'x' /><!-- c -->");
        String before = Checks.state(reader);
        due("retype", reader.retype(), 13);
        due("the tree stays", Checks.state(reader), before);
        due("type behind it", reader.type('x'), 14);
        due("read of that", Checks.outcome(reader), "1 at 13");

        CountedReader wiped = Checks.readOf("<a>&#10;<b c='&#10;'/></a>");
        wiped.wipe();
        due("retype when nothing is typed", wiped.retype(), 25);
        due("read of it", wiped.read(), 2);
        due("its form", Checks.form(wiped), "<a>\n<b c=\"&#xA;\"></b></a>");

        CountedReader other = Checks.readOf("<a/>");
        Checks.retypeAs(other, "<b>" + "x".repeat(237));
        due("retype when 240 of another text are typed", other.retype(), 7);
        due("it can be typed behind", other.type(' '), 8);
        due("what is typed is the form", Checks.outcome(other), "right");
        due("of the tree that was there", Checks.name(other, 0), "a");
        due("retype again", other.retype(), 7);
    }

    /** "... or the form has more than 240": 240 are taken. */
    private static void retypeTakes240() {
        CountedReader full = Checks.readOf("<a>" + "x".repeat(233) + "</a>");
        due("retype of 240", full.retype(), 240);
        Checks.dueState("it is full", () -> full.type('x'));
        due("read of 240", Checks.outcome(full), "right");
        due("it has all", full.element(0, 3), 233);
        due("a form of 240 from a shorter text", Checks.readOf("<a>" + "x".repeat(229) + "></a>").retype(), 240);
        due("a form of 239", Checks.readOf("<a>" + "x".repeat(232) + "</a>").retype(), 239);
    }

    /** "IllegalStateException: ... the form has more than 240." */
    private static void retypeRefusesMoreThan240() {
        CountedReader reader = Checks.readOf("<a>" + "x".repeat(230) + "></a>");
        due("a form of 241", reader.form(), 241);
        Checks.dueState("retype of 241", reader::retype);
        due("what was typed stays", reader.type(' '), 239);
        due("the tree stays", reader.element(0, 3), 231);
        due("the form stays", reader.form(), 241);
        due("its last", reader.formAt(240), '>');
        due("reason and place stay", Checks.told(reader), "0 at -1");
        due("what was typed is read", Checks.outcome(reader), "right");
        Checks.dueState("retype of the longest", Checks.readOf("<a b='" + "\"".repeat(231) + "'/>")::retype);
        Checks.dueState("retype of an empty element's 241", Checks.readOf("<" + "n".repeat(118) + "/>")::retype);
        due("retype of an empty element's 239", Checks.readOf("<" + "n".repeat(117) + "/>").retype(), 239);
    }

    /** "IllegalStateException: there is no tree ..." */
    private static void retypeRefusesWithoutATree() {
        CountedReader reader = Checks.typed("<a/>");
        Checks.dueState("retype before it is read", reader::retype);
        due("what was typed stays", reader.type('x'), 5);
        due("read of that", Checks.outcome(reader), "1 at 4");
        Checks.dueState("retype behind wrong", reader::retype);
        due("reason and place stay", Checks.told(reader), "1 at 4");
        due("what was typed stays again", reader.type('y'), 6);
    }

    /** "The form is kept." */
    private static void keepKeepsTheForm() {
        CountedReader reader = Checks.readOf("<a b='1' c='2'/>");
        reader.keep();
        due("kept", reader.same(), true);
        reader.keep();
        due("kept again", reader.same(), true);
        due("another one", Checks.rereadAs(reader, "<d/>"), "right");
        due("it is not kept yet", reader.same(), false);
        reader.keep();
        due("it is kept", reader.same(), true);
        due("the one before", Checks.rereadAs(reader, "<a b='1' c='2'/>"), "right");
        due("it is no longer kept", reader.same(), false);

        CountedReader longest = Checks.readOf("<a b='" + "\"".repeat(231) + "'/>");
        longest.keep();
        due("the longest is kept", longest.same(), true);
        due("one that ends otherwise", Checks.rereadAs(longest, "<a b='" + "\"".repeat(230) + "x'/>"), "right");
        due("it is another one", longest.same(), false);
    }

    /** "IllegalStateException: there is no tree." */
    private static void keepRefusesWithoutATree() {
        due("keep of a new object", Checks.answerOfKeep(new CountedReader()), "IllegalStateException");
        due("keep before it is read", Checks.answerOfKeep(Checks.typed("<a/>")), "IllegalStateException");
        CountedReader reader = Checks.readOf("<a/>");
        reader.keep();
        due("wrong", Checks.rereadAs(reader, "<a"), "1 at 2");
        due("keep behind wrong", Checks.answerOfKeep(reader), "IllegalStateException");
        due("right again", Checks.rereadAs(reader, "<a></a>"), "right");
        due("what was kept before stays kept", reader.same(), true);
        CountedReader none = new CountedReader();
        Checks.answerOfKeep(none);
        due("a text behind the refused keep", Checks.rereadAs(none, "<a/>"), "right");
        due("nothing was kept by it", none.same(), false);
    }

    /** "Whether the form is the one that is kept" */
    private static void sameTellsWhetherItIsKept() {
        CountedReader reader = Checks.readOf("<a b='1' c='2'>x</a>");
        reader.keep();
        String[] others = {"<a b='1' c='3'>x</a>", "<a b='1'>x</a>", "<a b='1' c='2'>x </a>", "<a b='1' c='2'/>", "<A b='1' c='2'>x</A>",
            "<a b='1' c='2'><x/></a>"};
        for (String other : others) {
            due(other, Checks.rereadAs(reader, other), "right");
            due("same, of " + other, reader.same(), false);
        }
        String[] alike = {"<a\nc=\"&#50;\" b='1'><!-- -->x</a>", " <a c='2' b='1'><![CDATA[x]]></a\n>",
            "<a b=\"1\" c=\"2\" xmlns=''>&#x78;</a>"};
        for (String text : alike) {
            due(text, Checks.rereadAs(reader, text), "right");
            due("same, of " + text, reader.same(), true);
        }
        reader.wipe();
        due("what is typed does not matter", reader.same(), true);
        reader.retype();
        due("nor retype", reader.same(), true);
    }

    /** "false when there is no tree, or none is kept." */
    private static void sameIsFalseWithoutTreeOrKept() {
        due("same of a new object", new CountedReader().same(), false);
        due("same before it is read", Checks.typed("<a/>").same(), false);
        due("same when none is kept", Checks.readOf("<a/>").same(), false);
        due("same behind wrong when none is kept", Checks.readOfWrong("<a").same(), false);
        CountedReader reader = Checks.readOf("<a/>");
        reader.keep();
        due("wrong", Checks.rereadAs(reader, "<a"), "1 at 2");
        due("same behind wrong when one is kept", reader.same(), false);
    }
}
