/** Promises 1 to 15, each by ordinary inputs, the edges that the document names, and wrong inputs. */
public final class PromisesTest {
    private static final Class<IndexOutOfBoundsException> OUT = IndexOutOfBoundsException.class;
    private static final Class<IllegalArgumentException> ARGUMENT = IllegalArgumentException.class;
    private static final Class<IllegalStateException> STATE = IllegalStateException.class;

    /** Elements 0 a, 1 p:b, 2 c, 3 p:d, 4 e. */
    private static final String TREE = "<a xmlns='uv' k='1'>x<p:b xmlns:p='w' p:k='' l=''>y<c xmlns=''/>"
            + "<p:d>\n&#65;<!-- -->]</p:d></p:b>z<e/> <![CDATA[&]]></a>";

    public static void main(String[] args) {
        newObject();
        type();
        wipe();
        read();
        reasonAndPlace();
        element();
        name();
        content();
        space();
        form();
        formAt();
        retype();
        keepAndSame();
        Checks.end();
    }

    private static void dueNoTree(String when, MarkupReader reader) {
        Checks.dueThrow(when + ": element", OUT, () -> reader.element(0, 0));
        Checks.dueThrow(when + ": element, which wrong too", OUT, () -> reader.element(0, 5));
        Checks.dueThrow(when + ": name", OUT, () -> reader.name(0, 0));
        Checks.dueThrow(when + ": content", OUT, () -> reader.content(0, 0));
        Checks.dueThrow(when + ": space", OUT, () -> reader.space(0, 0));
        Checks.due(when + ": form", reader.form(), 0);
        Checks.dueThrow(when + ": formAt", OUT, () -> reader.formAt(0));
        Checks.dueThrow(when + ": retype", STATE, reader::retype);
        Checks.dueThrow(when + ": keep", STATE, () -> {
            reader.keep();
            return "kept";
        });
        Checks.due(when + ": same", reader.same(), false);
    }

    private static void newObject() {
        MarkupReader reader = new MarkupReader();
        Checks.due("new: reason", reader.reason(), 0);
        Checks.due("new: place", reader.place(), -1);
        dueNoTree("new", reader);
        Checks.due("new: first type", reader.type('a'), 1);
        Checks.due("new: nothing typed", Checks.outcome(new MarkupReader()), "1 at 0");
        Checks.due("new: nothing kept", Checks.readOf("<a/>").same(), false);
    }

    private static void type() {
        for (int c = 0; c <= Character.MAX_VALUE; c += c < 300 ? 1 : 97) {
            char typed = (char) c;
            boolean isCharacter = c == 10 || c >= 32 && c <= 126;
            MarkupReader reader = new MarkupReader();
            Checks.due("type " + c, Checks.answer(() -> reader.type(typed)),
                    isCharacter ? (Object) 1 : ARGUMENT.getSimpleName());
            Checks.due("type behind " + c, reader.type('x'), isCharacter ? 2 : 1);
        }
        MarkupReader full = new MarkupReader();
        for (int i = 1; i <= 240; i++) {
            Checks.due("type number " + i, full.type(' '), i);
        }
        Checks.dueThrow("type number 241", STATE, () -> full.type(' '));
        Checks.dueThrow("type number 241, which is no character", ARGUMENT, () -> full.type('\t'));
        Checks.due("what is typed when it is full", Checks.outcome(full), "1 at 240");
        full.wipe();
        Checks.due("type behind wipe", full.type('<'), 1);
    }

    private static void wipe() {
        MarkupReader reader = Checks.readOf("<a><b/></a>");
        reader.keep();
        reader.wipe();
        Checks.due("wipe: the tree stays", Checks.numbers(reader, 0), "-1 1 0 0 -1");
        Checks.due("wipe: the form stays", Checks.form(reader), "<a><b></b></a>");
        Checks.due("wipe: what is kept stays", reader.same(), true);
        Checks.due("wipe: the reason stays", reader.reason(), 0);
        Checks.due("wipe: type", reader.type('<'), 1);
        reader.wipe();
        reader.wipe();
        Checks.due("wipe: nothing is typed", Checks.outcome(reader), "1 at 0");
        Checks.retypeAs(reader, "<a>x");
        Checks.due("wipe: wrong", Checks.outcome(reader), "1 at 4");
        reader.wipe();
        Checks.due("wipe: the reason of wrong", reader.reason() + " at " + reader.place(), "1 at 4");
    }

    private static void read() {
        MarkupReader reader = Checks.typed("<a/>");
        Checks.due("read", reader.read(), 1);
        Checks.due("read again, for it stays typed", reader.read(), 1);
        Checks.due("type behind what was read", reader.type('x'), 5);
        Checks.due("the tree when more is typed", Checks.name(reader, 0), "a");
        Checks.dueThrow("read of wrong", ARGUMENT, reader::read);
        dueNoTree("read of wrong", reader);
        Checks.due("type behind wrong, which stays typed", reader.type('x'), 6);
        Checks.retypeAs(reader, "<c><b/><b/></c>");
        Checks.due("read behind wrong", reader.read(), 3);
        Checks.due("the form behind wrong", Checks.form(reader), "<c><b></b><b></b></c>");
        Checks.retypeAs(reader, "<long.name k='value'>content");
        Checks.due("the tree while other text is typed", Checks.name(reader, 0) + Checks.name(reader, 2), "cb");
        Checks.dueThrow("read of what is not ended", ARGUMENT, reader::read);
        dueNoTree("read of what is not ended", reader);
        MarkupReader often = Checks.typed("<a b='" + "x".repeat(40) + "'>" + "y".repeat(40) + "</a>");
        for (int i = 0; i < 400; i++) {
            often.read();
        }
        Checks.due("read again and again", Checks.form(often),
                "<a b=\"" + "x".repeat(40) + "\">" + "y".repeat(40) + "</a>");
        StringBuilder most = new StringBuilder("<a>");
        for (int i = 0; i < 23; i++) {
            most.append("<b/>");
        }
        Checks.due("read of 24 elements", Checks.typed(most + "</a>").read(), 24);
    }

    private static void reasonAndPlace() {
        MarkupReader reader = Checks.typed("<a></b>");
        Checks.due("nothing read: reason", reader.reason(), 0);
        Checks.due("nothing read: place", reader.place(), -1);
        Checks.answer(reader::read);
        Checks.due("wrong: reason", reader.reason(), 2);
        Checks.due("wrong: place", reader.place(), 5);
        Checks.retypeAs(reader, "<a/>");
        Checks.due("not read again: reason", reader.reason(), 2);
        Checks.due("not read again: place", reader.place(), 5);
        reader.read();
        Checks.due("right: reason", reader.reason(), 0);
        Checks.due("right: place", reader.place(), -1);
        reader.wipe();
        Checks.due("nothing typed", Checks.outcome(reader), "1 at 0");
    }

    private static void element() {
        MarkupReader reader = Checks.readOf(TREE);
        Checks.due("element 0", Checks.numbers(reader, 0), "-1 2 1 4 2");
        Checks.due("element 1", Checks.numbers(reader, 1), "0 2 2 1 1");
        Checks.due("element 2", Checks.numbers(reader, 2), "1 0 0 0 -1");
        Checks.due("element 3", Checks.numbers(reader, 3), "1 0 0 3 1");
        Checks.due("element 4", Checks.numbers(reader, 4), "0 0 0 0 2");
        Checks.dueThrow("element 5", OUT, () -> reader.element(5, 0));
        Checks.dueThrow("element -1", OUT, () -> reader.element(-1, 0));
        Checks.dueThrow("element 5, which 5", OUT, () -> reader.element(5, 5));
        Checks.dueThrow("which 5", ARGUMENT, () -> reader.element(4, 5));
        Checks.dueThrow("which -1", ARGUMENT, () -> reader.element(0, -1));
        Checks.dueThrow("which far off", ARGUMENT, () -> reader.element(0, Integer.MAX_VALUE));
        Checks.dueThrow("element far off", OUT, () -> reader.element(Integer.MIN_VALUE, 1));
        Checks.retypeAs(reader, "<a>1<b/></a>");
        reader.read();
        Checks.due("nothing is left of the tree before", Checks.numbers(reader, 0), "-1 1 0 1 -1");
        Checks.due("nor of its inner elements", Checks.numbers(reader, 1), "0 0 0 0 -1");
        Checks.dueThrow("nor elements that were there", OUT, () -> reader.element(2, 0));
        Checks.due("an empty space of no prefix", Checks.numbers(Checks.readOf("<a xmlns=''/>"), 0), "-1 0 0 0 -1");
        Checks.due("six attributes", Checks.numbers(
                Checks.readOf("<a b='' xmlns='u' c='' xmlns:p='v' p:b='' d=''/>"), 0), "-1 0 4 0 1");
    }

    private static void name() {
        MarkupReader reader = Checks.readOf(TREE);
        Checks.due("name 0", Checks.name(reader, 0), "a");
        Checks.due("name 1", Checks.name(reader, 1), "p:b");
        Checks.due("name 3", Checks.name(reader, 3), "p:d");
        Checks.dueThrow("name, no such character", OUT, () -> reader.name(1, 3));
        Checks.dueThrow("name, character -1", OUT, () -> reader.name(1, -1));
        Checks.dueThrow("name, element 5", OUT, () -> reader.name(5, 0));
        Checks.dueThrow("name, element -1", OUT, () -> reader.name(-1, 0));
        Checks.dueThrow("name, far off", OUT, () -> reader.name(1, Integer.MAX_VALUE));
        Checks.due("name of all kinds", Checks.name(Checks.readOf("<_aZ.-9/>"), 0), "_aZ.-9");
    }

    private static void content() {
        MarkupReader reader = Checks.readOf(TREE);
        Checks.due("content 0", Checks.content(reader, 0), "xz &");
        Checks.due("content 1", Checks.content(reader, 1), "y");
        Checks.due("content 2", Checks.content(reader, 2), "");
        Checks.due("content 3", Checks.content(reader, 3), "\nA]");
        Checks.dueThrow("content, character 4", OUT, () -> reader.content(0, 4));
        Checks.dueThrow("content, character -1", OUT, () -> reader.content(0, -1));
        Checks.dueThrow("content, element 5", OUT, () -> reader.content(5, 0));
        Checks.dueThrow("content, element -1", OUT, () -> reader.content(-1, 0));
        Checks.dueThrow("content, far off", OUT, () -> reader.content(0, Integer.MAX_VALUE));
        Checks.due("references", Checks.content(Checks.readOf(
                "<a>&lt;&gt;&amp;&quot;&apos;&#10;&#x0A;&#xa;&#126;&#32;&#x7e;&#00065;</a>"), 0),
                "<>&\"'\n\n\n~ ~A");
        Checks.due("sections", Checks.content(Checks.readOf(
                "<a><![CDATA[]]>1<![CDATA[&lt;<b>]] ]>--]]]>2<![CDATA[<![CDATA[]]></a>"), 0),
                "1&lt;<b>]] ]>--]2<![CDATA[");
        Checks.due("comments", Checks.content(Checks.readOf(
                "<a>1<!---->2<!-- <b>&x ]]> - -->3<!--->-->4</a>"), 0), "1234");
        Checks.due("brackets", Checks.content(Checks.readOf("<a>]>]]&gt;]]<!---->>]]<b/>>]&#93;></a>"), 0),
                "]>]]>]]>]]>]]>");
    }

    private static void space() {
        MarkupReader reader = Checks.readOf(TREE);
        Checks.due("space 0", Checks.space(reader, 0), "uv");
        Checks.due("space 1", Checks.space(reader, 1), "w");
        Checks.due("space 2", Checks.space(reader, 2), "");
        Checks.due("space 3", Checks.space(reader, 3), "w");
        Checks.due("space 4", Checks.space(reader, 4), "uv");
        Checks.dueThrow("space, character 2", OUT, () -> reader.space(0, 2));
        Checks.dueThrow("space, character -1", OUT, () -> reader.space(0, -1));
        Checks.dueThrow("space of none", OUT, () -> reader.space(2, 0));
        Checks.dueThrow("space, element 5", OUT, () -> reader.space(5, 0));
        Checks.dueThrow("space, element -1", OUT, () -> reader.space(-1, 0));
        MarkupReader within = Checks.readOf("<p:a xmlns:p='1'><p:a xmlns:p='2'><p:a/></p:a><p:a/><a/>"
                + "<a xmlns='&amp;\n&#10;'/></p:a>");
        Checks.due("outer", Checks.space(within, 0), "1");
        Checks.due("declared within", Checks.space(within, 1), "2");
        Checks.due("within that", Checks.space(within, 2), "2");
        Checks.due("behind that", Checks.space(within, 3), "1");
        Checks.due("no prefix", within.element(4, 4), -1);
        Checks.due("a value as it is meant", Checks.space(within, 5), "& \n");
    }

    private static void form() {
        Checks.due("form", Checks.readOf("<a/>").form(), 7);
        StringBuilder marks = new StringBuilder();
        StringBuilder written = new StringBuilder();
        for (int i = 0; i < 231; i++) {
            marks.append('"');
            written.append("&quot;");
        }
        MarkupReader longest = Checks.readOf("<a b='" + marks + "'/>");
        Checks.due("the longest form", Checks.form(longest), "<a b=\"" + written + "\"></a>");
        Checks.answer(longest::retype);
        Checks.due("it stays", longest.form(), 231 * 6 + 12);
    }

    private static void formAt() {
        MarkupReader reader = Checks.readOf("<a>&gt;</a>");
        String form = "<a>&gt;</a>";
        for (int i = 0; i < form.length(); i++) {
            Checks.due("formAt " + i, reader.formAt(i), form.charAt(i));
        }
        Checks.dueThrow("formAt its end", OUT, () -> reader.formAt(11));
        Checks.dueThrow("formAt -1", OUT, () -> reader.formAt(-1));
        Checks.dueThrow("formAt far off", OUT, () -> reader.formAt(Integer.MAX_VALUE));
    }

    private static void retype() {
        MarkupReader reader = Checks.readOf("<a  b = 'x' /><!-- c -->");
        Checks.due("retype", reader.retype(), 13);
        Checks.due("retype: the tree stays", Checks.name(reader, 0), "a");
        Checks.due("retype: the form stays", Checks.form(reader), "<a b=\"x\"></a>");
        Checks.due("retype: the comment is gone", reader.type('x'), 14);
        Checks.due("retype: read with more", Checks.outcome(reader), "1 at 13");
        Checks.dueThrow("retype behind wrong", STATE, reader::retype);
        Checks.due("retype behind wrong: it stays typed", reader.type('y'), 15);

        MarkupReader again = Checks.readOf("<a>&#10;<b c='&#10;'/></a>");
        again.wipe();
        Checks.due("retype when nothing is typed", again.retype(), 25);
        Checks.due("retype: read", again.read(), 2);
        Checks.due("retype: the same form", Checks.form(again), "<a>\n<b c=\"&#xA;\"></b></a>");

        String most = "x".repeat(240 - 7);
        MarkupReader full = Checks.readOf("<a>" + most + "</a>");
        Checks.due("retype of 240", full.retype(), 240);
        Checks.dueThrow("retype of 240: it is full", STATE, () -> full.type('x'));
        MarkupReader over = Checks.readOf("<a>" + most.substring(4) + "></a>");
        Checks.due("a form of 240 by one that grows", over.retype(), 240);
        MarkupReader tooLong = Checks.readOf("<a>" + most.substring(3) + "></a>");
        Checks.dueThrow("retype of 241", STATE, tooLong::retype);
        Checks.due("retype of 241: it stays typed", tooLong.type('x'), 239);
    }

    private static void keepAndSame() {
        MarkupReader reader = Checks.readOf("<a b='1' c='2'/>");
        Checks.due("none is kept", reader.same(), false);
        reader.keep();
        Checks.due("kept", reader.same(), true);
        Checks.retypeAs(reader, "<a\nc=\"&#50;\" b='1'><!-- --></a>");
        Checks.due("what is typed is not the form", reader.same(), true);
        reader.read();
        Checks.due("another text, the same content", reader.same(), true);
        Checks.retypeAs(reader, "<a b='1' c='3'/>");
        reader.read();
        Checks.due("another value", reader.same(), false);
        Checks.retypeAs(reader, "<a b='1' c='2'> </a>");
        reader.read();
        Checks.due("more content", reader.same(), false);
        Checks.retypeAs(reader, "<a b='1' c='2'>");
        Checks.answer(reader::read);
        Checks.due("no tree", reader.same(), false);
        Checks.dueThrow("keep without a tree", STATE, () -> {
            reader.keep();
            return "kept";
        });
        Checks.retypeAs(reader, "<a b='1' c='2'/>");
        reader.read();
        Checks.due("it is still kept", reader.same(), true);
        Checks.retypeAs(reader, "<d/>");
        reader.read();
        reader.keep();
        Checks.due("another one kept", reader.same(), true);
        Checks.retypeAs(reader, "<a b='1' c='2'/>");
        reader.read();
        Checks.due("that before is not kept", reader.same(), false);
    }
}
