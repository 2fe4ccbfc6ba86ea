/** What must hold for every text, over many texts made by one fixed rule (the same in each run). */
public final class ManyTextsTest {
    private static final int TEXTS = 30_000;
    private static final String[] PIECES = {"<a", "<b", "</a>", "</b>", "<p:a", "</p:a>", "/>", ">", " ", "\n", "<!--", "-->",
        "<![CDATA[", "]]>", "]", "&lt;", "&#65;", "&#10;", "&", "x", "-", " xmlns='u'", " xmlns=''", " xmlns:p='u'",
        " xmlns:q='u'", " b='1'", " c='\"'", " p:b='2'", " q:b='3'", "=", "'", "<"};
    private static long seed = 20261115;

    public static void main(String[] args) {
        int right = 0;
        for (int i = 0; i < TEXTS; i++) {
            String text = i % 2 == 0 ? nestedText() : pieces(12);
            MarkupReader reader = Checks.typed(text);
            if (Checks.outcome(reader).equals("right")) {
                right++;
                dueForRight(text, reader);
            } else {
                dueForWrong(text, reader);
            }
        }
        Checks.due("enough texts are right", right > TEXTS / 4, true);
        Checks.due("enough texts are wrong", TEXTS - right > TEXTS / 4, true);
        Checks.end();
    }

    private static void dueForRight(String text, MarkupReader reader) {
        String form = Checks.form(reader);
        String facts = facts(reader);
        if (form.length() <= 240) {
            reader.keep();
            reader.retype();
            Checks.due("the form of " + text + " when read", Checks.outcome(reader), "right");
            Checks.due("the form of the form of " + text, Checks.form(reader), form);
            Checks.due("whether it is the same", reader.same(), true);
            Checks.due("what the form of " + text + " tells", facts(reader), facts);
        }
        String cut = text.substring(0, text.lastIndexOf('>'));
        if (!text.endsWith("-->")) {
            Checks.due("read of " + text + " without its end", Checks.outcome(cut), "1 at " + cut.length());
        }
    }

    /** What follows the place does not matter for reason 1, and what is before it is no cause. */
    private static void dueForWrong(String text, MarkupReader reader) {
        String outcome = reader.reason() + " at " + reader.place();
        Checks.due("the place is in " + text, reader.place() >= 0 && reader.place() <= text.length(), true);
        Checks.due("there is a reason", reader.reason() >= 1 && reader.reason() <= 8, true);
        Checks.due("there is no tree of " + text, reader.form(), 0);
        if (reader.reason() == 1 && reader.place() < text.length()) {
            Checks.due("read of the beginning of " + text, Checks.outcome(text.substring(0, reader.place() + 1)), outcome);
        }
        if (reader.reason() == 1) {
            String before = text.substring(0, reader.place());
            String beforeOutcome = Checks.outcome(before);
            boolean isCause = beforeOutcome.startsWith("1 at ") && !beforeOutcome.equals("1 at " + before.length());
            Checks.due("a cause before the place in " + text, isCause, false);
        }
    }

    private static String facts(MarkupReader reader) {
        StringBuilder facts = new StringBuilder();
        int elements = reader.read();
        for (int e = 0; e < elements; e++) {
            String numbers = Checks.numbers(reader, e);
            facts.append(numbers).append(Checks.name(reader, e)).append(Checks.content(reader, e))
                    .append(Checks.space(reader, e)).append('|');
            Checks.due("how long the content is", Checks.content(reader, e).length(), reader.element(e, 3));
            Checks.due("how long the space is", Checks.space(reader, e).length(), Math.max(0, reader.element(e, 4)));
        }
        return facts.toString();
    }

    private static int below(int bound) {
        seed = seed * 6364136223846793005L + 1442695040888963407L;
        return (int) ((seed >>> 33) % bound);
    }

    private static String pieces(int most) {
        StringBuilder text = new StringBuilder();
        for (int i = below(most); i >= 0; i--) {
            text.append(PIECES[below(PIECES.length)]);
        }
        return text.toString();
    }

    private static String nestedText() {
        String text = "<!-- -->".substring(0, below(2) * 8) + nested(0);
        return text.length() <= 240 ? text : "<a/>";
    }

    private static String nested(int depth) {
        String name = below(4) == 0 ? "p:a" : "b";
        StringBuilder text = new StringBuilder("<").append(name);
        String[] attributes = {" xmlns:p='u'", " xmlns='v'", " c='\"&#10;'", " p:c=\"<\"".replace("<", "&lt;"), "\nb='>'"};
        for (int i = 0; i < attributes.length; i++) {
            if (i == 0 && depth == 0 || below(3) == 0) {
                text.append(attributes[i]);
            }
        }
        if (below(3) == 0 || depth > 4) {
            return text.append("/>").toString();
        }
        text.append('>');
        for (int i = below(4); i > 0; i--) {
            String[] inside = {"x", "&amp;", "<![CDATA[<]]>", "<!-- - -->", "\n", ">"};
            text.append(below(2) == 0 ? nested(depth + 1) : inside[below(inside.length)]);
        }
        return text.append("</").append(name).append(" >").toString();
    }
}
