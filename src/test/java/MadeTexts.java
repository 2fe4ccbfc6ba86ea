/** Many texts, right and wrong, made by one fixed rule: the same ones in each run. */
final class MadeTexts {
    private static final String[] PIECES = {"<a", "<b", "</a>", "</b>", "<p:a", "</p:a>", "/>", ">", " ", "\n", "<!--", "-->",
        "<![CDATA[", "]]>", "]", "&lt;", "&#65;", "&#10;", "&", "x", "-", " xmlns='u:1'", " xmlns=''", " xmlns:p='u:1'",
        " xmlns:q='u:1'", " b='1'", " c='\"'", " p:b='2'", " q:b='3'", "=", "'", "<"};
    private static final String[] NAMES = {"a", "b", "bc", "a", "p:a", "q:b"};
    private static final String[] ATTRIBUTES = {" xmlns:q='v:2'", " xmlns='v:2'", " xmlns=''", " xmlns:p='w:3'", " xmlns:q='u:1'",
        " a='\"&#10;'", " p:c=\"&lt;>'\"", "\nb='>\n'", " bc = ''", " q:c='&amp;&#x41;'", " q:b=''", " p:b=' '"};
    private static final String[] INSIDE = {"x", "&amp;", "<![CDATA[<]]>", "<!-- - -->", "\n", ">", "]]", "]", "\"'", "&#x5d;",
        "y z", "<![CDATA[]]]>"};
    private static final String INSERTED = "<>&;/='\"! -]:\nabpqx";

    private long seed;

    MadeTexts(long seed) {
        this.seed = seed;
    }

    /** One text in four is of pieces in any order, one is broken at one place, and two are well nested. */
    String next(int number) {
        String text = number % 4 == 0 ? pieces(12) : nestedText();
        return number % 4 == 1 ? broken(text) : text;
    }

    private int below(int bound) {
        seed = seed * 6364136223846793005L + 1442695040888963407L;
        return (int) ((seed >>> 33) % bound);
    }

    private String one(String[] of) {
        return of[below(of.length)];
    }

    private String pieces(int most) {
        StringBuilder text = new StringBuilder();
        for (int i = below(most); i >= 0; i--) {
            text.append(one(PIECES));
        }
        return text.toString();
    }

    private String broken(String text) {
        int at = below(text.length());
        int behind = at + below(2);
        String inserted = below(3) == 0 ? "" : String.valueOf(INSERTED.charAt(below(INSERTED.length())));
        String broken = text.substring(0, at) + inserted + text.substring(behind);
        return broken.length() <= Texts.MOST_TYPED ? broken : text;
    }

    private String nestedText() {
        String text = (below(4) == 0 ? "<!-- -->\n" : "") + nested(0) + (below(4) == 0 ? " <!----> " : "");
        return text.length() <= Texts.MOST_TYPED ? text : "<p:a xmlns:p='u:1'>x</p:a>";
    }

    private String nested(int depth) {
        String name = one(NAMES);
        StringBuilder text = new StringBuilder("<").append(name);
        if (depth == 0) {
            text.append(" xmlns:p='u:1'").append(below(8) == 0 ? "" : " xmlns:q='u:1'");
        }
        for (int i = below(4); i > 0; i--) {
            String attribute = one(ATTRIBUTES);
            // Most texts are to be right, so most have no name twice.
            if (text.indexOf(attribute.substring(0, attribute.indexOf('='))) < 0 || below(20) == 0) {
                text.append(attribute);
            }
        }
        if (below(3) == 0 || depth > 4) {
            return text.append("/>").toString();
        }
        text.append('>');
        for (int i = below(5); i > 0; i--) {
            text.append(below(2) == 0 ? nested(depth + 1) : one(INSIDE));
        }
        return text.append("</").append(name).append(below(3) == 0 ? " >" : ">").toString();
    }
}
