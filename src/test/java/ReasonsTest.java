/** READING: which texts are right, and with which reason, at which place, the others are wrong. */
public final class ReasonsTest {
    private static final String TEN_OPEN = "<a>".repeat(10);
    private static final String SIX_ATTRIBUTES = " a='' b='' c='' d='' e='' xmlns='u'";

    public static void main(String[] args) {
        rightTexts();
        textsAndComments();
        namesAndTags();
        attributesAndValues();
        contentAndSections();
        otherNames();
        references();
        tooMany();
        namesTwice();
        wrongDeclarations();
        notDeclared();
        twiceInSpace();
        whichComesFirst();
        Checks.end();
    }

    private static void due(String text, String outcome) {
        Checks.due("read of " + text.replace("\n", "\\n"), Checks.outcome(text), outcome);
    }

    private static void right(String... texts) {
        for (String text : texts) {
            due(text, "right");
        }
    }

    /** Wrong at the last character, whatever follows. */
    private static void wrongAtLast(String... texts) {
        for (String text : texts) {
            String outcome = "1 at " + (text.length() - 1);
            due(text, outcome);
            due(text + ">", outcome);
            due(text + " <x></x>", outcome);
        }
    }

    private static void wrongAtEnd(String... texts) {
        for (String text : texts) {
            due(text, "1 at " + text.length());
        }
    }

    private static void rightTexts() {
        right("<a/>", "<a />", "<a\n/>", "<a></a>", "<a ></a >", "<a\n ></a \n>", "<a:b xmlns:a='u'/>");
        right("<_/>", "<a.-9_0/>", "<Z></Z>", "<xmlns/>", "<xml/>", "<xmlns></xmlns>");
        right("\n <!--x--> <!---->\n<a/> <!--y-->\n", "<!--a--><!--b--><a/><!--c--><!--d-->");
        right("<a b=''/>", "<a b = \"\"/>", "<a\nb\n=\n'x'\n/>", "<a b='\"' c=\"'\"/>", "<a b='>]]>-->\n'/>");
        right("<a>]]</a>", "<a>]]]</a>", "<a>] ]></a>", "<a>>--></a>", "<a>\"'=/!</a>", "<a>]]&gt;</a>");
        right("<a><![CDATA[]]>></a>", "<a>]]<![CDATA[>]]></a>", "<a>]<!-- -->]></a>", "<a>&#93;]></a>");
    }

    private static void textsAndComments() {
        wrongAtEnd("", " ", "\n\n", "<!---->", "<", "<!", "<!-", "<!--", "<!---", "<!-- -", "<!-- --", "<!--->");
        wrongAtLast("a", ">", "&", "/", " x", "<!x", "<!>", "<!-x", "<!->", "<![", "<?", "</", "< ", "<1", "<:", "<-", "<.");
        wrongAtLast("<!-- -- ", "<!-----", "<!----a", "<!--a---", "<!--a--b");
        wrongAtLast("<a/>x", "<a/> &", "<a/><b", "<a/></", "<a/><![", "<a/><!x", "<a/><<", "<a/>]", "<a></a>/");
        wrongAtEnd("<a/><", "<a/><!", "<a/><!-", "<a/><!--", "<a/><!-- -", "<a/> <!-- --");
        right("<!---> --><a/>", "<!--> --><a/>", "<!--<a>&]]>--><a/>", "<!-- - - --><a/>");
    }

    private static void namesAndTags() {
        wrongAtEnd("<a", "<a:", "<a:b", "<a ", "<a/", "<a /", "<a>", "<a> ", "<a><b/>", "<a><", "<a></", "<a></a", "<a></a ");
        wrongAtLast("<a:>", "<a::", "<a:1", "<a: ", "<a:b:", "<a$", "<a/ ", "<a/a", "<a=", "<a<", "<a \"", "<a &", "<a>< ");
        wrongAtLast("<a></ ", "<a></>", "<a></1", "<a></a/", "<a></a b", "<a></a <", "<a></a:>", "<a></b:>", "<a></b: ");
        due("<a></a$>", "1 at 6");
    }

    private static void attributesAndValues() {
        wrongAtEnd("<a b", "<a b:", "<a b:c", "<a b ", "<a b=", "<a b= ", "<a b='", "<a b='x", "<a b=''", "<a b='' ");
        wrongAtLast("<a b>", "<a b/", "<a b c", "<a b:=", "<a b:c:", "<a b==", "<a b=x", "<a b=>", "<a 1", "<a =");
        wrongAtLast("<a b='<", "<a b=\"<", "<a b=''c", "<a b='':", "<a b=''=", "<a b='''", "<a b='' '", "<a b=''/ ");
    }

    private static void contentAndSections() {
        wrongAtEnd("<a>]]", "<a><!", "<a><!-", "<a><!--", "<a><![", "<a><![CDATA", "<a><![CDATA[", "<a><![CDATA[x]", "<a><![CDATA[]]");
        wrongAtLast("<a>]]>", "<a>x]]]>", "<a>&amp;]]>", "<a><b/>]]>", "<a><![CDATA[]]>]]>");
        wrongAtLast("<a><!a", "<a><!-a", "<a><![ ", "<a><![c", "<a><![CDATA ", "<a><![CDATA<", "<a><!- ", "<a><?", "<a><<", "<a><1");
        wrongAtLast("<a><!-- -- ", "<a><!-----");
    }

    private static void otherNames() {
        due("<a></b>", "2 at 5");
        due("<a></A>", "2 at 5");
        due("<a></ab>", "2 at 5");
        due("<ab></a>", "2 at 6");
        due("<a></a:b>", "2 at 5");
        due("<p:a xmlns:p='u'></a>", "2 at 19");
        due("<p:a xmlns:p='u' xmlns:q='u'></q:a>", "2 at 31");
        due("<a><b></a></b>", "2 at 8");
        due("<a><b></b></b></a>", "2 at 12");
        due("<a></b", "2 at 5");
        due("<ab></a", "2 at 6");
        due("<a></b$", "2 at 5");
    }

    private static void references() {
        String[] none = {"&", "&;", "& lt;", "&lt", "&lt ;", "&LT;", "&ltx;", "&ampx;", "&apo;", "&nbsp;", "&#;", "&#x;",
            "&#X41;", "&# 65;", "&#65 ;", "&#65", "&#x4g;", "&#a;", "&#-65;", "&#+65;", "&#x 41;", "&&amp;", "&<", "&#x41"};
        for (String reference : none) {
            due("<a>xy" + reference, "3 at 5");
            due("<a>xy" + reference + "</a>", "3 at 5");
            due("<a b='\n" + reference + "'/>", "3 at 7");
        }
        for (int number = 0; number < 200; number++) {
            boolean isCharacter = number == 10 || number >= 32 && number <= 126;
            due("<a>&#" + number + ";</a>", isCharacter ? "right" : "3 at 3");
            due("<a b='&#x" + Integer.toHexString(number) + ";'/>", isCharacter ? "right" : "3 at 6");
            due("<a b='&#x00" + Integer.toHexString(number).toUpperCase() + ";'/>", isCharacter ? "right" : "3 at 6");
        }
        due("<a>&#4294967361;</a>", "3 at 3");
        due("<a>&#18446744073709551681;</a>", "3 at 3");
        due("<a>&#x100000041;</a>", "3 at 3");
        due("<a>&#" + "9".repeat(220) + ";</a>", "3 at 3");
        right("<a>&#" + "0".repeat(220) + "65;</a>");
        right("<a>&#x6A;&#x6a;&lt;&gt;&amp;&quot;&apos;</a>", "<a b='&lt;&gt;&amp;&quot;&apos;&#x3C;'/>");
    }

    private static void tooMany() {
        right(TEN_OPEN + "<a><a/></a>" + "</a>".repeat(10), TEN_OPEN + "<a><a></a><a/></a>" + "</a>".repeat(10));
        due(TEN_OPEN + "<a><a><a", "4 at 36");
        due(TEN_OPEN + "<a><a>x<_1$", "4 at 37");
        due(TEN_OPEN + "<a><a><:", "1 at 37");
        due(TEN_OPEN + "<a><a><", "1 at 37");
        due(TEN_OPEN + "<a><a></a></a><b><c><d", "4 at 50");
        String twentyFour = "<r>" + "<b/>".repeat(23);
        right(twentyFour + "</r>");
        due(twentyFour + "<b", "4 at 95");
        due(twentyFour + "<b/></r>", "4 at 95");
        due(twentyFour + "<1", "1 at 96");
        due(twentyFour + "<!-- --></x>", "2 at 105");
        right("<a" + SIX_ATTRIBUTES + "/>", "<a" + SIX_ATTRIBUTES + " \n></a>");
        due("<a" + SIX_ATTRIBUTES + " g", "4 at 0");
        due("<r><a" + SIX_ATTRIBUTES + "\ng=''/></r>", "4 at 3");
        due("<a" + SIX_ATTRIBUTES + " xmlns:p=''/>", "4 at 0");
        due("<a" + SIX_ATTRIBUTES + " 1", "1 at " + (3 + SIX_ATTRIBUTES.length()));
        due("<a" + SIX_ATTRIBUTES + "g", "1 at " + (2 + SIX_ATTRIBUTES.length()));
        due("<a" + SIX_ATTRIBUTES + " ", "1 at " + (3 + SIX_ATTRIBUTES.length()));
    }

    private static void namesTwice() {
        due("<a b='1' b='2'/>", "5 at 9");
        due("<a b='' c='' d='' c='' b=''/>", "5 at 18");
        due("<a xmlns='u' xmlns='u'/>", "5 at 13");
        due("<a xmlns:p='u' xmlns:p='v'/>", "5 at 15");
        due("<a xmlns:p='u' p:b='' p:b=''/>", "5 at 22");
        due("<a><b c='' c=''></b></a>", "5 at 11");
        right("<a b='' B='' b.='' bb=''/>", "<a b=''><b b=''/></a>");
    }

    private static void wrongDeclarations() {
        due("<a xmlns:p=''/>", "6 at 3");
        due("<a xmlns:xml='u'/>", "6 at 3");
        due("<a xmlns:xmlns='u'/>", "6 at 3");
        due("<a b='' xmlns:q='u' xmlns:xml='' xmlns:p=''/>", "6 at 20");
        due("<a xmlns:p='u'><b xmlns:p=''/></a>", "6 at 18");
        right("<a xmlns=''/>", "<a xmlns:p=' '/>", "<a xmlns:p='\n'/>", "<a xmlns:XML='u'/>", "<a xmlns:xmlx='u' xmlns:xm='u' xmlns:yml='u'/>",
                "<a xmlns:p='u'><b xmlns=''/></a>", "<a XMLNS=''/>");
    }

    private static void notDeclared() {
        due("<p:a/>", "7 at 1");
        due("<a p:b=''/>", "7 at 3");
        due("<p:a xmlns='u'/>", "7 at 1");
        due("<p:a q:b='' xmlns:q='u'/>", "7 at 1");
        due("<a b='' p:b='' q:c='' xmlns:q='u'/>", "7 at 8");
        due("<a><b xmlns:p='u'/><p:b/></a>", "7 at 20");
        due("<a><b xmlns:p='u'></b><c p:b=''/></a>", "7 at 25");
        due("<xml:a/>", "7 at 1");
        due("<xmlns:a/>", "7 at 1");
        due("<a xml:b=''/>", "7 at 3");
        due("<P:a xmlns:p='u'/>", "7 at 1");
        due("<a ymlns:p='u'/>", "7 at 3");
        due("<a xmlnt:p='u'/>", "7 at 3");
        due("<a xmln:p='u'/>", "7 at 3");
        due("<pp:a xmlns:p='u'/>", "7 at 1");
        due("<p:a xmlns:pp='u'/>", "7 at 1");
        due("<p:a", "1 at 4");
        right("<p:a p:b='' xmlns:p='u'/>", "<a xmlns:p='u'><b><p:c p:d=''/></b></a>", "<xmlns xmlns='u'/>");
    }

    private static void twiceInSpace() {
        due("<a xmlns:p='u' xmlns:q='u' p:x='1' q:x='2'/>", "8 at 35");
        due("<a xmlns:p='A' xmlns:q='&#65;' q:x='' b='' p:x=''/>", "8 at 43");
        due("<a xmlns:p='u'><b xmlns:q='u' q:x='' p:x=''/></a>", "8 at 37");
        due("<a xmlns:p='u' xmlns:q='u' p:x='' q:y='' p:y='' q:x=''/>", "8 at 41");
        right("<a xmlns:p='u' xmlns:q='U' p:x='' q:x=''/>", "<a xmlns:p='u' xmlns:q='u' p:x='' q:X=''/>");
        right("<a xmlns='u' xmlns:p='u' x='' p:x=''/>", "<a xmlns:p='u'><b xmlns:p='v' xmlns:q='u' p:x='' q:x=''/></a>");
        right("<a xmlns:p='u' xmlns:q='uu' p:x='' q:x=''/>", "<a xmlns:b='u' xmlns:c='u' b:b=''/>");
    }

    private static void whichComesFirst() {
        due("<p:a xmlns:q='' b='' b=''/>", "5 at 21");
        due("<p:a xmlns:q=''/>", "6 at 5");
        due("<p:a xmlns:q='u' xmlns:r='u' q:x='' r:x=''/>", "7 at 1");
        due("<a xmlns:q='u' xmlns:r='u' q:x='' r:x='' p:x=''/>", "7 at 41");
        due("<p:a b='' b=''", "1 at 14");
        due("<p:a b='' b=''/", "1 at 15");
        due("<p:a b='' b=''/ ", "1 at 15");
        due("<p:a b='&' b='", "3 at 8");
        due("<p:a>&x", "7 at 1");
        due("<p:a></b>", "7 at 1");
        due("<a>&x</b>", "3 at 3");
        due("<a></b>&", "2 at 5");
        due("<a b=''c='&'/>", "1 at 7");
    }
}
