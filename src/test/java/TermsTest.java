import java.math.BigInteger;

/** Terms, sentence by sentence: the last thing that each one takes, and the first that it refuses. */
public final class TermsTest {
    private static final String DIGITS = "0123456789";
    private static final String LETTERS = "abcdefghijklmnopqrstuvwxyzABCDEFGHIJKLMNOPQRSTUVWXYZ";

    public static void main(String[] args) {
        charactersAre10And32To126();
        blanksAreRunsOfSpacesAndLines();
        aPartBeginsWithALetterOrLowLine();
        aPartGoesOnWithDigitsHyphensAndDots();
        aPartHasAnyNumberOfCharacters();
        aNameIsAPartOrTwo();
        aTextIsOneElementAmongBlanksAndComments();
        aCommentHasNoTwoHyphensSideBySide();
        anElementIsEmptyOrHasContent();
        anAttributeHasOneBlankAtLeast();
        anAttributeHasTwoMarksOfOneKind();
        contentIsAnyNumberOfThings();
        contentHasNoEndOfASection();
        aSectionEndsAtTheFirstEnd();
        aReferenceIsOneOfFiveWords();
        aReferenceIsTheNumberOfACharacter();
        aReferenceHasDigitsOfItsBase();
        aReferenceNumberDoesNotWrapAround();
        aValueIsAnyNumberOfReferencesAndCharacters();
        aLineInAValueIsASpace();
        Checks.end();
    }

    private static void due(String text, String outcome) {
        Texts.due(text, outcome);
    }

    /** "CHARACTERS are 10 (LINE) and 32 .. 126." */
    private static void charactersAre10And32To126() {
        CountedReader reader = new CountedReader();
        for (int number = 0; number <= Character.MAX_VALUE; number++) {
            char c = (char) number;
            if (reader.callsLeft() < 2) {
                reader = new CountedReader();
            }
            CountedReader asked = reader;
            Object want = Texts.isCharacter(number) ? (Object) 1 : "IllegalArgumentException";
            Checks.due("type " + number, Checks.answer(() -> asked.type(c)), want);
            reader.wipe();
        }
        Checks.due("how many characters there are", Texts.CHARACTERS.length(), 96);
        Texts.right("<!--" + Texts.CHARACTERS + "--><a/>");
    }

    /** "BLANKS are runs of spaces and LINEs." */
    private static void blanksAreRunsOfSpacesAndLines() {
        for (String blanks : new String[] {"", " ", "\n", "  ", "\n\n", " \n", "\n \n ", " ".repeat(30), "\n".repeat(30)}) {
            Texts.right(blanks + "<a/>", "<a/>" + blanks, blanks + "<!---->" + blanks + "<a/>" + blanks + "<!---->" + blanks);
            Texts.right("<a" + blanks + "/>", "<a" + blanks + "></a>", "<a></a" + blanks + ">", "<a b='' " + blanks + "/>");
            Texts.right("<a b" + blanks + "=" + blanks + "''" + blanks + "/>", "<a " + blanks + "b=''/>");
        }
        for (char c : Texts.charactersWithout(" \n<").toCharArray()) {
            due(c + "<a/>", "1 at 0");
            due("<a/>" + c, "1 at 4");
            due(" " + c + " <a/>", "1 at 1");
        }
        Texts.right(" ".repeat(236) + "<a/>", "<a/>" + "\n".repeat(236), "<a" + "\n".repeat(236) + "/>");
    }

    /** "A PART is a letter a .. z or A .. Z or _, and then ..." */
    private static void aPartBeginsWithALetterOrLowLine() {
        for (char c : Texts.CHARACTERS.toCharArray()) {
            boolean begins = (LETTERS + "_").indexOf(c) >= 0;
            due("<" + c + "/>", begins ? "right" : c == '!' ? "1 at 2" : "1 at 1");
            due("<p:" + c + " xmlns:p='u'/>", begins ? "right" : "1 at 3");
            due("<a></" + c, !begins ? "1 at 5" : c == 'a' ? "1 at 6" : "2 at 5");
            if (" \n/>".indexOf(c) < 0) {
                due("<a " + c + "=''/>", begins ? "right" : "1 at 3");
            }
            due("<a xmlns:" + c + "='u'/>", begins ? "right" : "1 at 9");
        }
    }

    /** "... and then any number of these, digits, - and . characters." */
    private static void aPartGoesOnWithDigitsHyphensAndDots() {
        for (char c : Texts.charactersWithout(" \n/>:").toCharArray()) {
            boolean goesOn = (LETTERS + "_" + DIGITS + "-.").indexOf(c) >= 0;
            due("<a" + c + "/>", goesOn ? "right" : "1 at 2");
            due("<p:a" + c + " xmlns:p='u'/>", goesOn ? "right" : "1 at 4");
            if (c != '=') {
                due("<a b" + c + "=''/>", goesOn ? "right" : "1 at 4");
            }
            if (goesOn) {
                Checks.due("name with " + c, Checks.name(Checks.readOf("<a" + c + "/>"), 0), "a" + c);
                due("<a></a" + c + ">", "2 at 5");
            } else {
                due("<a></a" + c + ">", "1 at 6");
            }
        }
    }

    /** "... any number of these ...": none, and as many as can be typed. */
    private static void aPartHasAnyNumberOfCharacters() {
        Checks.due("a part of one", Checks.name(Checks.readOf("<_/>"), 0), "_");
        String longest = "a" + "9".repeat(236);
        Checks.due("a part of 237", Checks.name(Checks.readOf("<" + longest + "/>"), 0), longest);
        String prefix = "p" + "-".repeat(70);
        Checks.due("a long prefix", Checks.name(Checks.readOf("<" + prefix + ":b xmlns:" + prefix + "='u'/>"), 0), prefix + ":b");
    }

    /** "A NAME is a part, or a part (its PREFIX), : and a part, without blanks between; its LOCAL part is the last one." */
    private static void aNameIsAPartOrTwo() {
        Texts.right("<p:a xmlns:p='u'/>", "<p:a xmlns:p='u' p:p=''></p:a>", "<p:a xmlns:p='u' b='' p:b=''/>");
        Texts.wrongAtLast("<:", "<p:>", "<p:/", "<p::", "<p:a:", "<p :", "<p: ", "<p:\n", "<a :", "<a p :", "<a p: ", "<a p:=", "<a p:b:");
        Texts.wrongAtLast("<a></:", "<a></a:>", "<a></a::", "<a></a :", "<a></a: ");
        Texts.wrongAtEnd("<p", "<p:", "<p:a", "<a p", "<a p:", "<a p:b", "<a></a", "<a></a:");
        due("<a xmlns:p='u' xmlns:q='u' p:b='' q:b=''/>", "8 at 34");
    }

    /** "A TEXT is, in this order: blanks and comments; an element; blanks and comments." */
    private static void aTextIsOneElementAmongBlanksAndComments() {
        Texts.right("<a/>", " <a/>", "<a/>\n", "<!----><a/>", "<a/><!---->", "<!---->\n<!----><a/> <!----><!---->");
        Texts.wrongAtEnd("", " ", "\n", "<!---->", " <!----> <!---->\n");
        Texts.wrongAtLast("<a/>a", "<a/><a", "<a></a>a", "<a></a><a", "<a/><!----><a", "a", "&", "]", "<![", "<a/>&", "<a/><![", "<a/></");
        due(" ".repeat(240), "1 at 240");
        due("<!--" + "x".repeat(233) + "-->", "1 at 240");
    }

    /** "A COMMENT is <!--, any characters of which no two - are side by side and the last one is no -, and -->." */
    private static void aCommentHasNoTwoHyphensSideBySide() {
        for (String inside : new String[] {"", "-a", "->", " - ", "- - ", "a-b-c", "<", "&", "]]>", "<!- ", "<a>", ">", "!>", "\n"}) {
            Texts.right("<!--" + inside + "--><a/>", "<a/><!--" + inside + "-->");
            Texts.contentIs("<a>x<!--" + inside + "-->y</a>", "xy");
        }
        for (char c : Texts.charactersWithout("->").toCharArray()) {
            Texts.wrongAtLast("<!----" + c, "<!--a--" + c, "<a/><!----" + c, "<a><!----" + c);
        }
        Texts.wrongAtLast("<!-----", "<!--a---", "<a/><!--a---", "<a><!--a---", "<!--a-- ", "<!--<!---");
        Texts.wrongAtEnd("<", "<!", "<!-", "<!--", "<!---", "<!----", "<!--a", "<!--a-", "<!--a--", "<!--->", "<!-->");
        Texts.wrongAtLast("<!a", "<!>", "<! ", "<!-a", "<!->", "<!- ", "<!D", "<!<", "<a/><! ", "<a/><!- ", "<a><! ", "<a><!- ");
        Texts.right("<!--" + "x".repeat(229) + "--><a/>");
    }

    /** "An ELEMENT is <, a name, ATTRIBUTES, blanks, and /> (it is empty then), or > and its CONTENT, </, the same name, blanks, >." */
    private static void anElementIsEmptyOrHasContent() {
        Texts.right("<a/>", "<a />", "<a></a>", "<a ></a >", "<a b=''/>", "<a b=''></a>", "<a b='' ></a\n>");
        Texts.wrongAtLast("< ", "<a/ ", "<a/a", "<a//", "<a></ ", "<a></>", "<a>< ", "<a></a/", "<a></a a", "<a></a <", "<a></a=", "<a/></");
        Texts.wrongAtEnd("<", "<a", "<a ", "<a/", "<a>", "<a><", "<a></", "<a></a", "<a></a ", "<a><a/>", "<a><a></a>");
        due("<a></b>", "2 at 5");
        due("<a></aa>", "2 at 5");
        due("<aa></a>", "2 at 6");
        due("<a></A>", "2 at 5");
        Checks.due("an empty one and one without content", Checks.formOf("<a><b/><b></b></a>"), "<a><b></b><b></b></a>");
    }

    /** "An attribute is blanks (one at least), a name, blanks, =, blanks, and a value ..." */
    private static void anAttributeHasOneBlankAtLeast() {
        Texts.right("<a b=''/>", "<a\nb=''/>", "<a b='' c=''/>", "<a b=''\nc=\"\"/>", "<a  b\n= ''  c =\n''/>");
        Texts.wrongAtLast("<a b=''c", "<a b=\"\"c", "<a b=''_", "<a b='':", "<a=", "<a'");
        Texts.wrongAtLast("<a b/", "<a b>", "<a b c", "<a b'", "<a b \"", "<a b==", "<a b= =", "<a =", "<a b:=", "<a 1", "<a -");
    }

    /** "... a value between two \" or two ' characters." */
    private static void anAttributeHasTwoMarksOfOneKind() {
        Texts.right("<a b=''/>", "<a b=\"\"/>", "<a b='\"'/>", "<a b=\"'\"/>", "<a b='\"\"\"'/>");
        Texts.wrongAtEnd("<a b='", "<a b=\"", "<a b='\"/>", "<a b=\"'/>", "<a b='x", "<a b=''", "<a b=''/");
        Texts.wrongAtLast("<a b='''", "<a b=\"\"\"", "<a b=x", "<a b=>", "<a b=/", "<a b=`", "<a b=&", "<a b=1");
    }

    /** "Content is any number of elements, comments, sections, references and other characters ..., in any order." */
    private static void contentIsAnyNumberOfThings() {
        Texts.contentIs("<a></a>", "");
        String[] things = {"<b/>", "<!-- - -->", "<![CDATA[<]]>", "&amp;", "x"};
        String[] meant = {"", "", "<", "&", "x"};
        for (int i = 0; i < things.length; i++) {
            for (int j = 0; j < things.length; j++) {
                Texts.contentIs("<a>" + things[i] + "</a>", meant[i]);
                Texts.contentIs("<a>" + things[i] + things[j] + things[i] + "</a>", meant[i] + meant[j] + meant[i]);
            }
        }
        String plain = Texts.charactersWithout("<&");
        Texts.contentIs("<a>" + plain + "</a>", plain);
        Texts.contentIs("<a>" + "x".repeat(233) + "</a>", "x".repeat(233));
        Texts.contentIs("<a>" + "<!---->".repeat(33) + "</a>", "");
        Texts.contentIs("<a>" + "<![CDATA[]]>".repeat(19) + "</a>", "");
        due("<a>&</a>", "3 at 3");
        Texts.wrongAtLast("<a><<", "<a><&", "<a><]", "<a>x<\n");
    }

    /** "... (but < and &, and not ]]> side by side there) ..." */
    private static void contentHasNoEndOfASection() {
        Texts.wrongAtLast("<a>]]>", "<a>]]]>", "<a>x]]>", "<a>]>]]>", "<a>&#93;]]>", "<a><b/>]]>", "<a><![CDATA[]]>]]>", "<a><!---->]]>");
        Texts.contentIs("<a>]]</a>", "]]");
        Texts.contentIs("<a>]></a>", "]>");
        Texts.contentIs("<a>></a>", ">");
        Texts.contentIs("<a>] ]></a>", "] ]>");
        Texts.contentIs("<a>]]\n></a>", "]]\n>");
        Texts.contentIs("<a>&#93;]></a>", "]]>");
        Texts.contentIs("<a>]&#93;></a>", "]]>");
        Texts.contentIs("<a>]]&#62;</a>", "]]>");
        Texts.contentIs("<a>]]<!---->></a>", "]]>");
        Texts.contentIs("<a>]<b/>]></a>", "]]>");
        Texts.contentIs("<a>]]<b/>></a>", "]]>");
        Texts.contentIs("<a><![CDATA[]]]]>></a>", "]]>");
        Texts.contentIs("<a>]<![CDATA[]]]>></a>", "]]>");
        Texts.contentIs("<a>]]<![CDATA[>]]></a>", "]]>");
        Texts.contentIs("<a><![CDATA[]]>></a>", ">");
    }

    /** "A SECTION is <![CDATA[ and any characters up to the first ]]>, which ends it: these characters." */
    private static void aSectionEndsAtTheFirstEnd() {
        String[] insides = {"", "]", "]]", "]]]", "]] >", "]>", "x]>", "]x>", "]x]>", ">", "<", "&", "&lt;", "<b>", "--", "<![CDATA[",
            "</a>", "\n"};
        for (String inside : insides) {
            Texts.contentIs("<a><![CDATA[" + inside + "]]></a>", inside);
        }
        Texts.contentIs("<a><![CDATA[x]]>]]<![CDATA[y]]></a>", "x]]y");
        Texts.contentIs("<a><![CDATA[" + Texts.CHARACTERS + "]]></a>", Texts.CHARACTERS);
        Texts.contentIs("<a><![CDATA[" + "<".repeat(221) + "]]></a>", "<".repeat(221));
        Texts.wrongAtLast("<a><![CDATA[a]]>]]>", "<a><![CDATA[]]>]]>");
        Texts.wrongAtLast("<a><![c", "<a><![ ", "<a><![CDATa", "<a><![CDATA ", "<a><![CDATA<", "<a><![!", "<a><![[", "<a><![D");
        Texts.wrongAtEnd("<a><![", "<a><![C", "<a><![CD", "<a><![CDA", "<a><![CDAT", "<a><![CDATA", "<a><![CDATA[");
        Texts.wrongAtEnd("<a><![CDATA[x", "<a><![CDATA[]", "<a><![CDATA[]]", "<a><![CDATA[]></a>", "<a><![CDATA[]] ></a>");
    }

    /** "A REFERENCE is & and one of lt; gt; amp; quot; apos; for the characters < > & \" ' or ..." */
    private static void aReferenceIsOneOfFiveWords() {
        String[] words = {"lt", "gt", "amp", "quot", "apos"};
        String meant = "<>&\"'";
        for (int i = 0; i < words.length; i++) {
            String word = words[i];
            Texts.contentIs("<a>&" + word + ";</a>", meant.substring(i, i + 1));
            Checks.due("space of &" + word + ";", Checks.space(Checks.readOf("<a xmlns='&" + word + ";'/>"), 0), meant.substring(i, i + 1));
            dueNoReference("&" + word.toUpperCase() + ";");
            dueNoReference("&" + word + word + ";");
            dueNoReference("& " + word + ";");
            dueNoReference("&" + word + " ;");
            dueNoReference("&" + word + "x;");
            dueNoReference("&" + word + ":");
            for (int end = 0; end <= word.length(); end++) {
                dueNoReference("&" + word.substring(0, end));
                dueNoReference("&" + word.substring(end) + (end == 0 ? " ;" : ";"));
            }
        }
        Texts.contentIs("<a>&amp;lt;</a>", "&lt;");
        Texts.contentIs("<a>&lt;;</a>", "<;");
        for (String other : new String[] {"&", "&;", "&nbsp;", "&a;", "&&", "&<", "&&lt;"}) {
            dueNoReference(other);
        }
    }

    /** The & is told in content and in a value, in front of other things and at the text's end. */
    private static void dueNoReference(String wrong) {
        due("<a>xy" + wrong, "3 at 5");
        due("<a>xy" + wrong + "</a>", "3 at 5");
        due("<a b='\n" + wrong, "3 at 7");
        due("<a b='\n" + wrong + "'/>", "3 at 7");
    }

    /** "... #, digits and ; for the character with that number ..." (and 3: "a number must be that of a character"). */
    private static void aReferenceIsTheNumberOfACharacter() {
        for (int number = 0; number < 400; number++) {
            String decimal = "&#" + number + ";";
            String hex = "&#x" + Integer.toHexString(number) + ";";
            if (Texts.isCharacter(number)) {
                String meant = String.valueOf((char) number);
                Texts.contentIs("<a>" + decimal + hex + hex.toUpperCase().replace('X', 'x') + "</a>", meant + meant + meant);
                String space = Checks.space(Checks.readOf("<a xmlns='" + decimal + hex + "'/>"), 0);
                Checks.due("space of " + decimal, space, meant + meant);
            } else {
                dueNoReference(decimal);
                dueNoReference(hex);
            }
        }
    }

    /** "... digits ... or #x, digits or letters a .. f, A .. F and ; likewise to the base of 16." */
    private static void aReferenceHasDigitsOfItsBase() {
        for (char c : Texts.CHARACTERS.toCharArray()) {
            if (DIGITS.indexOf(c) < 0) {
                dueNoReference("&#" + c + ";");
                dueNoReference("&#6" + c + "5;");
            }
            if ((DIGITS + "abcdefABCDEF").indexOf(c) < 0) {
                dueNoReference("&#x" + c + ";");
                dueNoReference("&#x4" + c + "1;");
            }
        }
        String[] others = {"&#", "&#;", "&#6", "&#65", "&#x", "&#x;", "&#x4", "&#x41", "&#X41;", "&# 65;", "&#65 ;", "&#x 41;", "&x41;"};
        for (String other : others) {
            dueNoReference(other);
        }
        Texts.contentIs("<a>&#x6a;&#x6A;&#x4f;&#x4F;&#x0a;&#x0A;</a>", "jjOO\n\n");
        Texts.contentIs("<a>&#065;&#x0041;&#" + "0".repeat(180) + "65;</a>", "AAA");
        Texts.contentIs("<a>&#x" + "0".repeat(220) + "41;</a>", "A");
    }

    /** A number far above the last character's stays so, however it is counted. */
    private static void aReferenceNumberDoesNotWrapAround() {
        for (int bits = 7; bits <= 130; bits++) {
            for (int low : new int[] {0, 10, 65, 126}) {
                BigInteger number = BigInteger.ONE.shiftLeft(bits).add(BigInteger.valueOf(low));
                due("<a>&#" + number + ";</a>", "3 at 3");
                due("<a>&#x" + number.toString(16) + ";</a>", "3 at 3");
            }
        }
        due("<a>&#" + "9".repeat(230) + ";</a>", "3 at 3");
        due("<a>&#x1" + "0".repeat(228) + ";</a>", "3 at 3");
    }

    /** "A VALUE is any number of references and characters other than < & and its own mark ..." */
    private static void aValueIsAnyNumberOfReferencesAndCharacters() {
        String noMark = Texts.charactersWithout("<&'");
        Texts.formIs("<a b='" + noMark + "'/>", "<a b=\"" + noMark.replace('\n', ' ').replace("\"", "&quot;") + "\"></a>");
        String noMarks = Texts.charactersWithout("<&\"");
        Texts.formIs("<a b=\"" + noMarks + "\"/>", "<a b=\"" + noMarks.replace('\n', ' ') + "\"></a>");
        Texts.formIs("<a b=''/>", "<a b=\"\"></a>");
        Texts.formIs("<a b='&apos;&#39;&quot;'/>", "<a b=\"''&quot;\"></a>");
        Texts.formIs("<a b='" + "x".repeat(231) + "'/>", "<a b=\"" + "x".repeat(231) + "\"></a>");
        Texts.formIs("<a b='" + "&#120;".repeat(38) + "'/>", "<a b=\"" + "x".repeat(38) + "\"></a>");
        Texts.wrongAtLast("<a b='<", "<a b=\"<", "<a b='x<", "<a b='&lt;<", "<a b='&lt;'x");
        due("<a b='&'/>", "3 at 6");
        due("<a b='x&", "3 at 7");
        Texts.right("<a b='>'/>", "<a b=']]>'/>", "<a b='/>'/>", "<a b='--'/>", "<a b='='/>");
    }

    /** "... a LINE in it (not one that a reference stands for) is a space." */
    private static void aLineInAValueIsASpace() {
        Checks.due("a LINE in a space", Checks.space(Checks.readOf("<a xmlns='\n'/>"), 0), " ");
        Checks.due("a LINE by a number", Checks.space(Checks.readOf("<a xmlns='&#10;&#xA;'/>"), 0), "\n\n");
        Checks.due("LINEs in a space", Checks.space(Checks.readOf("<a xmlns='\n\n \n'/>"), 0), "    ");
        Texts.formIs("<a b='\n&#10; '/>", "<a b=\" &#xA; \"></a>");
        Texts.contentIs("<a>\n&#10;<![CDATA[\n]]></a>", "\n\n\n");
        due("<a xmlns:p=' ' xmlns:q='\n' p:b='' q:b=''/>", "8 at 34");
        Texts.right("<a xmlns:p=' ' xmlns:q='&#10;' p:b='' q:b=''/>");
    }
}
