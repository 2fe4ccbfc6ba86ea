/** READING, reason by reason: what is just right, what is just wrong, and the place that is told. */
public final class ReasonsTest {
    private static final String ELEVEN_OPEN = "<a>".repeat(11);
    private static final String ELEVEN_ENDED = "</a>".repeat(11);
    private static final String FULL = "<r>" + "<b/>".repeat(23);
    private static final String SIX_ATTRIBUTES = " a='' b='' c='' d='' e='' xmlns='u'";

    public static void main(String[] args) {
        reason1IsTheFirstCharacterThatCannotGoOn();
        reason1IsTheEndIfNothingElseIsWrong();
        reason1StaysWhateverFollows();
        reason2IsAnotherNameBehindTheEnd();
        reason3IsAnAndThatBeginsNoReference();
        reason4IsAnElementWithin12Others();
        reason4IsThe25thElement();
        reason4IsA7thAttribute();
        reason5IsANameTwice();
        reason6IsAWrongDeclaration();
        reason7IsAPrefixDeclaredNowhere();
        reason8IsALocalPartTwiceInASpace();
        reasons5To8ComeWhenTheTagHasBeenRead();
        reasons5To8ComeInTheirOrder();
        reasons1To4ComeAsTheyAreRead();
        capitalLettersAreOtherOnes();
        Checks.end();
    }

    private static void due(String text, String outcome) {
        Texts.due(text, outcome);
    }

    /** "1 the first character ... with which the text can't be gone on as above ..." */
    private static void reason1IsTheFirstCharacterThatCannotGoOn() {
        Texts.wrongAtLast("a", ">", "&", "/", " x", "<!x", "<!>", "<!-x", "<!->", "<![", "<?", "</", "< ", "<1", "<:", "<-", "<.");
        Texts.wrongAtLast("<!-- -- ", "<!-----", "<!----a", "<!--a---", "<!--a--b");
        Texts.wrongAtLast("<a/>x", "<a/> &", "<a/><b", "<a/></", "<a/><![", "<a/><!x", "<a/><<", "<a/>]", "<a></a>/");
        Texts.wrongAtLast("<a:>", "<a::", "<a:1", "<a: ", "<a:b:", "<a$", "<a/ ", "<a/a", "<a=", "<a<", "<a \"", "<a &", "<a>< ");
        Texts.wrongAtLast("<a></ ", "<a></>", "<a></1", "<a></a/", "<a></a b", "<a></a <", "<a></a:>", "<a></b:>", "<a></b: ", "<a></a$");
        Texts.wrongAtLast("<a b>", "<a b/", "<a b c", "<a b:=", "<a b:c:", "<a b==", "<a b=x", "<a b=>", "<a 1", "<a =");
        Texts.wrongAtLast("<a b='<", "<a b=\"<", "<a b=''c", "<a b='':", "<a b=''=", "<a b='''", "<a b='' '", "<a b=''/ ");
        Texts.wrongAtLast("<a>]]>", "<a>x]]]>", "<a>&amp;]]>", "<a><b/>]]>", "<a><![CDATA[]]>]]>");
        Texts.wrongAtLast("<a><!a", "<a><!-a", "<a><![ ", "<a><![c", "<a><![CDATA ", "<a><![CDATA<", "<a><!- ", "<a><?", "<a><<", "<a><1");
        due("a" + " ".repeat(239), "1 at 0");
        due("<a>" + " ".repeat(234) + "]]>", "1 at 239");
    }

    /** "... (or the end) ...": each beginning of a right text can be gone on, but not ended. */
    private static void reason1IsTheEndIfNothingElseIsWrong() {
        String[] texts = {" \n<!-- - -->\n <a ", "<a b = 'x' c\n=\n\"y\" xmlns:p='u' p:b=''/", "<a ><b></b ><c/><d\n></d\n></a ",
            "<a>x<!-- a-b -->]]<![CDATA[ ]]]]]>]></a", "<!----><!----><p:a xmlns:p='u' xmlns='v'><b/>", "<a/"};
        for (String text : texts) {
            for (int end = 0; end <= text.length(); end++) {
                due(text.substring(0, end), "1 at " + end);
            }
        }
        Texts.right("<a/>", "<a/> ", "<a/>\n\n", "<a/><!---->");
        Texts.wrongAtEnd("<a/><", "<a/><!", "<a/><!-", "<a/><!--", "<a/><!---", "<a/><!----", "<a/> <!-- --");
        due("", "1 at 0");
        due(" ".repeat(240), "1 at 240");
        due("<a b='" + " ".repeat(234), "1 at 240");
    }

    /** "... whatever follows": also what would be wrong in another way, or a whole right text. */
    private static void reason1StaysWhateverFollows() {
        String[] wrong = {"a", "<1", "<a b=''c", "<a>]]>", "<a/>x", "<a><!x", "<a></a:>", "<a b='<", "<!----x"};
        String[] following = {"", ">", "/>", "<a/>", "</a>", "&", "&x", "' b='' b=''/>", "<p:a/>", "-->", "]]>", "\n", ":", "'", "\""};
        for (String beginning : wrong) {
            for (String behind : following) {
                due(beginning + behind, "1 at " + (beginning.length() - 1));
            }
        }
    }

    /** "2 the name behind </ is another one (at its beginning)" */
    private static void reason2IsAnotherNameBehindTheEnd() {
        due("<a></b>", "2 at 5");
        due("<a></ab>", "2 at 5");
        due("<ab></a>", "2 at 6");
        due("<ab></b>", "2 at 6");
        due("<ab></ac>", "2 at 6");
        due("<a></a:b>", "2 at 5");
        due("<p:a xmlns:p='u'></a>", "2 at 19");
        due("<p:a xmlns:p='u'></p>", "2 at 19");
        due("<p:a xmlns:p='u' xmlns:q='u'></q:a>", "2 at 31");
        due("<a><b></a></b>", "2 at 8");
        due("<a><b></b></b></a>", "2 at 12");
        due("<a><b/></b></a>", "2 at 9");
        due("<a></b", "2 at 5");
        due("<a></b ", "2 at 5");
        due("<ab></a", "2 at 6");
        due("<a></b$", "2 at 5");
        due("<a>" + " ".repeat(234) + "</b", "2 at 239");
        Texts.right("<ab></ab>", "<a><a></a></a>", "<a><b></b></a>", "<p:a xmlns:p='u'></p:a>");
    }

    /** "3 an & with which no reference as above begins (at it; a number must be that of a character)" */
    private static void reason3IsAnAndThatBeginsNoReference() {
        due("<a>&", "3 at 3");
        due("<a>&</a>", "3 at 3");
        due("<a>&amp</a>", "3 at 3");
        due("<a>&lt;&amp</a>", "3 at 7");
        due("<a>x<b/>&x;</a>", "3 at 8");
        due("<a b='&'/>", "3 at 6");
        due("<a b='&lt;' c=\"&lt\"/>", "3 at 15");
        due("<a xmlns='&'/>", "3 at 10");
        due("<a>&#31;</a>", "3 at 3");
        due("<a>&#127;</a>", "3 at 3");
        due("<a>&#9;</a>", "3 at 3");
        due("<a>&#11;</a>", "3 at 3");
        due("<a>&#0;</a>", "3 at 3");
        due("<a>" + " ".repeat(236) + "&", "3 at 239");
        Texts.right("<a>&#10;&#32;&#126;&#xA;&#x20;&#x7E;</a>", "<!-- & --><a><!--&--><![CDATA[&]]></a>");
    }

    /** "4 an element that would be within 12 others ..., as soon as its name begins ... (at the element's <)" */
    private static void reason4IsAnElementWithin12Others() {
        Texts.right(ELEVEN_OPEN + "<a/>" + ELEVEN_ENDED, ELEVEN_OPEN + "<a></a>" + ELEVEN_ENDED);
        Texts.right(ELEVEN_OPEN + "<a/><a/><a></a>" + ELEVEN_ENDED);
        Checks.due("elements within one another", Checks.typed(ELEVEN_OPEN + "<a/>" + ELEVEN_ENDED).read(), 12);
        due(ELEVEN_OPEN + "<a><a/></a>" + ELEVEN_ENDED, "4 at 36");
        due(ELEVEN_OPEN + "<a><a></a></a>" + ELEVEN_ENDED, "4 at 36");
        due(ELEVEN_OPEN + "<a><a", "4 at 36");
        due(ELEVEN_OPEN + "<a>x<_1$", "4 at 37");
        due(ELEVEN_OPEN + "<a><a:", "4 at 36");
        due(ELEVEN_OPEN + "<a><", "1 at 37");
        due(ELEVEN_OPEN + "<a><:", "1 at 37");
        due(ELEVEN_OPEN + "<a><1", "1 at 37");
        due(ELEVEN_OPEN + "<a>< a", "1 at 37");
        due(ELEVEN_OPEN + "<a/></a><b><c><d", "4 at 47");
        Texts.right(ELEVEN_OPEN + "<a><!-- --><![CDATA[<b>]]></a>" + ELEVEN_ENDED);
    }

    /** "... or the 25th one, as soon as its name begins ... (at the element's <)" */
    private static void reason4IsThe25thElement() {
        Texts.right(FULL + "</r>", FULL + "<!-- <b/> --><![CDATA[<b/>]]></r>");
        Checks.due("elements in a full tree", Checks.typed(FULL + "</r>").read(), 24);
        due(FULL + "<b/></r>", "4 at 95");
        due(FULL + "<b></b></r>", "4 at 95");
        due(FULL + "<b", "4 at 95");
        due(FULL + "x<_$", "4 at 96");
        due(FULL + "<", "1 at 96");
        due(FULL + "<1", "1 at 96");
        due(FULL + "< b", "1 at 96");
        due(FULL + "</r><b", "1 at 100");
        due(FULL + "</x>", "2 at 97");
        due("<a>" + "<a/>".repeat(10) + "<a>" + "<a/>".repeat(12) + "</a><a/>", "4 at 98");
    }

    /** "... or that has a 7th attribute, as soon as that begins (at the element's <)." */
    private static void reason4IsA7thAttribute() {
        int end = 2 + SIX_ATTRIBUTES.length();
        Texts.right("<a" + SIX_ATTRIBUTES + "/>", "<a" + SIX_ATTRIBUTES + " \n></a>", "<a" + SIX_ATTRIBUTES + "\n/>");
        Texts.right("<a a='' b='' c='' d='' e='' f=''/>", "<a xmlns='1' xmlns:a='2' xmlns:b='3' xmlns:c='4' xmlns:d='5' xmlns:e='6'/>");
        Texts.right("<a" + SIX_ATTRIBUTES + "><b" + SIX_ATTRIBUTES + "/></a>");
        due("<a" + SIX_ATTRIBUTES + " g=''/>", "4 at 0");
        due("<a" + SIX_ATTRIBUTES + " g", "4 at 0");
        due("<a" + SIX_ATTRIBUTES + " _$", "4 at 0");
        due("<a" + SIX_ATTRIBUTES + "\n \na", "4 at 0");
        due("<a" + SIX_ATTRIBUTES + " xmlns:p=''/>", "4 at 0");
        due("<r><a" + SIX_ATTRIBUTES + "\ng=''/></r>", "4 at 3");
        due("<!-- --><a" + SIX_ATTRIBUTES + " g=''/>", "4 at 8");
        due("<a" + SIX_ATTRIBUTES + " 1", "1 at " + (end + 1));
        due("<a" + SIX_ATTRIBUTES + " :", "1 at " + (end + 1));
        due("<a" + SIX_ATTRIBUTES + "g", "1 at " + end);
        due("<a" + SIX_ATTRIBUTES + " ", "1 at " + (end + 1));
    }

    /** "5 an attribute has the same name as one before it (at its name)" */
    private static void reason5IsANameTwice() {
        due("<a b='1' b='2'/>", "5 at 9");
        due("<a b='1'\n\nb='1'/>", "5 at 10");
        due("<a b='' c='' d='' c='' b=''/>", "5 at 18");
        due("<a a='' b='' c='' d='' e='' a=''/>", "5 at 28");
        due("<a a='' b='' c='' d='' e='' e=''/>", "5 at 28");
        due("<a xmlns='u' xmlns='u'/>", "5 at 13");
        due("<a xmlns='' xmlns=''/>", "5 at 12");
        due("<a xmlns:p='u' xmlns:p='v'/>", "5 at 15");
        due("<a xmlns:p='u' p:b='' p:b=''/>", "5 at 22");
        due("<a><b c='' c=''></b></a>", "5 at 11");
        Texts.right("<a b='' b.='' bb='' b1=''/>", "<a b=''><b b=''/></a>", "<a b='' xmlns:b='u' b:b=''/>", "<a a=''/>");
    }

    /** "6 a declaration of the prefix xml or xmlns, or of a prefix with an empty value (at its name), the first one of these" */
    private static void reason6IsAWrongDeclaration() {
        due("<a xmlns:p=''/>", "6 at 3");
        due("<a xmlns:xml='u'/>", "6 at 3");
        due("<a xmlns:xmlns='u'/>", "6 at 3");
        due("<a xmlns:xml=''/>", "6 at 3");
        due("<a b='' xmlns:q='u' xmlns:xml='u' xmlns:p=''/>", "6 at 20");
        due("<a b='' xmlns:q='u' xmlns:p='' xmlns:xml='u'/>", "6 at 20");
        due("<a xmlns:xmlns='u' xmlns:p='' xmlns:xml='u'/>", "6 at 3");
        due("<a xmlns:p='u'><b xmlns:p=''/></a>", "6 at 18");
        due("<a a='' b='' c='' d='' e='' xmlns:p=''/>", "6 at 28");
        Texts.right("<a xmlns=''/>", "<a xmlns:p=' '/>", "<a xmlns:p='\n'/>", "<a xmlns:p='&#10;'/>", "<a xmlns:XML='u'/>");
        Texts.right("<a xmlns:xmlx='u' xmlns:xm='u' xmlns:yml='u' xmlns:xmln='u' xmlns:xmlnsx='u'/>", "<a xmlns:Xml='u' xmlns:XMLNS='u'/>");
        Texts.right("<a xmlns:p='u'><b xmlns=''/></a>", "<a xmlns='xml'/>", "<a xml=''/>", "<a xmlns:p='xmlns' p:xml=''/>");
    }

    /**
     * "7 the prefix of the element's name, or of an attribute that is no declaration, is declared nowhere
     * (at its name), the first one of these"
     */
    private static void reason7IsAPrefixDeclaredNowhere() {
        due("<p:a/>", "7 at 1");
        due(" <p:a></p:a>", "7 at 2");
        due("<a p:b=''/>", "7 at 3");
        due("<p:a xmlns='u'/>", "7 at 1");
        due("<p:a q:b=''/>", "7 at 1");
        due("<p:a q:b='' xmlns:q='u'/>", "7 at 1");
        due("<p:a q:b='' xmlns:p='u'/>", "7 at 5");
        due("<a b='' p:b='' q:c='' xmlns:q='u'/>", "7 at 8");
        due("<a xmlns:q='u' q:a='' a='' b='' c='' p:b=''/>", "7 at 37");
        due("<xml:a/>", "7 at 1");
        due("<xmlns:a/>", "7 at 1");
        due("<a xml:b=''/>", "7 at 3");
        due("<pp:a xmlns:p='u'/>", "7 at 1");
        due("<p:a xmlns:pp='u'/>", "7 at 1");
        due("<p:a p='u' xmlns:q='p'/>", "7 at 1");
        Texts.right("<p:a p:b='' xmlns:p='u'/>", "<a xmlns:p='u'><b><p:c p:d=''/></b></a>", "<xmlns xmlns='u'/>", "<a xmlns:p='u'/>");
    }

    /** "8 an attribute, no declaration, belongs to a space to which one before it with the same local part belongs (at its name)" */
    private static void reason8IsALocalPartTwiceInASpace() {
        due("<a xmlns:p='u' xmlns:q='u' p:x='1' q:x='2'/>", "8 at 35");
        due("<a p:x='' q:x='' xmlns:p='u' xmlns:q='u'/>", "8 at 10");
        due("<a xmlns:p='A' xmlns:q='&#65;' q:x='' b='' p:x=''/>", "8 at 43");
        due("<a xmlns:p='u'><b xmlns:q='u' q:x='' p:x=''/></a>", "8 at 37");
        due("<a xmlns:p='u' xmlns:q='u' p:x='' q:y='' p:y='' q:x=''/>", "8 at 41");
        due("<a xmlns:p='u' xmlns:q='u'><b><c p:x='' q:x=''/></b></a>", "8 at 40");
        Texts.right("<a xmlns:p='u' xmlns:q='v' p:x='' q:x=''/>", "<a xmlns:p='u' xmlns:q='u' p:x='' q:y=''/>");
        Texts.right("<a xmlns='u' xmlns:p='u' x='' p:x=''/>", "<a xmlns:p='u'><b xmlns:p='v' xmlns:q='u' p:x='' q:x=''/></a>");
        Texts.right("<a xmlns:p='u' xmlns:q='uu' p:x='' q:x=''/>", "<a xmlns:b='u' xmlns:c='u' b:b=''/>",
                "<a xmlns:p='u' p:p='' p:xmlns=''/>");
        Texts.right("<a xmlns:p='u' xmlns:q='u' p:x='' q:xx='' p:xy=''/>", "<a xmlns:p='u' xmlns:q='u' p:x=''><b q:x=''/></a>");
    }

    /** "When the tag at the beginning of an element has been read, and before its content: ..." */
    private static void reasons5To8ComeWhenTheTagHasBeenRead() {
        String[] tags = {"<a b='' b=''", "<a xmlns:p=''", "<p:a", "<a xmlns:p='u' xmlns:q='u' p:b='' q:b=''"};
        String[] outcomes = {"5 at 8", "6 at 3", "7 at 1", "8 at 34"};
        for (int i = 0; i < tags.length; i++) {
            int end = tags[i].length();
            due(tags[i], "1 at " + end);
            due(tags[i] + " ", "1 at " + (end + 1));
            due(tags[i] + "/", "1 at " + (end + 1));
            due(tags[i] + "/ ", "1 at " + (end + 1));
            due(tags[i] + "$", "1 at " + end);
            due(tags[i] + " c='&'>", "3 at " + (end + 4));
            for (String behind : new String[] {"/>", ">", ">&", "></x>", "/>x", ">]]>", ">" + "<a".repeat(20), " \n/>"}) {
                due(tags[i] + behind, outcomes[i]);
            }
        }
    }

    /** "5 ...; then, 6 ...; then 7 ...; then 8 ...": whichever stands first in the tag. */
    private static void reasons5To8ComeInTheirOrder() {
        due("<p:a xmlns:q='' b='' b=''/>", "5 at 21");
        due("<a xmlns:q='' xmlns:q=''/>", "5 at 14");
        due("<p:a xmlns:q=''/>", "6 at 5");
        due("<p:a xmlns:p=''/>", "6 at 5");
        due("<a p:b='' xmlns:xml='u'/>", "6 at 10");
        due("<p:a xmlns:q='u' xmlns:r='u' q:x='' r:x=''/>", "7 at 1");
        due("<a xmlns:q='u' xmlns:r='u' q:x='' r:x='' p:x=''/>", "7 at 41");
        due("<a q:x='' r:x='' r:x='' xmlns:q='u' xmlns:r='u'/>", "5 at 17");
        due("<a q:x='' r:x='' xmlns:s='' xmlns:q='u' xmlns:r='u'/>", "6 at 17");
    }

    /** "READING goes from the first character on ..." */
    private static void reasons1To4ComeAsTheyAreRead() {
        due("<a>&x</b>", "3 at 3");
        due("<a></b>&", "2 at 5");
        due("<a>]]>&", "1 at 5");
        due("<a>&]]>", "3 at 3");
        due("<a b=''c='&'/>", "1 at 7");
        due("<a><b></a>&", "2 at 8");
        due(ELEVEN_OPEN + "<a>&<b>", "3 at 36");
        due(ELEVEN_OPEN + "<a><b>&", "4 at 36");
        due("<a" + SIX_ATTRIBUTES + " a='&'/>", "4 at 0");
        due("<a" + SIX_ATTRIBUTES.replace("''", "'&'") + " g=''/>", "3 at 6");
    }

    /** "(Characters are compared as they are; capital letters are other ones.)" */
    private static void capitalLettersAreOtherOnes() {
        due("<a></A>", "2 at 5");
        due("<A></a>", "2 at 5");
        due("<P:a xmlns:p='u'/>", "7 at 1");
        due("<p:a xmlns:p='u'></P:a>", "2 at 19");
        due("<a XMLNS:p='u'/>", "7 at 3");
        Texts.right("<a b='' B=''/>", "<a xmlns:p='u' xmlns:P='v'/>", "<a xmlns:p='u' xmlns:q='U' p:x='' q:x=''/>");
        Texts.right("<a xmlns:p='u' xmlns:q='u' p:x='' q:X=''/>", "<a XMLNS=''/>", "<a xmlns:XML='u'/>");
        Texts.formIs("<a xmlns='u'><b xmlns='U'/></a>", "<a xmlns=\"u\"><b xmlns=\"U\"></b></a>");
    }
}
