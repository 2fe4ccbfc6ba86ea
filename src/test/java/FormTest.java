/** THE FORM, sentence by sentence: what is written, in which order, and with which characters. */
public final class FormTest {
    public static void main(String[] args) {
        eachElementHasTwoTags();
        sectionsAndReferencesAreCharacters();
        commentsAreNotWritten();
        charactersInContent();
        charactersInValues();
        declarationsThatSayNothingElseAreNotWritten();
        whatHoldsForTheOutermostElement();
        declarationsComeFirst();
        declarationsAreInTheOrderOfTheirPrefixes();
        attributesOfNoSpaceAreInTheOrderOfTheirLocalParts();
        attributesAreInTheOrderOfTheirSpaces();
        whatAnotherOneBeginsWithIsFirst();
        fullTreesHaveWholeForms();
        Checks.end();
    }

    private static void due(String text, String form) {
        Texts.formIs(text, form);
    }

    private static void same(String text) {
        due(text, text);
    }

    /** "for each element, <, its name, declarations, attributes, >, its content, </, its name, >." */
    private static void eachElementHasTwoTags() {
        due("<a/>", "<a></a>");
        due("<a />", "<a></a>");
        due("<a></a\n>", "<a></a>");
        due("<p:a xmlns:p='u'/>", "<p:a xmlns:p=\"u\"></p:a>");
        due("<a><b/>1<c>2</c>3<b  >4</b >5</a\n>", "<a><b></b>1<c>2</c>3<b>4</b>5</a>");
        due("<a>\n <b/>\n</a>\n", "<a>\n <b></b>\n</a>");
        same("<a><b><c></c></b><d></d></a>");
    }

    /** "In content (without comments; sections and references are characters) ..." */
    private static void sectionsAndReferencesAreCharacters() {
        due("<a>1<![CDATA[2]]>3&#52;5</a>", "<a>12345</a>");
        due("<a><![CDATA[]]></a>", "<a></a>");
        due("<a><![CDATA[&lt;]]>&lt;</a>", "<a>&amp;lt;&lt;</a>");
        due("<a><![CDATA[<b/>]]></a>", "<a>&lt;b/&gt;</a>");
    }

    /** "... without comments ...", wherever they are. */
    private static void commentsAreNotWritten() {
        due("<!-- x --> <a/> <!-- y -->\n", "<a></a>");
        due("<a><!-- x --></a>", "<a></a>");
        due("<a>1<!-- <b/> -->2</a>", "<a>12</a>");
        due("<a> <!-- --> </a>", "<a>  </a>");
    }

    /** "... & < > are &amp; &lt; &gt; here.": these three, and no other character. */
    private static void charactersInContent() {
        due("<a>&lt;&gt;&amp;&quot;&apos;&#10;\"'></a>", "<a>&lt;&gt;&amp;\"'\n\"'&gt;</a>");
        due("<a><![CDATA[<>&\"'\n]]></a>", "<a>&lt;&gt;&amp;\"'\n</a>");
        String written = Texts.CHARACTERS.replace("&", "&amp;").replace("<", "&lt;").replace(">", "&gt;");
        due("<a><![CDATA[" + Texts.CHARACTERS + "]]></a>", "<a>" + written + "</a>");
        due("<a>]]&#62;]]</a>", "<a>]]&gt;]]</a>");
    }

    /** "In values, & < \" are &amp; &lt; &quot; and a LINE is &#xA; here.": these, and no other character. */
    private static void charactersInValues() {
        due("<a b='&lt;&gt;&amp;&quot;&apos;&#10;\n\">'/>", "<a b=\"&lt;>&amp;&quot;'&#xA; &quot;>\"></a>");
        due("<a xmlns='&#10;&amp;&lt;\"'/>", "<a xmlns=\"&#xA;&amp;&lt;&quot;\"></a>");
        due("<a xmlns:p='&#10;&amp;&lt;\"'/>", "<a xmlns:p=\"&#xA;&amp;&lt;&quot;\"></a>");
        for (char c : Texts.CHARACTERS.toCharArray()) {
            String written = c == '&' ? "&amp;" : c == '<' ? "&lt;" : c == '"' ? "&quot;" : c == '\n' ? "&#xA;" : String.valueOf(c);
            due("<a b='&#" + (int) c + ";'/>", "<a b=\"" + written + "\"></a>");
        }
    }

    /** "Of its declarations those are written that say something else than what holds for the element around it ..." */
    private static void declarationsThatSayNothingElseAreNotWritten() {
        due("<a xmlns='u'><b xmlns='u'/></a>", "<a xmlns=\"u\"><b></b></a>");
        due("<a xmlns:p='u'><b xmlns:p='u'/></a>", "<a xmlns:p=\"u\"><b></b></a>");
        due("<a xmlns='u'><b><c xmlns='u'/></b></a>", "<a xmlns=\"u\"><b><c></c></b></a>");
        due("<a xmlns='u'><b xmlns='u'><c xmlns=''><d xmlns=''/></c></b></a>",
                "<a xmlns=\"u\"><b><c xmlns=\"\"><d></d></c></b></a>");
        due("<a xmlns:p='u'><b xmlns:p='u'><p:c xmlns:p='v'><d xmlns:p='u'/></p:c></b></a>",
                "<a xmlns:p=\"u\"><b><p:c xmlns:p=\"v\"><d xmlns:p=\"u\"></d></p:c></b></a>");
        due("<a xmlns:p='A'><b xmlns:p='&#65;'/></a>", "<a xmlns:p=\"A\"><b></b></a>");
        due("<a xmlns:p=' '><b xmlns:p='\n'/></a>", "<a xmlns:p=\" \"><b></b></a>");
        due("<a><b xmlns:p='u'/><b xmlns:p='u'/></a>", "<a><b xmlns:p=\"u\"></b><b xmlns:p=\"u\"></b></a>");
        due("<a xmlns='u'><b xmlns:p='u'/></a>", "<a xmlns=\"u\"><b xmlns:p=\"u\"></b></a>");
        due("<a xmlns:p='u'><b xmlns='u'/></a>", "<a xmlns:p=\"u\"><b xmlns=\"u\"></b></a>");
        due("<a xmlns:p='u'><b xmlns:q='u'/></a>", "<a xmlns:p=\"u\"><b xmlns:q=\"u\"></b></a>");
        due("<a xmlns='u'><b xmlns='uu'/></a>", "<a xmlns=\"u\"><b xmlns=\"uu\"></b></a>");
        due("<a xmlns='uu'><b xmlns='u'/></a>", "<a xmlns=\"uu\"><b xmlns=\"u\"></b></a>");
        due("<a xmlns:p='u'><b xmlns:q='w' xmlns:p='u' c='' xmlns='v'/></a>",
                "<a xmlns:p=\"u\"><b xmlns=\"v\" xmlns:q=\"w\" c=\"\"></b></a>");
    }

    /** "... (for the outermost one: no space for no prefix, nothing for prefixes)." */
    private static void whatHoldsForTheOutermostElement() {
        due("<a xmlns=''/>", "<a></a>");
        due("<a xmlns='' b=''/>", "<a b=\"\"></a>");
        due("<a><b xmlns=''/></a>", "<a><b></b></a>");
        due("<a xmlns=''><b xmlns=''/></a>", "<a><b></b></a>");
        same("<a xmlns=\"u\"></a>");
        same("<a xmlns=\" \"></a>");
        same("<a xmlns:p=\"u\"></a>");
        same("<a xmlns=\"u\"><b xmlns=\"\"><c xmlns=\"u\"></c></b></a>");
    }

    /** "... declarations, attributes ...; In front of each of them there is a space; then the name, =, and the value between \" marks." */
    private static void declarationsComeFirst() {
        due("<a  a = 'x'  xmlns:z\n=\n'u' b=\"y\" xmlns='v'/>", "<a xmlns=\"v\" xmlns:z=\"u\" a=\"x\" b=\"y\"></a>");
        due("<a p:a='' xmlns:p='u'/>", "<a xmlns:p=\"u\" p:a=\"\"></a>");
        due("<p:a A='' xmlns:p='u'/>", "<p:a xmlns:p=\"u\" A=\"\"></p:a>");
    }

    /** "First that of no prefix, then by prefix ..." */
    private static void declarationsAreInTheOrderOfTheirPrefixes() {
        due("<a xmlns:q='1' xmlns:pp='2' xmlns='3' xmlns:p='4'/>",
                "<a xmlns=\"3\" xmlns:p=\"4\" xmlns:pp=\"2\" xmlns:q=\"1\"></a>");
        due("<a xmlns:b='1' xmlns:_='2' xmlns:a='3' xmlns:Z='4' xmlns:A='5' xmlns='6'/>",
                "<a xmlns=\"6\" xmlns:A=\"5\" xmlns:Z=\"4\" xmlns:_=\"2\" xmlns:a=\"3\" xmlns:b=\"1\"></a>");
        due("<a xmlns:ab='1' xmlns:a.='2' xmlns:a-='3' xmlns:a9='4' xmlns:a='5'/>",
                "<a xmlns:a=\"5\" xmlns:a-=\"3\" xmlns:a.=\"2\" xmlns:a9=\"4\" xmlns:ab=\"1\"></a>");
    }

    /** "... and then the attributes: first those that belong to no space, by their local parts ..." */
    private static void attributesOfNoSpaceAreInTheOrderOfTheirLocalParts() {
        due("<a c='' b='' B='' _=''/>", "<a B=\"\" _=\"\" b=\"\" c=\"\"></a>");
        due("<a f='6' e='5' d='4' c='3' b='2' a='1'/>", "<a a=\"1\" b=\"2\" c=\"3\" d=\"4\" e=\"5\" f=\"6\"></a>");
        due("<a q:a='' z='' p:a='' xmlns:p='v' xmlns:q='u'/>",
                "<a xmlns:p=\"v\" xmlns:q=\"u\" z=\"\" q:a=\"\" p:a=\"\"></a>");
        due("<a xmlns='0' xmlns:p='1' p:a='' z=''/>", "<a xmlns=\"0\" xmlns:p=\"1\" z=\"\" p:a=\"\"></a>");
    }

    /** "... then by space, and then by local part ..." */
    private static void attributesAreInTheOrderOfTheirSpaces() {
        due("<a q:a='' p:b='' xmlns:p='u' xmlns:q='v'/>", "<a xmlns:p=\"u\" xmlns:q=\"v\" p:b=\"\" q:a=\"\"></a>");
        due("<a q:b='' p:a='' xmlns:p='v' xmlns:q='u'/>", "<a xmlns:p=\"v\" xmlns:q=\"u\" q:b=\"\" p:a=\"\"></a>");
        due("<a q:c='' p:b='' q:a='' xmlns:p='u' xmlns:q='u'/>",
                "<a xmlns:p=\"u\" xmlns:q=\"u\" q:a=\"\" p:b=\"\" q:c=\"\"></a>");
        due("<a q:a='' p:b='' xmlns:p='&lt;' xmlns:q='a'/>",
                "<a xmlns:p=\"&lt;\" xmlns:q=\"a\" p:b=\"\" q:a=\"\"></a>");
        due("<a xmlns:p='b' xmlns:q='a'><b p:x='' q:x=''><c xmlns:q='c' p:x='' q:x=''/></b></a>",
                "<a xmlns:p=\"b\" xmlns:q=\"a\"><b q:x=\"\" p:x=\"\"><c xmlns:q=\"c\" p:x=\"\" q:x=\"\"></c></b></a>");
    }

    /** "(all by their characters, one by one; what another one begins with is first)" */
    private static void whatAnotherOneBeginsWithIsFirst() {
        due("<a bb='' b='' b.='' b-='' b1=''/>", "<a b=\"\" b-=\"\" b.=\"\" b1=\"\" bb=\"\"></a>");
        due("<a abc='' ab='' a='' b=''/>", "<a a=\"\" ab=\"\" abc=\"\" b=\"\"></a>");
        due("<a q:a='' p:b='' xmlns:p='u' xmlns:q='uu'/>",
                "<a xmlns:p=\"u\" xmlns:q=\"uu\" p:b=\"\" q:a=\"\"></a>");
        due("<a q:a='' p:b='' xmlns:p='u ' xmlns:q='u&#10;'/>",
                "<a xmlns:p=\"u \" xmlns:q=\"u&#xA;\" q:a=\"\" p:b=\"\"></a>");
        due("<a p:ab='' p:a='' xmlns:p='u'/>", "<a xmlns:p=\"u\" p:a=\"\" p:ab=\"\"></a>");
    }

    /** As many elements, as deep and with as many attributes as there can be, and the longest forms. */
    private static void fullTreesHaveWholeForms() {
        due("<r>" + "<b/>".repeat(23) + "</r>", "<r>" + "<b></b>".repeat(23) + "</r>");
        due("<a>".repeat(11) + "<a/>" + "</a>".repeat(11), "<a>".repeat(12) + "</a>".repeat(12));
        due("<a xmlns:b='6' xmlns:a='5' xmlns='4' b:a='3' a:a='2' a='1'/>",
                "<a xmlns=\"4\" xmlns:a=\"5\" xmlns:b=\"6\" a=\"1\" a:a=\"2\" b:a=\"3\"></a>");
        String name = "n".repeat(237);
        due("<" + name + "/>", "<" + name + "></" + name + ">");
        due("<a b='" + "\"".repeat(231) + "'/>", "<a b=\"" + "&quot;".repeat(231) + "\"></a>");
        due("<a><![CDATA[" + "&".repeat(221) + "]]></a>", "<a>" + "&amp;".repeat(221) + "</a>");
        due("<a>" + ">".repeat(233) + "</a>", "<a>" + "&gt;".repeat(233) + "</a>");
    }
}
