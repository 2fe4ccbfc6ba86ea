/** THE FORM: which declarations are written, in which order, and with which characters. */
public final class FormTest {
    public static void main(String[] args) {
        elements();
        characters();
        declarations();
        order();
        Checks.end();
    }

    private static void due(String text, String form) {
        MarkupReader reader = Checks.typed(text);
        Checks.due("read of " + text, Checks.outcome(reader), "right");
        Checks.due("form of " + text, Checks.form(reader), form);
        Checks.due("length of the form of " + text, reader.form(), form.length());
    }

    private static void same(String text) {
        due(text, text);
    }

    private static void elements() {
        due("<a/>", "<a></a>");
        due(" <!-- x --> <a\n/> <!-- y -->\n", "<a></a>");
        due("<a><b/>1<c>2</c>3<b  >4</b >5</a\n>", "<a><b></b>1<c>2</c>3<b>4</b>5</a>");
        due("<a>\n <b/>\n</a>", "<a>\n <b></b>\n</a>");
        due("<a>1<!-- x -->2<![CDATA[3]]>4</a>", "<a>1234</a>");
        same("<a><b><c></c></b><d></d></a>");
    }

    private static void characters() {
        due("<a>&lt;&gt;&amp;&quot;&apos;&#10;\"'></a>", "<a>&lt;&gt;&amp;\"'\n\"'&gt;</a>");
        due("<a><![CDATA[<>&\"'\n&lt;]]></a>", "<a>&lt;&gt;&amp;\"'\n&amp;lt;</a>");
        due("<a b='&lt;&gt;&amp;&quot;&apos;&#10;\n\">'/>", "<a b=\"&lt;>&amp;&quot;'&#xA; &quot;>\"></a>");
        due("<a b=\"'\"/>", "<a b=\"'\"></a>");
        due("<a xmlns='&#10;&amp;&lt;\"'/>", "<a xmlns=\"&#xA;&amp;&lt;&quot;\"></a>");
        due("<a>]]&#62;]]</a>", "<a>]]&gt;]]</a>");
    }

    private static void declarations() {
        due("<a xmlns=''/>", "<a></a>");
        same("<a xmlns=\"u\"></a>");
        same("<a xmlns=\"u\"><b xmlns=\"\"><c xmlns=\"u\"></c></b></a>");
        due("<a xmlns='u'><b xmlns='u'><c xmlns=''><d xmlns=''/></c></b></a>",
                "<a xmlns=\"u\"><b><c xmlns=\"\"><d></d></c></b></a>");
        due("<a xmlns:p='u'><b xmlns:p='u'><p:c xmlns:p='v'><d xmlns:p='u'/></p:c></b></a>",
                "<a xmlns:p=\"u\"><b><p:c xmlns:p=\"v\"><d xmlns:p=\"u\"></d></p:c></b></a>");
        due("<a xmlns:p='A'><b xmlns:p='&#65;'/></a>", "<a xmlns:p=\"A\"><b></b></a>");
        due("<a><b xmlns:p='u'/><b xmlns:p='u'/></a>", "<a><b xmlns:p=\"u\"></b><b xmlns:p=\"u\"></b></a>");
        due("<a xmlns='u'><b xmlns:p='u'/></a>", "<a xmlns=\"u\"><b xmlns:p=\"u\"></b></a>");
        due("<a xmlns:p='u'><b xmlns:q='u'/></a>", "<a xmlns:p=\"u\"><b xmlns:q=\"u\"></b></a>");
    }

    private static void order() {
        due("<a c='' b='' B='' _=''/>", "<a B=\"\" _=\"\" b=\"\" c=\"\"></a>");
        due("<a bb='' b='' b.='' b-='' b1=''/>", "<a b=\"\" b-=\"\" b.=\"\" b1=\"\" bb=\"\"></a>");
        due("<a xmlns:q='1' xmlns:pp='2' xmlns='3' xmlns:p='4'/>",
                "<a xmlns=\"3\" xmlns:p=\"4\" xmlns:pp=\"2\" xmlns:q=\"1\"></a>");
        due("<a a='' xmlns:z='u' b='' xmlns='v'/>", "<a xmlns=\"v\" xmlns:z=\"u\" a=\"\" b=\"\"></a>");
        due("<a q:a='' z='' p:a='' xmlns:p='v' xmlns:q='u'/>",
                "<a xmlns:p=\"v\" xmlns:q=\"u\" z=\"\" q:a=\"\" p:a=\"\"></a>");
        due("<a q:c='' p:b='' q:a='' xmlns:p='u' xmlns:q='u'/>",
                "<a xmlns:p=\"u\" xmlns:q=\"u\" q:a=\"\" p:b=\"\" q:c=\"\"></a>");
        due("<a q:a='' p:b='' xmlns:p='u' xmlns:q='uu'/>",
                "<a xmlns:p=\"u\" xmlns:q=\"uu\" p:b=\"\" q:a=\"\"></a>");
        due("<a q:a='' p:b='' xmlns:p='&lt;' xmlns:q='a'/>",
                "<a xmlns:p=\"&lt;\" xmlns:q=\"a\" p:b=\"\" q:a=\"\"></a>");
    }
}
