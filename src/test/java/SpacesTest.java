/** SPACES, sentence by sentence: what is a declaration, how far it holds, which names it is for. */
public final class SpacesTest {
    public static void main(String[] args) {
        declarationsAreXmlnsOrHaveItAsPrefix();
        otherNamesAreNoDeclarations();
        aDeclarationHoldsForItsElementAndAllInThat();
        anotherOneWithinDeclaresTheSame();
        forNoPrefixAnEmptyValueMeansNoSpace();
        anElementBelongsToTheSpaceOfItsPrefix();
        anAttributeWithoutAPrefixBelongsToNoSpace();
        theSpaceIsTheValue();
        Checks.end();
    }

    private static void spaceIs(String text, int e, String space) {
        CountedReader reader = Checks.readOf(text);
        Checks.due("space of element " + e + " in " + text, Checks.space(reader, e), space);
        Checks.due("its length", reader.element(e, 4), space.isEmpty() ? -1 : space.length());
    }

    private static void attributesAre(String text, int number) {
        Checks.due("attributes in " + text, Checks.readOf(text).element(0, 2), number);
    }

    /** "An attribute with the name xmlns, or with the prefix xmlns, is a DECLARATION: of no prefix, or of its local part." */
    private static void declarationsAreXmlnsOrHaveItAsPrefix() {
        spaceIs("<a xmlns='u'/>", 0, "u");
        spaceIs("<p:a xmlns:p='u'/>", 0, "u");
        spaceIs("<a xmlns:p='u'/>", 0, "");
        spaceIs("<p:a xmlns='v' xmlns:p='u'/>", 0, "u");
        attributesAre("<a/>", 0);
        attributesAre("<a xmlns='u'/>", 0);
        attributesAre("<a xmlns=''/>", 0);
        attributesAre("<a xmlns:p='u'/>", 0);
        attributesAre("<a xmlns:p='u' b='' xmlns='v' p:b='' xmlns:q='w' c=''/>", 3);
    }

    /** The names next to xmlns, and xmlns itself in other places, declare nothing. */
    private static void otherNamesAreNoDeclarations() {
        for (String name : new String[] {"xmln", "xmlnsa", "xmlns.", "Xmlns", "XMLNS", "xmlnS", "ymlns", "_xmlns", "xmlns-", "xmlns1"}) {
            attributesAre("<a " + name + "='u'/>", 1);
            spaceIs("<a " + name + "='u'/>", 0, "");
            Texts.due("<a " + name + ":p='u'/>", "7 at 3");
            Texts.right("<a xmlns:" + name + "='u' " + name + ":xmlns=''/>");
            attributesAre("<a xmlns:" + name + "='u' " + name + ":xmlns=''/>", 1);
        }
        spaceIs("<xmlns a=''/>", 0, "");
        spaceIs("<p:xmlns xmlns:p='u' p:xmlns='v'/>", 0, "u");
    }

    /** "It holds for its element and all in that ..." */
    private static void aDeclarationHoldsForItsElementAndAllInThat() {
        String deep = "<a>".repeat(10) + "<p:a/>" + "</a>".repeat(10);
        spaceIs("<p:b xmlns:p='u'>" + deep + "</p:b>", 11, "u");
        spaceIs("<b xmlns='u'>" + deep.replace("p:", "") + "</b>", 11, "u");
        spaceIs("<a><b xmlns='u'/><c/></a>", 1, "u");
        spaceIs("<a><b xmlns='u'/><c/></a>", 0, "");
        spaceIs("<a><b xmlns='u'/><c/></a>", 2, "");
        spaceIs("<a><b xmlns='u'><d/></b><c/></a>", 2, "u");
        spaceIs("<a><b xmlns='u'><d/></b><c/></a>", 3, "");
        Texts.due("<a><b xmlns:p='u'/><p:c/></a>", "7 at 20");
        Texts.due("<a><b xmlns:p='u'></b><p:c/></a>", "7 at 23");
        Texts.due("<p:a><b xmlns:p='u'/></p:a>", "7 at 1");
        Texts.due("<a><b xmlns:p='u'><c/></b><c p:d=''/></a>", "7 at 29");
        Texts.right("<p:a p:b='' xmlns:p='u'/>", "<a p:b='' xmlns:p='u'/>", "<a xmlns:p='u'><b><c p:d=''/></b></a>");
    }

    /** "... unless another one within declares the same: the value is the SPACE ..." */
    private static void anotherOneWithinDeclaresTheSame() {
        String text = "<p:a xmlns:p='1'><p:b xmlns:p='2'><p:c xmlns:p='1'><p:d/></p:c><p:e/></p:b><p:f/></p:a>";
        String[] spaces = {"1", "2", "1", "1", "2", "1"};
        for (int e = 0; e < spaces.length; e++) {
            spaceIs(text, e, spaces[e]);
            spaceIs(text.replace("p:", "").replace(":p", ""), e, spaces[e]);
        }
        spaceIs("<p:a xmlns:p='1'><p:b xmlns:q='2'/></p:a>", 1, "1");
        spaceIs("<p:a xmlns:p='1'><p:b xmlns='2'/></p:a>", 1, "1");
        spaceIs("<a xmlns='1'><b xmlns:p='2'/></a>", 1, "1");
        spaceIs("<p:a xmlns:p='1'><p:b xmlns:P='2' xmlns:pp='3'/></p:a>", 1, "1");
    }

    /** "... for no prefix, an empty value means no space." */
    private static void forNoPrefixAnEmptyValueMeansNoSpace() {
        spaceIs("<a xmlns=''/>", 0, "");
        spaceIs("<a xmlns='u'><b xmlns=''><c/></b><d/></a>", 1, "");
        spaceIs("<a xmlns='u'><b xmlns=''><c/></b><d/></a>", 2, "");
        spaceIs("<a xmlns='u'><b xmlns=''><c/></b><d/></a>", 3, "u");
        spaceIs("<a xmlns='u'><b xmlns=''><c xmlns='v'/></b></a>", 2, "v");
        spaceIs("<a xmlns=' '/>", 0, " ");
        Texts.due("<a xmlns:p=''/>", "6 at 3");
    }

    /** "An element's name belongs to the space of its prefix (or of no prefix, if it has none) ..." */
    private static void anElementBelongsToTheSpaceOfItsPrefix() {
        String text = "<a xmlns='n' xmlns:p='1' xmlns:q='2'><p:b/><q:b/><b/><p:b><q:c/></p:b></a>";
        String[] spaces = {"n", "1", "2", "n", "1", "2"};
        for (int e = 0; e < spaces.length; e++) {
            spaceIs(text, e, spaces[e]);
        }
    }

    /** "... an attribute's name to the space of its prefix, and to none if it has none." */
    private static void anAttributeWithoutAPrefixBelongsToNoSpace() {
        Texts.right("<a xmlns='u' xmlns:p='u' b='' p:b=''/>", "<p:a xmlns:p='u' b='' p:b=''/>");
        Texts.due("<a xmlns:p='u' xmlns:q='u' p:b='' q:b=''/>", "8 at 34");
        Texts.formIs("<a xmlns='z' xmlns:p='a' p:b='' c=''/>", "<a xmlns=\"z\" xmlns:p=\"a\" c=\"\" p:b=\"\"></a>");
    }

    /** The value as it is meant, of one character and of as many as can be typed. */
    private static void theSpaceIsTheValue() {
        spaceIs("<a xmlns='&amp;\n&#10;\"&lt;'/>", 0, "& \n\"<");
        spaceIs("<a xmlns='" + "u".repeat(227) + "'/>", 0, "u".repeat(227));
        spaceIs("<p:a xmlns:p='" + "u".repeat(223) + "'/>", 0, "u".repeat(223));
        spaceIs("<p:a xmlns:p='" + "u".repeat(80) + "'><p:b/></p:a>", 1, "u".repeat(80));
    }
}
