import java.io.ByteArrayInputStream;
import java.io.IOException;
import java.io.StringReader;
import java.nio.charset.StandardCharsets;
import java.security.GeneralSecurityException;
import java.util.ArrayList;
import java.util.List;
import java.util.regex.Pattern;
import javax.xml.crypto.OctetStreamData;
import javax.xml.crypto.dsig.CanonicalizationMethod;
import javax.xml.crypto.dsig.TransformException;
import javax.xml.crypto.dsig.TransformService;
import javax.xml.crypto.dsig.spec.TransformParameterSpec;
import javax.xml.parsers.DocumentBuilder;
import javax.xml.parsers.DocumentBuilderFactory;
import javax.xml.parsers.ParserConfigurationException;
import org.w3c.dom.Element;
import org.w3c.dom.Node;
import org.w3c.dom.Text;
import org.xml.sax.InputSource;
import org.xml.sax.SAXException;
import org.xml.sax.helpers.DefaultHandler;

/**
 * Compares what is read with what Java's own XML library makes of the same texts. The document
 * describes a part of XML with its namespaces, and its form is XML's canonical one; what only one of
 * both takes is left out.
 */
public final class OtherParserTest {
    private static final int TEXTS = 20_000;
    /** Names that begin with a :, the prefix xml and other characters' numbers are fine for the library. */
    private static final Pattern LEFT_OUT = Pattern.compile("[< \n]:|xml:|&#x(?!41;|5d;)");

    private final DocumentBuilder parser;
    private final TransformService canonical;
    private int right = 0;
    private int wrong = 0;
    private int forms = 0;

    private OtherParserTest() throws ParserConfigurationException, GeneralSecurityException {
        DocumentBuilderFactory factory = DocumentBuilderFactory.newInstance();
        factory.setNamespaceAware(true);
        parser = factory.newDocumentBuilder();
        parser.setErrorHandler(new DefaultHandler());
        canonical = TransformService.getInstance(CanonicalizationMethod.INCLUSIVE, "DOM");
        canonical.init((TransformParameterSpec) null);
    }

    public static void main(String[] args) throws ParserConfigurationException, GeneralSecurityException, IOException {
        OtherParserTest test = new OtherParserTest();
        MadeTexts texts = new MadeTexts(512);
        for (int i = 0; i < TEXTS; i++) {
            test.compare(texts.next(i));
        }
        Checks.due("enough texts are right", test.right > TEXTS / 4, true);
        Checks.due("enough texts are wrong", test.wrong > TEXTS / 4, true);
        Checks.due("enough forms were compared", test.forms > TEXTS / 4, true);
        Checks.end();
    }

    private void compare(String text) throws IOException {
        String outcome = Checks.outcome(text);
        if (isLeftOut(text, outcome)) {
            return;
        }
        List<Element> elements = parsed(text);
        Checks.due("whether it is right, " + text, outcome.equals("right"), elements != null);
        if (elements == null || !outcome.equals("right")) {
            wrong++;
            return;
        }
        right++;
        Checks.due("elements of " + text, Checks.typed(text).read(), elements.size());
        for (int e = 0; e < elements.size(); e++) {
            Checks.due("element " + e + " of " + text, Checks.facts(Checks.readOf(text), e), facts(elements, e));
        }
        compareForms(text);
    }

    /** The library knows no limits like those of reason 4. */
    private static boolean isLeftOut(String text, String outcome) {
        return outcome.startsWith("4 at ") || LEFT_OUT.matcher(text).find();
    }

    private void compareForms(String text) throws IOException {
        byte[] bytes = text.getBytes(StandardCharsets.US_ASCII);
        try {
            OctetStreamData form = (OctetStreamData) canonical.transform(
                    new OctetStreamData(new ByteArrayInputStream(bytes)), null);
            forms++;
            String due = new String(form.getOctetStream().readAllBytes(), StandardCharsets.UTF_8);
            Checks.due("form of " + text, Checks.formOf(text), due);
        } catch (TransformException refused) {
            // The canonical form is refused to a space without a :, which a broken text may have.
            Checks.due("why it has no form, " + text, refused.getMessage().contains("relative namespace"), true);
        }
    }

    /** The elements in the order in which they begin, or null if the text is wrong. */
    private List<Element> parsed(String text) throws IOException {
        try {
            List<Element> elements = new ArrayList<>();
            collect(parser.parse(new InputSource(new StringReader(text))).getDocumentElement(), elements);
            return elements;
        } catch (SAXException wrongText) {
            return null;
        }
    }

    private static void collect(Element element, List<Element> into) {
        into.add(element);
        for (Node inside = element.getFirstChild(); inside != null; inside = inside.getNextSibling()) {
            if (inside instanceof Element) {
                collect((Element) inside, into);
            }
        }
    }

    private static String facts(List<Element> elements, int e) {
        Element element = elements.get(e);
        int inside = 0;
        StringBuilder content = new StringBuilder();
        for (Node node = element.getFirstChild(); node != null; node = node.getNextSibling()) {
            inside += node instanceof Element ? 1 : 0;
            content.append(node instanceof Text ? node.getNodeValue() : "");
        }
        int attributes = 0;
        for (int i = 0; i < element.getAttributes().getLength(); i++) {
            String name = element.getAttributes().item(i).getNodeName();
            attributes += name.equals("xmlns") || name.startsWith("xmlns:") ? 0 : 1;
        }
        String space = element.getNamespaceURI() == null ? "" : element.getNamespaceURI();
        int spaceLength = space.isEmpty() ? -1 : space.length();
        return elements.indexOf(element.getParentNode()) + " " + inside + " " + attributes + " " + content.length()
                + " " + spaceLength + " " + element.getTagName() + " [" + content + "] [" + space + "]";
    }
}
