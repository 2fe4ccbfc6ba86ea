import java.util.LinkedHashMap;
import java.util.Map;

/** What the calls behind a refused call answer: the same as those of a twin without that call. */
public final class RefusedCallsTest {
    private static int refused = 0;

    interface State {
        CountedReader make();
    }

    interface AnyCall {
        Object make(CountedReader reader);
    }

    public static void main(String[] args) {
        for (Map.Entry<String, State> state : states().entrySet()) {
            String twin = answersBehind(state.getValue().make());
            for (Map.Entry<String, AnyCall> call : calls().entrySet()) {
                CountedReader reader = state.getValue().make();
                Object answer = Checks.answer(() -> call.getValue().make(reader));
                if (String.valueOf(answer).endsWith("Exception")) {
                    refused++;
                    Checks.due(state.getKey() + ", behind refused " + call.getKey(), answersBehind(reader), twin);
                }
            }
        }
        Checks.due("enough calls were refused", refused > 150, true);
        Checks.end();
    }

    /** All that is told, then how much is typed, then what reading that makes of it. */
    private static String answersBehind(CountedReader reader) {
        return Checks.state(reader) + " | " + Checks.answer(() -> reader.type(' ')) + " | " + Checks.outcome(reader)
                + " | " + reader.form() + " | " + reader.same();
    }

    private static CountedReader kept(String text) {
        CountedReader reader = Checks.readOf(text);
        reader.keep();
        return reader;
    }

    private static Map<String, State> states() {
        Map<String, State> states = new LinkedHashMap<>();
        states.put("a new object", CountedReader::new);
        states.put("typed, not read", () -> Checks.typed("<a/>"));
        states.put("240 typed, not read", () -> Checks.typed("<a>" + "x".repeat(233) + "</a>"));
        states.put("a tree", () -> Checks.readOf("<p:a xmlns:p='u' b='1'>x<c/>y</p:a>"));
        states.put("a tree that is kept", () -> kept("<p:a xmlns:p='u' b='1'>x<c/>y</p:a>"));
        states.put("a tree, and more typed", () -> {
            CountedReader reader = kept("<a/>");
            reader.type('x');
            return reader;
        });
        states.put("a tree, and nothing typed", () -> {
            CountedReader reader = kept("<a xmlns=''>x</a>");
            reader.wipe();
            return reader;
        });
        states.put("a tree, and 240 typed", () -> {
            CountedReader reader = kept("<a>x</a>");
            Checks.typeAll(reader, " ".repeat(232));
            return reader;
        });
        states.put("a form of more than 240", () -> kept("<a>" + ">".repeat(60) + "</a>"));
        states.put("wrong", () -> Checks.readOfWrong("<a></b>"));
        states.put("wrong, and 240 typed", () -> Checks.readOfWrong(" ".repeat(240)));
        states.put("wrong, and one is kept", () -> {
            CountedReader reader = kept("<a/>");
            Checks.typeAll(reader, "&");
            Checks.dueArgument("read", reader::read);
            return reader;
        });
        return states;
    }

    private static Map<String, AnyCall> calls() {
        Map<String, AnyCall> calls = new LinkedHashMap<>();
        for (int number : new int[] {0, 9, 31, 127, 65535, 'a'}) {
            calls.put("type " + number, reader -> reader.type((char) number));
        }
        for (int outside : new int[] {-1, 2, Integer.MAX_VALUE, Integer.MIN_VALUE}) {
            calls.put("element " + outside, reader -> reader.element(outside, 0));
            calls.put("element 0, which " + (outside + 3), reader -> reader.element(0, outside + 3));
            calls.put("name of " + outside, reader -> reader.name(outside, 0));
            calls.put("name, " + (outside + 1), reader -> reader.name(0, outside + 1));
            calls.put("content of " + outside, reader -> reader.content(outside, 0));
            calls.put("content, " + outside, reader -> reader.content(0, outside));
            calls.put("space of " + outside, reader -> reader.space(outside, 0));
            calls.put("space, " + outside, reader -> reader.space(0, outside));
            calls.put("formAt " + outside, reader -> reader.formAt(outside));
        }
        calls.put("retype", CountedReader::retype);
        calls.put("keep", reader -> {
            reader.keep();
            return "kept";
        });
        return calls;
    }
}
