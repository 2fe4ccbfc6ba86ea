import java.util.Objects;

/** What the tests share: telling answers and whole states as texts, and counting wrong ones. */
final class Checks {
    private static int done = 0;
    private static int wrong = 0;

    private Checks() {
    }

    interface Call {
        Object make();
    }

    static void due(String what, Object got, Object want) {
        done++;
        if (!Objects.equals(got, want)) {
            wrong++;
            System.out.println((what + " answered " + got + ", due is " + want).replace("\n", "\\n"));
        }
    }

    /** The call's answer, or the name of what it throws. */
    static Object answer(Call call) {
        try {
            return call.make();
        } catch (RuntimeException thrown) {
            return thrown.getClass().getSimpleName();
        }
    }

    static Object answerOfKeep(CountedReader reader) {
        return answer(() -> {
            reader.keep();
            return "kept";
        });
    }

    static void dueOut(String what, Call call) {
        due(what, answer(call), "IndexOutOfBoundsException");
    }

    static void dueArgument(String what, Call call) {
        due(what, answer(call), "IllegalArgumentException");
    }

    static void dueState(String what, Call call) {
        due(what, answer(call), "IllegalStateException");
    }

    static void end() {
        System.out.println(done + " answers, " + wrong + " not as due");
        if (wrong != 0) {
            System.exit(1);
        }
    }

    static void typeAll(CountedReader reader, String text) {
        for (char c : text.toCharArray()) {
            reader.type(c);
        }
    }

    static void retypeAs(CountedReader reader, String text) {
        reader.wipe();
        typeAll(reader, text);
    }

    /** What is typed is wiped, and the text is typed and read: as outcome tells it. */
    static String rereadAs(CountedReader reader, String text) {
        retypeAs(reader, text);
        return outcome(reader);
    }

    static CountedReader typed(String text) {
        CountedReader reader = new CountedReader();
        typeAll(reader, text);
        return reader;
    }

    static CountedReader readOf(String text) {
        CountedReader reader = typed(text);
        due("read of " + text, outcome(reader), "right");
        return reader;
    }

    static CountedReader readOfWrong(String text) {
        CountedReader reader = typed(text);
        dueArgument("read of " + text, reader::read);
        return reader;
    }

    /** "right", or the reason and the place of what is wrong, as in "1 at 3". */
    static String outcome(CountedReader reader) {
        try {
            reader.read();
        } catch (IllegalArgumentException wrongText) {
            return told(reader);
        }
        String told = told(reader);
        return told.equals("0 at -1") ? "right" : "right, but told as " + told;
    }

    static String told(CountedReader reader) {
        return reader.reason() + " at " + reader.place();
    }

    static String outcome(String text) {
        return outcome(typed(text));
    }

    static String form(CountedReader reader) {
        StringBuilder form = new StringBuilder();
        int size = reader.form();
        for (int i = 0; i < size; i++) {
            form.append(reader.formAt(i));
        }
        return form.toString();
    }

    /** The form of a text, however long: as many objects are asked as it takes. */
    static String formOf(String text) {
        StringBuilder form = new StringBuilder();
        CountedReader reader = readOf(text);
        int size = reader.form();
        for (int i = 0; i < size; i++) {
            if (reader.callsLeft() == 0) {
                reader = readOf(text);
            }
            form.append(reader.formAt(i));
        }
        return form.toString();
    }

    interface CharacterAt {
        char get(int i);
    }

    /** All characters up to the first place that is out of bounds. */
    static String characters(CharacterAt at) {
        StringBuilder all = new StringBuilder();
        try {
            for (int i = 0; i < CountedReader.MOST_CALLS; i++) {
                all.append(at.get(i));
            }
        } catch (IndexOutOfBoundsException atTheEnd) {
            return all.toString();
        }
        return "no end of characters";
    }

    static String name(CountedReader reader, int e) {
        return characters(i -> reader.name(e, i));
    }

    static String content(CountedReader reader, int e) {
        return characters(i -> reader.content(e, i));
    }

    static String space(CountedReader reader, int e) {
        return characters(i -> reader.space(e, i));
    }

    /** What element answers for each of 0 .. 4, joined by spaces. */
    static String numbers(CountedReader reader, int e) {
        StringBuilder all = new StringBuilder();
        for (int which = 0; which <= 4; which++) {
            all.append(which == 0 ? "" : " ").append(reader.element(e, which));
        }
        return all.toString();
    }

    /** All that is told of one element. */
    static String facts(CountedReader reader, int e) {
        return numbers(reader, e) + " " + name(reader, e) + " [" + content(reader, e) + "] [" + space(reader, e) + "]";
    }

    /** All that is told of a small tree, its form and what is kept, without changing anything. */
    static String state(CountedReader reader) {
        StringBuilder state = new StringBuilder(told(reader));
        int e = 0;
        while (e < 24 && answer(probe(reader, e)).equals("there")) {
            state.append(" | ").append(facts(reader, e));
            e++;
        }
        return state.append(" | ").append(form(reader)).append(" | ").append(reader.same()).toString();
    }

    private static Call probe(CountedReader reader, int e) {
        return () -> {
            reader.element(e, 0);
            return "there";
        };
    }

    /** Each call answers as it must without a tree. */
    static void dueNoTree(String when, CountedReader reader) {
        dueOut(when + ": element", () -> reader.element(0, 0));
        dueOut(when + ": element, which wrong too", () -> reader.element(0, 5));
        dueOut(when + ": name", () -> reader.name(0, 0));
        dueOut(when + ": content", () -> reader.content(0, 0));
        dueOut(when + ": space", () -> reader.space(0, 0));
        due(when + ": form", reader.form(), 0);
        dueOut(when + ": formAt", () -> reader.formAt(0));
        dueState(when + ": retype", reader::retype);
        due(when + ": keep", answerOfKeep(reader), "IllegalStateException");
        due(when + ": same", reader.same(), false);
    }
}
