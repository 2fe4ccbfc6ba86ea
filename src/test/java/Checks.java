import java.util.Objects;

/** What the tests share: typing whole texts, telling answers as texts, counting wrong ones. */
final class Checks {
    private static int done = 0;
    private static int wrong = 0;

    private Checks() {
    }

    interface Call {
        Object make();
    }

    static void due(String what, Object got, Object want) {
        done++;
        if (!Objects.equals(got, want)) {
            wrong++;
            System.out.println(what + " answered " + got + ", due is " + want);
        }
    }

    /** The call's answer, or the name of what it throws. */
    static Object answer(Call call) {
        try {
            return call.make();
        } catch (RuntimeException thrown) {
            return thrown.getClass().getSimpleName();
        }
    }

    static void dueThrow(String what, Class<? extends RuntimeException> want, Call call) {
        due(what, answer(call), want.getSimpleName());
    }

    static void end() {
        System.out.println(done + " answers, " + wrong + " not as due");
        if (wrong != 0) {
            System.exit(1);
        }
    }

    static void retypeAs(MarkupReader reader, String text) {
        reader.wipe();
        for (char c : text.toCharArray()) {
            reader.type(c);
        }
    }

    static MarkupReader typed(String text) {
        MarkupReader reader = new MarkupReader();
        retypeAs(reader, text);
        return reader;
    }

    static MarkupReader readOf(String text) {
        MarkupReader reader = typed(text);
        reader.read();
        return reader;
    }

    /** "right", or the reason and the place of what is wrong, as in "1 at 3". */
    static String outcome(MarkupReader reader) {
        try {
            reader.read();
        } catch (IllegalArgumentException wrongText) {
            return reader.reason() + " at " + reader.place();
        }
        return reader.reason() == 0 && reader.place() == -1 ? "right" : "right, with a reason or place";
    }

    static String outcome(String text) {
        return outcome(typed(text));
    }

    static String form(MarkupReader reader) {
        StringBuilder form = new StringBuilder();
        for (int i = 0; i < reader.form(); i++) {
            form.append(reader.formAt(i));
        }
        return form.toString();
    }

    interface CharacterAt {
        char get(int i);
    }

    /** All characters up to the first place that is out of bounds. */
    static String characters(CharacterAt at) {
        StringBuilder all = new StringBuilder();
        try {
            for (int i = 0; i < 1000; i++) {
                all.append(at.get(i));
            }
        } catch (IndexOutOfBoundsException atTheEnd) {
            return all.toString();
        }
        return "no end of characters";
    }

    static String name(MarkupReader reader, int e) {
        return characters(i -> reader.name(e, i));
    }

    static String content(MarkupReader reader, int e) {
        return characters(i -> reader.content(e, i));
    }

    static String space(MarkupReader reader, int e) {
        return characters(i -> reader.space(e, i));
    }

    /** What element answers for each of 0 .. 4, joined by spaces. */
    static String numbers(MarkupReader reader, int e) {
        StringBuilder all = new StringBuilder();
        for (int which = 0; which <= 4; which++) {
            all.append(which == 0 ? "" : " ").append(reader.element(e, which));
        }
        return all.toString();
    }
}
