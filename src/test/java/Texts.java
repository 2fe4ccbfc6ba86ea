/** Checks of whole texts: whether they are right, and if not, why and where. */
final class Texts {
    /** Every character, once, in the order of their numbers. */
    static final String CHARACTERS = characters();
    static final int MOST_TYPED = 240;

    private Texts() {
    }

    private static String characters() {
        StringBuilder all = new StringBuilder("\n");
        for (char c = 32; c <= 126; c++) {
            all.append(c);
        }
        return all.toString();
    }

    static boolean isCharacter(long number) {
        return number == 10 || number >= 32 && number <= 126;
    }

    static String charactersWithout(String others) {
        StringBuilder left = new StringBuilder();
        for (char c : CHARACTERS.toCharArray()) {
            if (others.indexOf(c) < 0) {
                left.append(c);
            }
        }
        return left.toString();
    }

    static void due(String text, String outcome) {
        Checks.due("read of " + text, Checks.outcome(text), outcome);
    }

    static void right(String... texts) {
        for (String text : texts) {
            due(text, "right");
        }
    }

    /** Wrong at the last character, whatever follows. */
    static void wrongAtLast(String... texts) {
        for (String text : texts) {
            String outcome = "1 at " + (text.length() - 1);
            due(text, outcome);
            due(text + ">", outcome);
            due(text + " <x></x>", outcome);
        }
    }

    /** Wrong only because it ends there. */
    static void wrongAtEnd(String... texts) {
        for (String text : texts) {
            due(text, "1 at " + text.length());
        }
    }

    /** The text is right, and it has this form; read again, the form is its own. */
    static void formIs(String text, String form) {
        due(text, "right");
        Checks.due("form of " + text, Checks.formOf(text), form);
        Checks.due("length of the form of " + text, Checks.readOf(text).form(), form.length());
        if (form.length() <= MOST_TYPED) {
            Checks.due("form of the form " + form, Checks.formOf(form), form);
        }
    }

    static void contentIs(String text, String content) {
        due(text, "right");
        Checks.due("content in " + text, Checks.content(Checks.readOf(text), 0), content);
    }
}
