/** What must hold for every text, over many texts. */
public final class ManyTextsTest {
    private static final int TEXTS = 20_000;

    public static void main(String[] args) {
        MadeTexts texts = new MadeTexts(20261115);
        int right = 0;
        for (int i = 0; i < TEXTS; i++) {
            String text = texts.next(i);
            String outcome = Checks.outcome(text);
            if (outcome.equals("right")) {
                right++;
                dueForRight(text);
            } else {
                dueForWrong(text);
            }
        }
        Checks.due("enough texts are right", right > TEXTS / 4, true);
        Checks.due("enough texts are wrong", TEXTS - right > TEXTS / 4, true);
        Checks.end();
    }

    private static void dueForRight(String text) {
        String form = Checks.formOf(text);
        if (form.length() <= Texts.MOST_TYPED) {
            Checks.due("the form of the form of " + text, Checks.formOf(form), form);
            Checks.due("what the form of " + text + " tells", facts(form), facts(text));
            CountedReader reader = Checks.readOf(text);
            reader.keep();
            Checks.due("how much is typed by retype behind " + text, reader.retype(), form.length());
            Checks.due("what is typed then", Checks.outcome(reader), "right");
            Checks.due("whether it is the same", reader.same(), true);
        }
        String cut = text.substring(0, text.lastIndexOf('>'));
        Checks.due("read of " + text + " without its last >", Checks.outcome(cut), "1 at " + cut.length());
    }

    /** What follows the place does not matter for reason 1, and what is before it is no cause. */
    private static void dueForWrong(String text) {
        CountedReader reader = Checks.readOfWrong(text);
        int reason = reader.reason();
        int place = reader.place();
        Checks.due("the place is in " + text, place >= 0 && place <= text.length(), true);
        Checks.due("there is a reason", reason >= 1 && reason <= 8, true);
        Checks.due("there is no form of " + text, reader.form(), 0);
        if (reason == 1) {
            String upToPlace = text.substring(0, Math.min(place + 1, text.length()));
            Checks.due("read of the beginning of " + text, Checks.outcome(upToPlace), "1 at " + place);
            String before = text.substring(0, place);
            String beforeOutcome = Checks.outcome(before);
            boolean isCause = beforeOutcome.startsWith("1 at ") && !beforeOutcome.equals("1 at " + place);
            Checks.due("a cause before the place in " + text, isCause, false);
        }
    }

    private static String facts(String text) {
        StringBuilder facts = new StringBuilder();
        int elements = Checks.typed(text).read();
        for (int e = 0; e < elements; e++) {
            CountedReader reader = Checks.readOf(text);
            facts.append(Checks.facts(reader, e)).append('|');
        }
        return facts.toString();
    }
}
