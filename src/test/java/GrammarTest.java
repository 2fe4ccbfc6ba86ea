/** Compares where the class stops with where the document's terms, as a grammar, do. */
public final class GrammarTest {
    private static final int TEXTS = 10_000;

    private final Grammar grammar = new Grammar();
    private final int[] counts = new int[9];

    public static void main(String[] args) {
        GrammarTest test = new GrammarTest();
        MadeTexts texts = new MadeTexts(240);
        for (int i = 0; i < TEXTS; i++) {
            String text = texts.next(i);
            test.compare(text);
            test.compare(text.substring(0, i % (text.length() + 1)));
        }
        for (int reason : new int[] {0, 1, 2, 3, 5, 7}) {
            Checks.due("enough texts have reason " + reason, test.counts[reason] > TEXTS / 100, true);
        }
        Checks.end();
    }

    // "1 the first character (or the end) with which the text can't be gone on as above, whatever follows"
    // "3 an & with which no reference as above begins (at it ...)"
    private void compare(String text) {
        Grammar.Stop stop = grammar.read(text);
        CountedReader reader = Checks.typed(text);
        String outcome = Checks.outcome(reader);
        int reason = reader.reason();
        counts[reason]++;
        if (reason == 0) {
            Checks.due("where the grammar stops in " + text, stop.place(), Grammar.NONE);
        } else if (reason == 1) {
            Checks.due("read of " + text, outcome, dueAt(stop));
        } else if (!outcome.equals(dueAt(stop))) {
            // Then the text is wrong for what the grammar does not know, and was found before it stops.
            boolean isBefore = stop.place() == Grammar.NONE || stop.place() > reader.place();
            Checks.due("whether " + outcome + " is before the grammar stops in " + text, isBefore, true);
        }
    }

    private static String dueAt(Grammar.Stop stop) {
        return stop.reference() == Grammar.NONE ? "1 at " + stop.place() : "3 at " + stop.reference();
    }
}
