/** "An object is used for at most 512 calls after it has been made": the 512th still answers right. */
public final class CallsTest {
    public static void main(String[] args) {
        readAgainAndAgain();
        readOfWrongAgainAndAgain();
        readOfTheLongestTextsAgainAndAgain();
        typeAndWipe();
        typeWhenItIsFull();
        keepAndSame();
        retypeAndRead();
        otherTextsAgainAndAgain();
        askedForTheForm();
        Checks.end();
    }

    private static void dueUsedUp(CountedReader reader) {
        Checks.due("calls that are left", reader.callsLeft(), 0);
    }

    private static void readAgainAndAgain() {
        CountedReader reader = Checks.typed("<a><b c=''>x</b></a>");
        while (reader.callsLeft() > 0) {
            Checks.due("read with " + reader.callsLeft() + " left", reader.read(), 2);
        }
        dueUsedUp(reader);
    }

    private static void readOfWrongAgainAndAgain() {
        CountedReader reader = Checks.typed("<a b='x'>y<c/><p:d/>");
        while (reader.callsLeft() >= 3) {
            Checks.due("read with " + reader.callsLeft() + " left", Checks.outcome(reader), "7 at 15");
        }
    }

    /** Nothing that a row can hold is used up by reading. */
    private static void readOfTheLongestTextsAgainAndAgain() {
        String[] texts = {"<a>" + "x".repeat(233) + "</a>", "<a b='" + "\"".repeat(231) + "'/>", "<r>" + "<b/>".repeat(23) + "</r>",
            "<a>".repeat(11) + "<a/>" + "</a>".repeat(11)};
        int[] forms = {240, 1398, 168, 84};
        for (int i = 0; i < texts.length; i++) {
            CountedReader reader = Checks.typed(texts[i]);
            while (reader.callsLeft() > 1) {
                reader.read();
            }
            Checks.due("the form at the 512th call", reader.form(), forms[i]);
            dueUsedUp(reader);
        }
    }

    private static void typeAndWipe() {
        CountedReader reader = new CountedReader();
        while (reader.callsLeft() > 1) {
            reader.wipe();
            Checks.due("type with " + reader.callsLeft() + " left", reader.type('x'), 1);
        }
        dueUsedUp(reader);
    }

    private static void typeWhenItIsFull() {
        CountedReader reader = Checks.typed(" ".repeat(240));
        while (reader.callsLeft() > 0) {
            Checks.dueState("type with " + reader.callsLeft() + " left", () -> reader.type(' '));
        }
        dueUsedUp(reader);
    }

    private static void keepAndSame() {
        CountedReader reader = Checks.typed("<ab/>");
        reader.read();
        while (reader.callsLeft() > 1) {
            reader.keep();
            Checks.due("same with " + reader.callsLeft() + " left", reader.same(), true);
        }
        dueUsedUp(reader);
    }

    private static void retypeAndRead() {
        CountedReader reader = Checks.typed("<a>></a>");
        Checks.due("read", reader.read(), 1);
        while (reader.callsLeft() > 1) {
            Checks.due("retype with " + reader.callsLeft() + " left", reader.retype(), 11);
            Checks.due("read with " + reader.callsLeft() + " left", reader.read(), 1);
        }
    }

    private static void otherTextsAgainAndAgain() {
        String[] texts = {"<a b=''/>", "<a>&", "<c>x<d/></c>", "<p:a/>"};
        String[] outcomes = {"right", "3 at 3", "right", "7 at 1"};
        CountedReader reader = new CountedReader();
        for (int i = 0; reader.callsLeft() > 20; i++) {
            Checks.due("with " + reader.callsLeft() + " left, " + texts[i % 4], Checks.rereadAs(reader, texts[i % 4]), outcomes[i % 4]);
        }
    }

    private static void askedForTheForm() {
        CountedReader reader = Checks.typed("<a>" + "x".repeat(233) + "</a>");
        reader.read();
        while (reader.callsLeft() > 0) {
            int i = reader.callsLeft() - 1;
            Object want = i >= 240 ? "IndexOutOfBoundsException" : (Object) ("<a>" + "x".repeat(233) + "</a>").charAt(i);
            Checks.due("formAt " + i, Checks.answer(() -> reader.formAt(i)), want);
        }
        dueUsedUp(reader);
    }
}
