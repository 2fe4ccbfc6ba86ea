/**
 * A reader that is called at most as often as the document promises answers for, so that no test
 * rests on an answer that is free.
 */
final class CountedReader {
    static final int MOST_CALLS = 512;

    private final MarkupReader reader = new MarkupReader();
    private int calls = 0;

    private MarkupReader called() {
        calls++;
        if (calls > MOST_CALLS) {
            throw new AssertionError("a test calls one object more than " + MOST_CALLS + " times");
        }
        return reader;
    }

    int callsLeft() {
        return MOST_CALLS - calls;
    }

    int type(char c) {
        return called().type(c);
    }

    void wipe() {
        called().wipe();
    }

    int read() {
        return called().read();
    }

    int reason() {
        return called().reason();
    }

    int place() {
        return called().place();
    }

    int element(int e, int which) {
        return called().element(e, which);
    }

    char name(int e, int i) {
        return called().name(e, i);
    }

    char content(int e, int i) {
        return called().content(e, i);
    }

    char space(int e, int i) {
        return called().space(e, i);
    }

    int form() {
        return called().form();
    }

    char formAt(int i) {
        return called().formAt(i);
    }

    int retype() {
        return called().retype();
    }

    void keep() {
        called().keep();
    }

    boolean same() {
        return called().same();
    }
}
