import java.util.ArrayDeque;
import java.util.ArrayList;
import java.util.Deque;
import java.util.HashMap;
import java.util.HashSet;
import java.util.List;
import java.util.Map;
import java.util.Set;

/**
 * The document's terms written down as a grammar, and Earley's way of reading by one. It follows
 * everything that a text could still become, so it finds the first character with which a text can't
 * be gone on, whatever follows, without any of the class's own choices. It knows neither that the
 * name behind &lt;/ is the same one nor which numbers are those of characters.
 */
final class Grammar {
    static final int NONE = -1;

    private static final String DIGITS = "0123456789";
    private static final String FIRST_IN_PART = "abcdefghijklmnopqrstuvwxyzABCDEFGHIJKLMNOPQRSTUVWXYZ_";
    private static final String REFERENCE = "reference";
    private static final String TEXT = "text";

    /** Where reading can't go on (NONE if the text is whole), and the & of a reference begun there. */
    record Stop(int place, int reference) {
    }

    /** One of some characters, or a term if there are none. */
    private record Symbol(String term, String characters) {
    }

    /** One way to make a term; each is itself alone, so they are not compared by what they hold. */
    private static final class Way {
        final String term;
        final List<Symbol> symbols = new ArrayList<>();

        Way(String term) {
            this.term = term;
        }
    }

    /** A way of which the symbols before next have been read since the place start. */
    private record Item(Way way, int next, int start) {
        boolean isDone() {
            return next == way.symbols.size();
        }

        Symbol symbol() {
            return way.symbols.get(next);
        }

        Item gone() {
            return new Item(way, next + 1, start);
        }
    }

    private final Map<String, List<Way>> ways = new HashMap<>();
    private final Set<String> canBeEmpty = new HashSet<>();

    Grammar() {
        texts();
        elements();
        values();
        contents();
        sections();
    }

    private void texts() {
        way(TEXT, term("around"), term("element"), term("around"));
        way("around");
        way("around", term("around"), one(" \n"));
        way("around", term("around"), term("comment"));
        way("comment", all("<!--"), term("commented"), all("-->"));
        // No - is the last one, and none has another one behind it: each has some other character there.
        way("commented");
        way("commented", term("commented"), one(Texts.charactersWithout("-")));
        way("commented", term("commented"), all("-"), one(Texts.charactersWithout("-")));
        way("part", one(FIRST_IN_PART));
        way("part", term("part"), one(FIRST_IN_PART + DIGITS + "-."));
        way("name", term("part"));
        way("name", term("part"), all(":"), term("part"));
        way("blanks");
        way("blanks", term("blanks"), one(" \n"));
    }

    private void elements() {
        way("element", all("<"), term("name"), term("attributes"), term("blanks"), all("/>"));
        way("element", all("<"), term("name"), term("attributes"), term("blanks"), all(">"),
                term("content"), all("</"), term("name"), term("blanks"), all(">"));
        way("attributes");
        way("attributes", term("attributes"), one(" \n"), term("blanks"), term("name"), term("blanks"), all("="),
                term("blanks"), term("quoted"));
        way("quoted", all("\""), term("value in \""), all("\""));
        way("quoted", all("'"), term("value in '"), all("'"));
    }

    private void values() {
        for (String mark : List.of("\"", "'")) {
            way("value in " + mark);
            way("value in " + mark, term("value in " + mark), term(REFERENCE));
            way("value in " + mark, term("value in " + mark), one(Texts.charactersWithout("<&" + mark)));
        }
        for (String word : List.of("&lt;", "&gt;", "&amp;", "&quot;", "&apos;")) {
            way(REFERENCE, all(word));
        }
        way(REFERENCE, all("&#"), term("number"), all(";"));
        way(REFERENCE, all("&#x"), term("number to 16"), all(";"));
        way("number", one(DIGITS));
        way("number", term("number"), one(DIGITS));
        way("number to 16", one(DIGITS + "abcdefABCDEF"));
        way("number to 16", term("number to 16"), one(DIGITS + "abcdefABCDEF"));
    }

    /** Content is told apart by how many ] stand at its end: 0, 1, or 2 and more. */
    private void contents() {
        way("content0");
        for (String before : List.of("content0", "content1", "content2")) {
            way("content", term(before));
            for (String inside : List.of("element", "comment", "section", REFERENCE)) {
                way("content0", term(before), term(inside));
            }
            way("content0", term(before), one(Texts.charactersWithout(before.equals("content2") ? "<&]>" : "<&]")));
        }
        way("content1", term("content0"), all("]"));
        way("content2", term("content1"), all("]"));
        way("content2", term("content2"), all("]"));
    }

    /** What is in a section is told apart in the same way; its end is 2 or more of them and a >. */
    private void sections() {
        way("section", all("<![CDATA["), term("section2"), all(">"));
        way("section0");
        way("section0", term("section0"), one(Texts.charactersWithout("]")));
        way("section0", term("section1"), one(Texts.charactersWithout("]")));
        way("section0", term("section2"), one(Texts.charactersWithout("]>")));
        way("section1", term("section0"), all("]"));
        way("section2", term("section1"), all("]"));
        way("section2", term("section2"), all("]"));
    }

    private static List<Symbol> term(String term) {
        return List.of(new Symbol(term, ""));
    }

    private static List<Symbol> one(String ofThese) {
        return List.of(new Symbol("", ofThese));
    }

    private static List<Symbol> all(String inThisOrder) {
        List<Symbol> symbols = new ArrayList<>();
        for (char c : inThisOrder.toCharArray()) {
            symbols.add(new Symbol("", String.valueOf(c)));
        }
        return symbols;
    }

    /** Of terms that can be empty, those that others are made of stand first. */
    @SafeVarargs
    private void way(String term, List<Symbol>... symbols) {
        Way way = new Way(term);
        for (List<Symbol> some : symbols) {
            way.symbols.addAll(some);
        }
        if (way.symbols.stream().allMatch(symbol -> canBeEmpty.contains(symbol.term()))) {
            canBeEmpty.add(term);
        }
        ways.computeIfAbsent(term, none -> new ArrayList<>()).add(way);
    }

    Stop read(String text) {
        List<Set<Item>> sets = new ArrayList<>();
        Set<Item> reached = new HashSet<>();
        for (Way way : ways.get(TEXT)) {
            reached.add(new Item(way, 0, 0));
        }
        for (int at = 0;; at++) {
            complete(reached, sets, at);
            sets.add(reached);
            if (at == text.length()) {
                return isWhole(reached) ? new Stop(NONE, NONE) : new Stop(at, referenceIn(reached));
            }
            Set<Item> next = behind(reached, text.charAt(at));
            if (next.isEmpty()) {
                return new Stop(at, referenceIn(reached));
            }
            reached = next;
        }
    }

    /** Adds all that holds at this place because of what is in the set. */
    private void complete(Set<Item> reached, List<Set<Item>> before, int at) {
        Deque<Item> open = new ArrayDeque<>(reached);
        while (!open.isEmpty()) {
            Item item = open.pop();
            List<Item> more = new ArrayList<>();
            if (!item.isDone()) {
                addBegun(more, item.symbol().term(), at);
                if (canBeEmpty.contains(item.symbol().term())) {
                    more.add(item.gone());
                }
            } else if (item.start() < at) {
                addWaiting(more, before.get(item.start()), item.way().term);
            }
            for (Item one : more) {
                if (reached.add(one)) {
                    open.push(one);
                }
            }
        }
    }

    private void addBegun(List<Item> more, String term, int at) {
        for (Way way : ways.getOrDefault(term, List.of())) {
            more.add(new Item(way, 0, at));
        }
    }

    private static void addWaiting(List<Item> more, Set<Item> items, String term) {
        for (Item item : items) {
            if (!item.isDone() && item.symbol().term().equals(term)) {
                more.add(item.gone());
            }
        }
    }

    private static Set<Item> behind(Set<Item> reached, char c) {
        Set<Item> behind = new HashSet<>();
        for (Item item : reached) {
            if (!item.isDone() && item.symbol().characters().indexOf(c) >= 0) {
                behind.add(item.gone());
            }
        }
        return behind;
    }

    private static boolean isWhole(Set<Item> reached) {
        return reached.stream().anyMatch(item -> item.isDone() && item.way().term.equals(TEXT));
    }

    private static int referenceIn(Set<Item> reached) {
        for (Item item : reached) {
            if (item.way().term.equals(REFERENCE) && item.next() > 0 && !item.isDone()) {
                return item.start();
            }
        }
        return NONE;
    }
}
