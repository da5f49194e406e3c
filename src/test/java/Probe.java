import java.io.IOException;
import java.nio.charset.StandardCharsets;
import java.nio.file.Files;
import java.nio.file.Path;
import java.util.function.Consumer;

/** One reader under test, fed with whole texts, and the count of answers that were not due. */
final class Probe {
    /** A call threw the very exception that the document names. */
    static final int REFUSED = Integer.MIN_VALUE;
    /** It threw a kind of that exception, as the machine itself does. */
    static final int REFUSED_BY_MACHINE = Integer.MIN_VALUE + 1;

    private static final int MAX_CALLS = 512;

    private static int wrong;
    private static int checked;
    private static String document = "";
    private static String sentence = "";
    private static int checkedBeforeSentence;

    final TypedTermReader reader = new TypedTermReader();
    private int calls;

    /** All answers from here on are due to this sentence of the document, on which the promise rests. */
    static void sentence(int promise, String words) {
        endSentence();
        sentence = "promise " + promise + " \"" + words + "\": ";
        due("whether these are words of the document", Boolean.toString(document().contains(words)), "true");
        checkedBeforeSentence = checked;
    }

    /** The document's text; none if it cannot be read, so that no words are found in it. */
    private static String document() {
        if (document.isEmpty()) {
            try {
                document = Files.readString(Path.of("../shared/DOC.md"));
            } catch (IOException e) {
                System.out.println("../shared/DOC.md cannot be read: " + e.getMessage());
            }
        }
        return document;
    }

    private static void endSentence() {
        if (!sentence.isEmpty() && checked == checkedBeforeSentence) {
            wrong++;
            System.out.println(sentence + "no answer was looked at");
        }
    }

    static void due(String what, long got, long want) {
        due(what, Long.toString(got), Long.toString(want));
    }

    static void due(String what, String got, String want) {
        checked++;
        if (!got.equals(want)) {
            wrong++;
            System.out.println(sentence + what + " answered " + got + ", due is " + want);
        }
    }

    /** Ends the test: with exit code 1 if an answer was not the one that is due. */
    static void end() {
        endSentence();
        System.out.println(checked + " answers, " + wrong + " not as due");
        if (wrong != 0 || checked == 0) {
            System.exit(1);
        }
    }

    /** Beyond its 512th call an object's answers are free, so no sentence can be tested there. */
    private void count() {
        calls++;
        if (calls == MAX_CALLS + 1 && !sentence.isEmpty()) {
            due("the test's own count of calls", calls, MAX_CALLS);
        }
    }

    /** Feeds the text; what fills up the last twenty bytes makes a fault if it is ever read. */
    boolean feed(String text) {
        byte[] bytes = text.getBytes(StandardCharsets.ISO_8859_1);
        boolean taken = true;
        for (int i = 0; i < bytes.length; i += 20) {
            count();
            taken = reader.feed(four(bytes, i), four(bytes, i + 4), four(bytes, i + 8),
                    four(bytes, i + 12), four(bytes, i + 16));
        }
        return taken;
    }

    private static int four(byte[] bytes, int from) {
        int number = 0;
        for (int i = from; i < from + 4; i++) {
            number = number << 8 | (i < bytes.length ? bytes[i] & 255 : '$');
        }
        return number;
    }

    int term(int n) {
        count();
        try {
            return reader.term(n);
        } catch (IllegalArgumentException e) {
            return refusal(e, IllegalArgumentException.class);
        }
    }

    int constant(int n) {
        count();
        try {
            return reader.constant(n);
        } catch (IllegalArgumentException e) {
            return refusal(e, IllegalArgumentException.class);
        }
    }

    int type(int n) {
        count();
        try {
            return reader.type(n);
        } catch (IllegalArgumentException e) {
            return refusal(e, IllegalArgumentException.class);
        }
    }

    int symbol(int i) {
        count();
        try {
            return reader.symbol(i);
        } catch (IndexOutOfBoundsException e) {
            return refusal(e, IndexOutOfBoundsException.class);
        }
    }

    int typeSymbol(int i, int k) {
        count();
        try {
            return reader.typeSymbol(i, k);
        } catch (IndexOutOfBoundsException e) {
            return refusal(e, IndexOutOfBoundsException.class);
        }
    }

    private static int refusal(RuntimeException thrown, Class<?> named) {
        return thrown.getClass() == named ? REFUSED : REFUSED_BY_MACHINE;
    }

    int fault() {
        count();
        return reader.fault();
    }

    int place() {
        count();
        return reader.place();
    }

    int term(String text) {
        feed(text);
        return term(text.length());
    }

    int constant(String text) {
        feed(text);
        return constant(text.length());
    }

    int type(String text) {
        feed(text);
        return type(text.length());
    }

    /** A call for a text answered what it did, with this fault at this place. */
    void outcomeDue(String call, int got, int answer, int fault, int place) {
        due(call, got, answer);
        due("fault of " + call, fault(), fault);
        due("place of " + call, place(), place);
    }

    /** The text is a term with so many symbols. */
    void termDue(String text, int symbols) {
        due("term " + brief(text), term(text), symbols);
        noFaultDue(text);
    }

    void constantDue(String text, int number) {
        due("constant " + brief(text), constant(text), number);
        noFaultDue(text);
    }

    void typeDue(String text, int types) {
        due("type " + brief(text), type(text), types);
        noFaultDue(text);
    }

    private void noFaultDue(String text) {
        due("fault of " + brief(text), fault(), 0);
        due("place of " + brief(text), place(), -1);
    }

    /** The text is no term, for this fault at this place. */
    void termFaultDue(String text, int fault, int place) {
        due("term " + brief(text), term(text), -1);
        faultDue(text, fault, place);
    }

    void constantFaultDue(String text, int fault, int place) {
        due("constant " + brief(text), constant(text), -1);
        faultDue(text, fault, place);
    }

    void typeFaultDue(String text, int fault, int place) {
        due("type " + brief(text), type(text), -1);
        faultDue(text, fault, place);
    }

    private void faultDue(String text, int fault, int place) {
        due("fault of " + brief(text), fault(), fault);
        due("place of " + brief(text), place(), place);
    }

    /** The latest term's symbols, with blanks between. */
    String symbols() {
        StringBuilder row = new StringBuilder();
        int symbol = symbol(0);
        for (int i = 1; symbol > REFUSED_BY_MACHINE; i++) {
            row.append(i == 1 ? "" : " ").append(symbol);
            symbol = symbol(i);
        }
        return row.toString();
    }

    /** The symbols of the type of symbol i of the latest term. */
    String typeOf(int i) {
        StringBuilder row = new StringBuilder();
        int symbol = typeSymbol(i, 0);
        for (int k = 1; symbol > REFUSED_BY_MACHINE; k++) {
            row.append(k == 1 ? "" : " ").append(symbol);
            symbol = typeSymbol(i, k);
        }
        return row.toString();
    }

    void symbolsDue(String text, String symbols) {
        term(text);
        due("fault of " + brief(text), fault(), 0);
        due("symbols of " + brief(text), symbols(), symbols);
    }

    /** The whole term's type. */
    void wholeTypeDue(String text, String type) {
        term(text);
        due("fault of " + brief(text), fault(), 0);
        due("type of " + brief(text), typeOf(0), type);
    }

    /** Two readers with the same calls before, one of them with refused ones too, answer alike. */
    static void allStaysDue(String what, int bytes, Consumer<Probe> before, Consumer<Probe> refused) {
        Probe one = new Probe();
        before.accept(one);
        Probe other = new Probe();
        before.accept(other);
        refused.accept(other);
        due("all that can be seen behind " + what, other.wholeState(bytes), one.wholeState(bytes));
    }

    /** All that can be seen of the reader, which has so many bytes: they are gone behind it. */
    private String wholeState(int bytes) {
        StringBuilder seen = new StringBuilder(latest());
        seen.append("; so many bytes and no more: ").append(term(bytes + 1)).append(' ').append(term(bytes));
        seen.append("; ").append(latest());
        seen.append("; next constant ").append(constant("next_one : 'next"));
        seen.append("; next type ").append(type("next_one"));
        term("\\(x : 'next_one). x");
        seen.append("; next type name ").append(typeOf(0));
        return seen.toString();
    }

    private String latest() {
        // The faults first: to find the term's end, a call has to be refused.
        StringBuilder seen = new StringBuilder("fault ");
        seen.append(fault()).append(" at ").append(place());
        String symbols = symbols();
        seen.append("; term ").append(symbols).append(':');
        for (int i = 0; i < symbols.split(" ").length; i++) {
            seen.append(' ').append(typeOf(i)).append(',');
        }
        return seen.toString();
    }

    private static String brief(String text) {
        return text.length() <= 70 ? "<" + text + ">"
                : "<" + text.substring(0, 60) + "..> of " + text.length() + " bytes";
    }
}
