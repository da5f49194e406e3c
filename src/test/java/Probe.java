import java.nio.charset.StandardCharsets;

/** One reader under test, fed with whole texts, and the count of answers that were not due. */
final class Probe {
    static final int REFUSED = Integer.MIN_VALUE;

    private static int wrong;
    private static int checked;

    final TypedTermReader reader = new TypedTermReader();

    static void due(String what, long got, long want) {
        due(what, Long.toString(got), Long.toString(want));
    }

    static void due(String what, String got, String want) {
        checked++;
        if (!got.equals(want)) {
            wrong++;
            System.out.println(what + " answered " + got + ", due is " + want);
        }
    }

    /** Ends the test: with exit code 1 if an answer was not the one that is due. */
    static void end() {
        System.out.println(checked + " answers, " + wrong + " not as due");
        if (wrong != 0 || checked == 0) {
            System.exit(1);
        }
    }

    /** Feeds the text; what fills up the last twenty bytes makes a fault if it is ever read. */
    boolean feed(String text) {
        byte[] bytes = text.getBytes(StandardCharsets.ISO_8859_1);
        boolean taken = true;
        for (int i = 0; i < bytes.length; i += 20) {
            taken = reader.feed(four(bytes, i), four(bytes, i + 4), four(bytes, i + 8),
                    four(bytes, i + 12), four(bytes, i + 16));
        }
        return taken;
    }

    private static int four(byte[] bytes, int from) {
        int number = 0;
        for (int i = from; i < from + 4; i++) {
            number = number << 8 | (i < bytes.length ? bytes[i] & 255 : '$');
        }
        return number;
    }

    int term(int n) {
        try {
            return reader.term(n);
        } catch (IllegalArgumentException e) {
            return REFUSED;
        }
    }

    int constant(int n) {
        try {
            return reader.constant(n);
        } catch (IllegalArgumentException e) {
            return REFUSED;
        }
    }

    int type(int n) {
        try {
            return reader.type(n);
        } catch (IllegalArgumentException e) {
            return REFUSED;
        }
    }

    int symbol(int i) {
        try {
            return reader.symbol(i);
        } catch (IndexOutOfBoundsException e) {
            return REFUSED;
        }
    }

    int typeSymbol(int i, int k) {
        try {
            return reader.typeSymbol(i, k);
        } catch (IndexOutOfBoundsException e) {
            return REFUSED;
        }
    }

    int term(String text) {
        feed(text);
        return term(text.length());
    }

    int constant(String text) {
        feed(text);
        return constant(text.length());
    }

    int type(String text) {
        feed(text);
        return type(text.length());
    }

    /** The text is a term with so many symbols. */
    void termDue(String text, int symbols) {
        due("term " + brief(text), term(text), symbols);
        noFaultDue(text);
    }

    void constantDue(String text, int number) {
        due("constant " + brief(text), constant(text), number);
        noFaultDue(text);
    }

    void typeDue(String text, int types) {
        due("type " + brief(text), type(text), types);
        noFaultDue(text);
    }

    private void noFaultDue(String text) {
        due("fault of " + brief(text), reader.fault(), 0);
        due("place of " + brief(text), reader.place(), -1);
    }

    /** The text is no term, for this fault at this place. */
    void termFaultDue(String text, int fault, int place) {
        due("term " + brief(text), term(text), -1);
        faultDue(text, fault, place);
    }

    void constantFaultDue(String text, int fault, int place) {
        due("constant " + brief(text), constant(text), -1);
        faultDue(text, fault, place);
    }

    void typeFaultDue(String text, int fault, int place) {
        due("type " + brief(text), type(text), -1);
        faultDue(text, fault, place);
    }

    private void faultDue(String text, int fault, int place) {
        due("fault of " + brief(text), reader.fault(), fault);
        due("place of " + brief(text), reader.place(), place);
    }

    /** The latest term's symbols, with blanks between. */
    String symbols() {
        StringBuilder row = new StringBuilder();
        for (int i = 0; symbol(i) != REFUSED; i++) {
            row.append(i == 0 ? "" : " ").append(symbol(i));
        }
        return row.toString();
    }

    /** The symbols of the type of symbol i of the latest term. */
    String typeOf(int i) {
        StringBuilder row = new StringBuilder();
        for (int k = 0; typeSymbol(i, k) != REFUSED; k++) {
            row.append(k == 0 ? "" : " ").append(typeSymbol(i, k));
        }
        return row.toString();
    }

    void symbolsDue(String text, String symbols) {
        term(text);
        due("fault of " + brief(text), reader.fault(), 0);
        due("symbols of " + brief(text), symbols(), symbols);
    }

    /** The whole term's type. */
    void wholeTypeDue(String text, String type) {
        term(text);
        due("fault of " + brief(text), reader.fault(), 0);
        due("type of " + brief(text), typeOf(0), type);
    }

    private static String brief(String text) {
        return text.length() <= 70 ? "<" + text + ">"
                : "<" + text.substring(0, 60) + "..> of " + text.length() + " bytes";
    }
}
