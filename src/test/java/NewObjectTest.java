/** Promise 1: the constants and types at first; no text, no term. */
public final class NewObjectTest {
    public static void main(String[] args) {
        noTextAndNoTerm();
        constantsAtFirst();
        typesAtFirst();
        objectsAreApart();
        Probe.end();
    }

    private static void noTextAndNoTerm() {
        Probe probe = new Probe();
        Probe.due("fault at first", probe.reader.fault(), 0);
        Probe.due("place at first", probe.reader.place(), -1);
        Probe.due("symbol(0) at first", probe.symbol(0), Probe.REFUSED);
        Probe.due("typeSymbol(0, 0) at first", probe.typeSymbol(0, 0), Probe.REFUSED);
        Probe.due("term(1) at first", probe.term(1), Probe.REFUSED);
        Probe.due("fault behind a refused call", probe.reader.fault(), 0);
        Probe.due("term(0) at first", probe.term(0), -1);
        Probe.due("fault of no bytes", probe.reader.fault(), 2);
        Probe.due("place of no bytes", probe.reader.place(), 0);
    }

    private static void constantsAtFirst() {
        Probe probe = new Probe();
        String[] texts = {"(=)", "T", "F", "(~)", "(/\\)", "(\\/)", "(==>)", "(!)", "(?)", "(@)", "0", "SUC"};
        String[] types = {"2 -1 2 -1 0", "0", "0", "2 0 0", "2 0 2 0 0", "2 0 2 0 0", "2 0 2 0 0",
            "2 2 -1 0 0", "2 2 -1 0 0", "2 2 -1 0 -1", "3", "2 3 3"};
        for (int c = 0; c < texts.length; c++) {
            probe.symbolsDue(texts[c], Integer.toString(2 * c + 1));
            Probe.due("type of " + texts[c], probe.typeOf(0), types[c]);
        }
        for (String operator : new String[] {"+", "*", "<", "<="}) {
            probe.termFaultDue("(" + operator + ")", 4, 0);
        }
        probe.constantDue("first : bool", 12);
    }

    private static void typesAtFirst() {
        Probe probe = new Probe();
        probe.wholeTypeDue("\\(x : bool) (y : ind) (z : num). z", "2 0 2 1 2 3 3");
        probe.termFaultDue("\\(x : list). x", 3, 0);
        probe.typeDue("list", 4);
    }

    private static void objectsAreApart() {
        Probe one = new Probe();
        Probe other = new Probe();
        one.constantDue("c : bool", 12);
        one.typeDue("t", 4);
        one.termDue("c", 1);
        one.feed("x");
        other.termFaultDue("c", 4, 0);
        other.constantFaultDue("d : t", 3, 0);
        Probe.due("term(1) without bytes", other.term(1), Probe.REFUSED);
    }
}
