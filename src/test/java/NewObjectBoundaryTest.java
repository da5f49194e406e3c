/** Promise 1, and what it rests on, at its boundaries: a test for each sentence that names one. */
public final class NewObjectBoundaryTest {
    public static void main(String[] args) {
        noTextAndNoTerm();
        theFirstTwelve();
        zeroIsNoName();
        operatorsWhenDeclared();
        typesThatTakeNothing();
        theLastCall();
        Probe.end();
    }

    private static void noTextAndNoTerm() {
        Probe.sentence(1, "The constants and types at first; no text, no term.");
        Probe probe = new Probe();
        Probe.due("fault", probe.fault(), 0);
        Probe.due("place", probe.place(), -1);
        Probe.due("symbol(0)", probe.symbol(0), Probe.REFUSED);
        Probe.due("typeSymbol(0, 0)", probe.typeSymbol(0, 0), Probe.REFUSED);
        Probe.due("term(1)", probe.term(1), Probe.REFUSED);
        Probe.due("constant(1)", probe.constant(1), Probe.REFUSED);
        Probe.due("type(1)", probe.type(1), Probe.REFUSED);
        Probe.due("fault behind refused calls", probe.fault(), 0);
        probe.termFaultDue("", 2, 0);
        new Probe().constantFaultDue("", 2, 0);
        new Probe().typeFaultDue("", 2, 0);
        new Probe().constantDue("first:bool", 12);
        new Probe().typeDue("first", 4);
        new Probe().wholeTypeDue("\\(x:'first).x", "2 -1000 -1000");
    }

    private static void theFirstTwelve() {
        Probe.sentence(1, "CONSTANTS at first, numbers 0 to 11: = : 'a -> 'a -> bool; T, F : bool; "
                + "~ : bool -> bool; /\\, \\/, ==> : bool -> bool -> bool; !, ? : ('a -> bool) -> bool; "
                + "@ : ('a -> bool) -> 'a; 0 : num; SUC : num -> num.");
        Probe probe = new Probe();
        String[] texts = {"(=)", "T", "F", "(~)", "(/\\)", "(\\/)", "(==>)", "(!)", "(?)", "(@)", "0", "SUC"};
        String[] types = {"2 -1 2 -1 0", "0", "0", "2 0 0", "2 0 2 0 0", "2 0 2 0 0", "2 0 2 0 0",
            "2 2 -1 0 0", "2 2 -1 0 0", "2 2 -1 0 -1", "3", "2 3 3"};
        for (int c = 0; c < texts.length; c++) {
            probe.symbolsDue(texts[c], Integer.toString(2 * c + 1));
            Probe.due("type of " + texts[c], probe.typeOf(0), types[c]);
        }
        probe.constantDue("next:bool", 12);
        probe.symbolsDue("next", "25");
    }

    private static void zeroIsNoName() {
        Probe.sentence(1, "(T, F and SUC are names; 0 is none.");
        Probe probe = new Probe();
        for (String name : new String[] {"T", "F", "SUC"}) {
            probe.symbolsDue("\\" + name + "." + name, "-2 0");
            probe.constantFaultDue(name + ":bool", 4, 0);
            probe.termFaultDue("\\" + name + "'." + name + "''", 4, 0);
        }
        probe.termFaultDue("\\0.0", 2, 1);
        probe.constantFaultDue("0:bool", 2, 0);
    }

    private static void operatorsWhenDeclared() {
        Probe.sentence(1, "+ * < <= are constants only when they have been declared.)");
        Probe probe = new Probe();
        int number = 12;
        for (String operator : new String[] {"+", "*", "<", "<="}) {
            probe.termFaultDue("(" + operator + ")", 4, 0);
            probe.termFaultDue("0" + operator + "0", 4, 0);
            probe.constantFaultDue(operator + ":num->num->what", 3, 0);
            probe.termFaultDue("0" + operator + "0", 4, 0);
            probe.constantDue(operator + ":num->num->bool", number);
            probe.symbolsDue("(" + operator + ")", Integer.toString(2 * number + 1));
            probe.termDue("0" + operator + "0", 5);
            number++;
        }
        for (String operator : new String[] {"=", "/\\", "\\/", "==>", "<=>", "~", "!", "?", "@"}) {
            new Probe().termDue("(" + operator + ")", 1);
        }
    }

    private static void typesThatTakeNothing() {
        Probe.sentence(1, "There are bool, num and ind, which take nothing, and types that were declared.");
        Probe probe = new Probe();
        String[] names = {"bool", "ind", "num"};
        String[] codes = {"0", "1", "3"};
        for (int i = 0; i < names.length; i++) {
            probe.wholeTypeDue("\\(x:" + names[i] + ").x", "2 " + codes[i] + " " + codes[i]);
            probe.termFaultDue("\\(x:" + names[i] + " 'a).x", 3, 0);
            probe.termFaultDue("\\(x:" + names[i] + "s).x", 3, 0);
        }
        probe.termFaultDue("\\(x:one 'a).x", 3, 0);
        probe.typeDue("one 'a", 4);
        probe.wholeTypeDue("\\(x:one ind).x", "2 4 1 4 1");
    }

    private static void theLastCall() {
        Probe.sentence(1, "An object is used for at most 512 calls after it has been made");
        Probe probe = new Probe();
        for (int i = 0; i < 100; i++) {
            probe.constant("c" + i + ":'c" + i);
        }
        for (int i = 0; i < 30; i++) {
            probe.type("t" + i + " 'a 'b");
        }
        for (int i = 0; i < 123; i++) {
            probe.term(i % 2 == 0 ? "c99 = c0" : "$");
        }
        probe.feed("\\(x:t29 'z 'c99).c99");
        Probe.due("the 508th call", probe.term(20), 2);
        Probe.due("the 509th call", probe.symbol(1), 223);
        Probe.due("the 510th call", probe.typeSymbol(0, 1), 33);
        Probe.due("the 511th call", probe.typeSymbol(0, 2), -1102);
        Probe.due("the 512th call", probe.typeSymbol(0, 3), -1099);
        new Probe().termDue("T", 1);
    }
}
