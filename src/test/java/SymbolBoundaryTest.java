/** Promise 8 at its boundaries: a test for each sentence that names one. */
public final class SymbolBoundaryTest {
    public static void main(String[] args) {
        theLatestTerm();
        applicationsAndAbstractions();
        boundVariables();
        constants();
        noneSuch();
        allStaysWhenRefused();
        Probe.end();
    }

    private static void theLatestTerm() {
        Probe.sentence(8, "The latest term's symbol i in prefix order");
        Probe probe = new Probe();
        probe.symbolsDue("SUC 0", "-1 23 21");
        probe.symbolsDue("T", "3");
        probe.term("x");
        probe.constant("c:bool");
        probe.type("t");
        Probe.due("symbols behind a fault, a constant and a type", probe.symbols(), "3");
        probe.symbolsDue("\\f x.f(x T)F", "-2 -2 -1 -1 2 -1 0 3 5");
        probe.symbolsDue("T==>F==>T", "-1 -1 13 3 -1 -1 13 5 3");
    }

    private static void applicationsAndAbstractions() {
        Probe.sentence(8, "an application -1, an abstraction -2");
        Probe probe = new Probe();
        probe.symbolsDue("\\x.T", "-2 3");
        probe.symbolsDue("~T", "-1 7 3");
        probe.symbolsDue("(\\x.T)0", "-1 -2 3 21");
    }

    private static void boundVariables() {
        Probe.sentence(8, "a bound variable 2 d (d abstractions lie between)");
        Probe probe = new Probe();
        probe.symbolsDue("\\x.x", "-2 0");
        probe.symbolsDue("\\x y.x", "-2 -2 2");
        probe.symbolsDue("\\x.(\\y.y)x", "-2 -1 -2 0 0");
        probe.symbolsDue("\\x.(\\y.x)(\\z.x)", "-2 -1 -2 2 -2 2");
        // As many abstractions as a height of 50 has room for: 43, so that 42 lie between.
        String far = "any=\\y" + " x".repeat(7) + "." + ("any=\\" + "x ".repeat(8) + ".").repeat(4) + "any=\\x x x.y";
        probe.constantDue("any:'a", 12);
        probe.termDue(far, 6 * 4 + 43 + 1);
        Probe.due("the last symbol", probe.symbol(67), 84);
        probe.termFaultDue(far.replace("x x x.y", "x x x x.y"), 8, 0);
        Probe.due("the last symbol behind a fault", probe.symbol(67), 84);
    }

    private static void constants() {
        Probe.sentence(8, "a constant 2 c + 1.");
        Probe probe = new Probe();
        probe.symbolsDue("(=)", "1");
        probe.symbolsDue("T", "3");
        probe.symbolsDue("SUC", "23");
        for (int i = 0; i < 100; i++) {
            probe.constant("c" + i + ":bool");
        }
        probe.symbolsDue("c0", "25");
        probe.symbolsDue("c99", "223");
    }

    private static void noneSuch() {
        Probe.sentence(8, "IndexOutOfBoundsException if there is none such.");
        int[] never = {-1, -2, -500, Integer.MIN_VALUE, 500, 501, Integer.MAX_VALUE};
        Probe probe = new Probe();
        noneDue(probe, never);
        noneDue(probe, 0, 1);
        probe.term("x");
        noneDue(probe, 0);
        probe.termDue("SUC 0", 3);
        Probe.due("symbol(0)", probe.symbol(0), -1);
        Probe.due("symbol(2)", probe.symbol(2), 21);
        noneDue(probe, 3, 4);
        noneDue(probe, never);
        probe.termDue("T", 1);
        Probe.due("symbol(0)", probe.symbol(0), 3);
        noneDue(probe, 1, 2, 3);
        Probe full = new Probe();
        String row = "(T" + "/\\T".repeat(24) + ")";
        full.termDue("\\x y z." + row + ("/\\" + row).repeat(4), 500);
        Probe.due("symbol(0)", full.symbol(0), -2);
        Probe.due("symbol(499)", full.symbol(499), 3);
        noneDue(full, never);
    }

    private static void noneDue(Probe probe, int... wrong) {
        for (int i : wrong) {
            Probe.due("symbol(" + i + ")", probe.symbol(i), Probe.REFUSED);
        }
    }

    private static void allStaysWhenRefused() {
        Probe.sentence(8, "IndexOutOfBoundsException if there is none such.");
        for (int i : new int[] {-1, 4, 500, Integer.MIN_VALUE, Integer.MAX_VALUE}) {
            Probe.allStaysDue("symbol(" + i + ")", 20, probe -> {
                probe.type("t 'a");
                probe.constant("c:num->num");
                probe.term("\\(x:t 'b).c");
                probe.term("\\x.SUC x");
                probe.term("T T");
                probe.feed("\\(y:t 'c).c(SUC 7)  ");
            }, probe -> Probe.due("symbol(" + i + ")", probe.symbol(i), Probe.REFUSED));
        }
    }
}
