/** Promise 8: the latest term's symbols in prefix order. */
public final class SymbolTest {
    public static void main(String[] args) {
        prefixOrder();
        boundVariables();
        whatSignsMean();
        noSuchSymbol();
        Probe.end();
    }

    private static void prefixOrder() {
        Probe probe = new Probe();
        probe.symbolsDue("T", "3");
        probe.symbolsDue("SUC 0", "-1 23 21");
        probe.symbolsDue("3", "-1 23 -1 23 -1 23 21");
        probe.symbolsDue("(/\\) T F", "-1 -1 9 3 5");
        probe.symbolsDue("T /\\ F", "-1 -1 9 3 5");
        probe.symbolsDue("T ==> F ==> T", "-1 -1 13 3 -1 -1 13 5 3");
        probe.symbolsDue("\\f x. f (x T) F", "-2 -2 -1 -1 2 -1 0 3 5");
    }

    private static void boundVariables() {
        Probe probe = new Probe();
        probe.symbolsDue("\\x y z. x y z", "-2 -2 -2 -1 -1 4 2 0");
        probe.symbolsDue("\\x. \\x. x", "-2 -2 0");
        probe.symbolsDue("\\x x. x", "-2 -2 0");
        probe.symbolsDue("\\x. (\\x. x) x", "-2 -1 -2 0 0");
        probe.symbolsDue("\\x. (\\y. x) (\\z. x)", "-2 -1 -2 2 -2 2");
        probe.symbolsDue("\\T. T", "-2 0");
        probe.symbolsDue("\\SUC. 1", "-2 -1 23 21");
        probe.symbolsDue("\\x x'. x", "-2 -2 2");
        probe.symbolsDue("!x. ?y. x = y", "-1 15 -2 -1 17 -2 -1 -1 1 2 0");
        probe.symbolsDue("(\\x. x) T", "-1 -2 0 3");
        probe.termFaultDue("(\\x. T) x", 4, 0);
        probe.termFaultDue("\\(x : x). T", 3, 0);
    }

    private static void whatSignsMean() {
        Probe probe = new Probe();
        probe.symbolsDue("~ T", "-1 7 3");
        probe.symbolsDue("T \\/ F", "-1 -1 11 3 5");
        probe.symbolsDue("T <=> F", "-1 -1 1 3 5");
        probe.symbolsDue("0 = 0", "-1 -1 1 21 21");
        probe.symbolsDue("@x. x", "-1 19 -2 0");
        probe.symbolsDue("? x. T", "-1 17 -2 3");
        probe.symbolsDue("(!) (\\x. T)", "-1 15 -2 3");
        probe.symbolsDue("(<=>)", "1");
        probe.symbolsDue("!x y. T", "-1 15 -2 -1 15 -2 3");
        probe.symbolsDue("~~T", "-1 7 -1 7 3");
        probe.symbolsDue("((T : bool) : bool)", "3");
    }

    private static void noSuchSymbol() {
        Probe probe = new Probe();
        probe.termDue("SUC 0", 3);
        Probe.due("symbol(2)", probe.symbol(2), 21);
        int[] wrong = {-1, 3, 4, 499, 500, 501, Integer.MIN_VALUE, Integer.MAX_VALUE};
        for (int i : wrong) {
            Probe.due("symbol(" + i + ")", probe.symbol(i), Probe.REFUSED);
        }
        probe.termDue("T", 1);
        Probe.due("symbol(1) of a shorter term", probe.symbol(1), Probe.REFUSED);
    }
}
