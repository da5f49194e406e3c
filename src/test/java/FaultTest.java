/** Promise 6: the latest fault; 0 if the latest text had none. And which of two comes first. */
public final class FaultTest {
    public static void main(String[] args) {
        eachKind();
        theLatestTextCounts();
        theOrderOfFaults();
        Probe.end();
    }

    private static void eachKind() {
        Probe probe = new Probe();
        due(probe, "T $", 1);
        due(probe, "T )", 2);
        due(probe, "T T", 3);
        due(probe, "x", 4);
        due(probe, "50", 8);
        due(probe, "T", 0);
    }

    private static void due(Probe probe, String text, int fault) {
        probe.term(text);
        Probe.due("fault of <" + text + ">", probe.reader.fault(), fault);
        Probe.due("fault of <" + text + "> again", probe.reader.fault(), fault);
    }

    private static void theLatestTextCounts() {
        Probe probe = new Probe();
        probe.term("$");
        probe.feed("T");
        Probe.due("fault behind feed", probe.reader.fault(), 1);
        Probe.due("term(21)", probe.term(21), Probe.REFUSED);
        Probe.due("constant(-1)", probe.constant(-1), Probe.REFUSED);
        Probe.due("type(40)", probe.type(40), Probe.REFUSED);
        Probe.due("symbol(0)", probe.symbol(0), Probe.REFUSED);
        Probe.due("fault behind refused calls", probe.reader.fault(), 1);
        probe.term(1);
        Probe.due("fault of T", probe.reader.fault(), 0);
        probe.constant("T : bool");
        Probe.due("fault of a constant", probe.reader.fault(), 4);
        probe.constant("c : bool");
        Probe.due("fault of a right constant", probe.reader.fault(), 0);
        probe.type("bool");
        Probe.due("fault of a type", probe.reader.fault(), 4);
        probe.type("t");
        Probe.due("fault of a right type", probe.reader.fault(), 0);
    }

    private static void theOrderOfFaults() {
        Probe probe = new Probe();
        // Tokens are read one by one, so what comes first in the text is found first.
        due(probe, ") $", 2);
        due(probe, "$ )", 1);
        due(probe, "x 50 )", 8);
        due(probe, "x ] 50", 2);
        // Syntax, then size, then names, then types, then the sizes of types.
        String high = "~".repeat(50);
        due(probe, high + "x )", 2);
        due(probe, high + "(T x)", 8);
        due(probe, "(T T) x", 4);
        due(probe, "(x : what)", 4);
        due(probe, "\\a b c d e f g h i j k l m. T T", 3);
        due(probe, "\\a b c d e f g h i j k l m. T", 8);
        due(probe, "\\a b c d e f g h i j k l m. x", 4);
    }
}
