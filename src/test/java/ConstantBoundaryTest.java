/** Promise 4 at its boundaries: a test for each sentence that names one. */
public final class ConstantBoundaryTest {
    private static final String TEN = "(bool" + "->bool".repeat(9) + ")";

    public static void main(String[] args) {
        theFirstBytes();
        nameOrOperator();
        newNames();
        fromNowOn();
        nothingBehindAFault();
        sizeOfTheType();
        whetherItIsOne();
        sizeBeforeType();
        oneHundredMore();
        refusedCalls();
        allStaysWhenRefused();
        Probe.end();
    }

    private static void theFirstBytes() {
        Probe.sentence(4, "The first n bytes are N : type");
        startDue("c:bool", 0, -1, 2, 0);
        startDue("c:bool", 1, -1, 2, 1);
        startDue("c:bool", 2, -1, 2, 2);
        startDue("c:bool", 3, -1, 3, 0);
        startDue("c:bool", 6, 12, 0, -1);
        startDue("c:bool)", 6, 12, 0, -1);
        startDue("c:bool)", 7, -1, 2, 6);
        startDue("c:bool->", 8, -1, 2, 8);
        startDue("c:bool->", 7, -1, 1, 6);
        startDue("c:bool 'a", 9, -1, 3, 0);
        startDue("c:'a 'a", 7, -1, 2, 5);
        startDue("c:'a 'a", 4, 12, 0, -1);
    }

    private static void startDue(String text, int n, int answer, int fault, int place) {
        Probe probe = new Probe();
        probe.feed(text);
        String what = "constant of the first " + n + " of <" + text + ">";
        probe.outcomeDue(what, probe.constant(n), answer, fault, place);
        Probe.due("constant(1) when all bytes are gone", probe.constant(1), Probe.REFUSED);
    }

    private static void nameOrOperator() {
        Probe.sentence(4, "N a name or one of + * < <= that no constant has (T is one, 0 is no name)");
        for (String right : new String[] {"+", "*", "<", "<=", "c", "_", "c'", "Suc", "t", "x0", "bool", "byte"}) {
            new Probe().constantDue(right + ":bool", 12);
        }
        for (String wrong : new String[] {"=", "~", "/\\", "\\/", "==>", "<=>", "!", "?", "@", "\\", "->", ":=", "<-",
            "[", "(", ")", ".", ":", "0", "1", "49", "'a", "by", "in", ""}) {
            new Probe().constantFaultDue(wrong + " :bool", 2, wrong.isEmpty() ? 1 : 0);
        }
        new Probe().constantFaultDue("(+):bool", 2, 0);
        new Probe().constantFaultDue("c d:bool", 2, 2);
        for (String notNew : new String[] {"T", "F", "SUC"}) {
            new Probe().constantFaultDue(notNew + ":bool", 4, 0);
        }
    }

    private static void newNames() {
        Probe.sentence(4, "that no constant has");
        Probe probe = new Probe();
        int number = 12;
        for (String name : new String[] {"+", "*", "<", "<=", "c", "C", "c'", "cc"}) {
            probe.constantDue(name + ":num", number);
            probe.constantFaultDue(" " + name + ":bool", 4, 1);
            number++;
        }
        probe.wholeTypeDue("c", "3");
        probe.typeDue("d", 4);
        probe.constantDue("d:d", number);
    }

    private static void fromNowOn() {
        Probe.sentence(4, "it is one from now on; its number");
        Probe probe = new Probe();
        probe.termFaultDue("c", 4, 0);
        probe.constantDue("c:'a->num", 12);
        probe.symbolsDue("c", "25");
        Probe.due("type of c", probe.typeOf(0), "2 -1 3");
        probe.termFaultDue("d", 4, 0);
        probe.constantDue("d:bool", 13);
        probe.symbolsDue("c d", "-1 25 27");
        new Probe().termFaultDue("c", 4, 0);
        probe.typeDue("one 'a", 4);
        probe.typeDue("two 'a 'a", 5);
        typeDue(probe, 14, "'a->'a", "2 -1 -1");
        typeDue(probe, 15, "'b", "-1");
        typeDue(probe, 16, "one 'a->num", "2 4 -1 3");
        typeDue(probe, 17, "two 'b 'b", "5 -1 -1");
        typeDue(probe, 18, "two(one num)'b->one 'c->'b", "2 5 4 3 -1 2 4 -2 -1");
    }

    private static void typeDue(Probe probe, int number, String written, String type) {
        probe.constantDue("e" + number + ":" + written, number);
        probe.wholeTypeDue("e" + number, type);
    }

    private static void nothingBehindAFault() {
        Probe.sentence(4, "-1 if there is a fault.");
        String[] faults = {"c:", "c:$", "c:what", "c:bool bool", "T:bool", "c:bool" + "->bool".repeat(12), "c:(bool"};
        for (String text : faults) {
            Probe probe = new Probe();
            probe.termDue("\\x.x", 2);
            Probe.due("constant <" + text + ">", probe.constant(text), -1);
            Probe.due("fault above 0", probe.fault() > 0 ? 1 : 0, 1);
            Probe.due("the term before", probe.symbols(), "-2 0");
            probe.termFaultDue("c", 4, 0);
            probe.constantDue("c:num", 12);
            probe.wholeTypeDue("c", "3");
        }
    }

    private static void sizeOfTheType() {
        Probe.sentence(4, "(The type's size: a LARGE fault;");
        Probe probe = new Probe();
        probe.typeDue("one 'a", 4);
        probe.constantDue("forty:one(" + TEN + "->" + TEN + ")", 12);
        probe.constantFaultDue(" c:one " + TEN + "->one " + TEN, 8, 1);
        probe.constantDue("twelve:bool" + "->bool".repeat(11), 13);
        probe.constantFaultDue(" c:bool" + "->bool".repeat(12), 8, 1);
        probe.constantDue("high:" + "one(".repeat(11) + "num" + ")".repeat(11), 14);
        probe.constantFaultDue(" c:" + "one(".repeat(12) + "num" + ")".repeat(12), 8, 1);
        probe.constantDue("deep:" + "(".repeat(40) + "num" + ")".repeat(40), 15);
        probe.termDue("forty", 1);
        Probe.due("the last symbol of forty's type", probe.typeSymbol(0, 39), 0);
        Probe.due("one more", probe.typeSymbol(0, 40), Probe.REFUSED);
        probe.termDue("twelve", 1);
    }

    private static void whetherItIsOne() {
        Probe.sentence(4, "then whether it is one: a TYPE fault.)");
        Probe probe = new Probe();
        probe.typeDue("two 'a 'b", 4);
        for (String wrong : new String[] {"what", "bool->what", "two", "two num", "two num num num", "num num",
            "two(two num)num", "two num(what)", "num->two num num num"}) {
            probe.constantFaultDue(" c:" + wrong, 3, 1);
        }
        probe.constantDue("c:num->two num(two 'a 'b)", 12);
    }

    private static void sizeBeforeType() {
        Probe.sentence(4, "(The type's size: a LARGE fault; then whether it is one: a TYPE fault.)");
        Probe probe = new Probe();
        probe.constantFaultDue("c:what" + "->bool".repeat(11), 3, 0);
        probe.constantFaultDue("c:what" + "->bool".repeat(12), 8, 0);
        probe.constantFaultDue("c:" + "bool->".repeat(11) + "what", 3, 0);
        probe.constantFaultDue("c:" + "bool->".repeat(11) + "what num", 8, 0);
        probe.typeDue("one 'a", 4);
        probe.constantFaultDue("c:" + "one(".repeat(11) + "what" + ")".repeat(11), 3, 0);
        probe.constantFaultDue("c:" + "one(".repeat(12) + "what" + ")".repeat(12), 8, 0);
        probe.constantFaultDue("c:" + "one(".repeat(10) + "one what" + ")".repeat(10), 3, 0);
        probe.constantFaultDue("c:" + "one(".repeat(11) + "one what" + ")".repeat(11), 8, 0);
        probe.constantFaultDue("c:bool" + " what".repeat(39), 3, 0);
        probe.constantFaultDue("c:bool" + " what".repeat(40), 8, 0);
        probe.constantFaultDue("c:bool" + " num".repeat(39), 3, 0);
        probe.constantFaultDue("c:bool" + " num".repeat(40), 8, 0);
        probe.constantFaultDue("c:what(bool" + "->bool".repeat(10) + ")'a", 3, 0);
        probe.constantFaultDue("c:what 'a(bool" + "->bool".repeat(11) + ")", 8, 0);
    }

    private static void oneHundredMore() {
        Probe.sentence(4, "more than 100 constants besides the first twelve");
        Probe probe = new Probe();
        for (int i = 0; i < 99; i++) {
            Probe.due("constant c" + i, probe.constant("c" + i + ":bool"), 12 + i);
        }
        probe.constantFaultDue("c:what", 3, 0);
        probe.constantDue("c99:ind", 111);
        probe.constantFaultDue(" c:ind", 8, 1);
        probe.constantFaultDue("+:ind", 8, 0);
        probe.symbolsDue("c99", "223");
        Probe.due("type of c99", probe.typeOf(0), "1");
        probe.termFaultDue("c", 4, 0);
        probe.symbolsDue("c0=c98", "-1 -1 1 25 221");
    }

    private static void refusedCalls() {
        Probe.sentence(4, "IllegalArgumentException if n is below 0 or there are not so many "
                + "(all stays, also here and below).");
        Probe probe = new Probe();
        int[] always = {-1, -2, Integer.MIN_VALUE, 8001, Integer.MAX_VALUE};
        for (int n : always) {
            Probe.due("constant(" + n + ") of no bytes", probe.constant(n), Probe.REFUSED);
        }
        Probe.due("constant(1) of no bytes", probe.constant(1), Probe.REFUSED);
        Probe.due("constant(0) of no bytes", probe.constant(0), -1);
        probe.feed("c          :    bool");
        for (int n : always) {
            Probe.due("constant(" + n + ") of 20 bytes", probe.constant(n), Probe.REFUSED);
        }
        Probe.due("constant(21) of 20 bytes", probe.constant(21), Probe.REFUSED);
        Probe.due("constant(20) of 20 bytes", probe.constant(20), 12);
    }

    private static void allStaysWhenRefused() {
        Probe.sentence(4, "IllegalArgumentException if n is below 0 or there are not so many "
                + "(all stays, also here and below).");
        for (int n : new int[] {-1, 21, Integer.MIN_VALUE, Integer.MAX_VALUE}) {
            Probe.allStaysDue("constant(" + n + ")", 20, probe -> {
                probe.constant("c:'b->num");
                probe.term("\\(x:'c).c x");
                probe.constant("c:bool");
                probe.feed("d       :         'd");
            }, probe -> Probe.due("constant(" + n + ")", probe.constant(n), Probe.REFUSED));
        }
    }
}
