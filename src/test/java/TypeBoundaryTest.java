/** Promise 5 at its boundaries: a test for each sentence that names one. */
public final class TypeBoundaryTest {
    public static void main(String[] args) {
        theFirstBytes();
        newNames();
        atMostTwo();
        takesSoMany();
        howManyThereAre();
        nothingBehindAFault();
        thirtyMore();
        refusedCalls();
        allStaysWhenRefused();
        Probe.end();
    }

    private static void theFirstBytes() {
        Probe.sentence(5, "The first n bytes are N 'a ..");
        startDue("t 'a 'b", 0, -1, 2, 0);
        startDue("t 'a 'b", 1, 4, 0, -1);
        startDue("t 'a 'b", 2, 4, 0, -1);
        startDue("t 'a 'b", 3, -1, 1, 2);
        startDue("t 'a 'b", 4, 4, 0, -1);
        startDue("t 'a 'b", 7, 4, 0, -1);
        startDue("t 'a $", 5, 4, 0, -1);
        startDue("t 'a $", 6, -1, 1, 5);
        startDue("num", 2, 4, 0, -1);
        startDue("num", 3, -1, 4, 0);
    }

    private static void startDue(String text, int n, int answer, int fault, int place) {
        Probe probe = new Probe();
        probe.feed(text);
        String what = "type of the first " + n + " of <" + text + ">";
        probe.outcomeDue(what, probe.type(n), answer, fault, place);
        Probe.due("type(1) when all bytes are gone", probe.type(1), Probe.REFUSED);
    }

    private static void newNames() {
        Probe.sentence(5, "N a name that no type has");
        for (String taken : new String[] {"bool", "ind", "num", "num 'a 'b"}) {
            new Probe().typeFaultDue(" " + taken, 4, 1);
        }
        for (String right : new String[] {"T", "SUC", "nums", "nu", "Num", "_", "num'", "fun"}) {
            Probe probe = new Probe();
            probe.typeDue(right, 4);
            probe.typeFaultDue(right + " 'a", 4, 0);
        }
        for (String wrong : new String[] {"->", "'a", "0", "+", "<=", "(t)", "by", "in", "="}) {
            new Probe().typeFaultDue(wrong, 2, 0);
        }
    }

    private static void atMostTwo() {
        Probe.sentence(5, "with at most two type names (which may be the same one)");
        new Probe().typeDue("t", 4);
        new Probe().typeDue("t 'a", 4);
        new Probe().typeDue("t 'a 'b", 4);
        new Probe().typeDue("t 'a 'a", 4);
        new Probe().typeFaultDue("t 'a 'b 'c", 2, 8);
        new Probe().typeFaultDue("t 'a 'a 'a", 2, 8);
        new Probe().typeFaultDue("t 'a 'a 'a 'a", 2, 8);
        new Probe().typeFaultDue("t 'a b", 2, 5);
        new Probe().typeFaultDue("t ('a)", 2, 2);
        new Probe().typeFaultDue("t 'a 'b)", 2, 7);
    }

    private static void takesSoMany() {
        Probe.sentence(5, "N takes so many from now on");
        String[] texts = {"t", "t 'a", "t 'a 'b", "t 'a 'a"};
        int[] takes = {0, 1, 2, 2};
        for (int i = 0; i < texts.length; i++) {
            Probe probe = new Probe();
            probe.constantFaultDue("c:t", 3, 0);
            probe.typeDue(texts[i], 4);
            int number = 12;
            for (int taken = 0; taken <= 4; taken++) {
                String text = "c" + taken + ":t" + " num".repeat(taken);
                if (taken == takes[i]) {
                    probe.constantDue(text, number);
                } else {
                    probe.constantFaultDue(text, 3, 0);
                }
            }
            probe.wholeTypeDue("c" + takes[i], "4" + " 3".repeat(takes[i]));
        }
        Probe twin = new Probe();
        twin.typeDue("t 'a 'a", 4);
        twin.constantDue("c:t num bool", 12);
    }

    private static void howManyThereAre() {
        Probe.sentence(5, "how many types there are then (bool, ind and num counted, -> not)");
        Probe probe = new Probe();
        probe.typeDue("t1", 4);
        probe.typeFaultDue("t1", 4, 0);
        probe.typeDue("t2 'a", 5);
        probe.typeDue("t3 'a 'b", 6);
    }

    private static void nothingBehindAFault() {
        Probe.sentence(5, "-1 if there is a fault.");
        for (String text : new String[] {"t $", "t 'a 'b 'c", "t u", "t '", "bool"}) {
            Probe probe = new Probe();
            probe.termDue("\\x.x", 2);
            Probe.due("type <" + text + ">", probe.type(text), -1);
            Probe.due("fault above 0", probe.fault() > 0 ? 1 : 0, 1);
            Probe.due("the term before", probe.symbols(), "-2 0");
            probe.constantFaultDue("c:t", 3, 0);
            probe.typeDue("t 'a", 4);
            probe.constantDue("c:t num", 12);
            probe.constantFaultDue("d:t", 3, 0);
        }
    }

    private static void thirtyMore() {
        Probe.sentence(5, "30 types besides bool, ind and num.");
        Probe probe = new Probe();
        for (int i = 0; i < 29; i++) {
            probe.typeDue("t" + i, 4 + i);
        }
        probe.typeFaultDue("bool", 4, 0);
        probe.typeDue("t29 'a 'b", 33);
        probe.typeFaultDue(" t30", 8, 1);
        probe.typeFaultDue("t30 'a 'b", 8, 0);
        probe.constantFaultDue("c:t30", 3, 0);
        probe.constantDue("c:t29 t28 t0", 12);
        probe.wholeTypeDue("c", "33 32 4");
    }

    private static void refusedCalls() {
        Probe.sentence(5, "IllegalArgumentException if n is below 0 or there are not so many "
                + "(all stays, also here and below).");
        Probe probe = new Probe();
        int[] always = {-1, -2, Integer.MIN_VALUE, 8001, Integer.MAX_VALUE};
        for (int n : always) {
            Probe.due("type(" + n + ") of no bytes", probe.type(n), Probe.REFUSED);
        }
        Probe.due("type(1) of no bytes", probe.type(1), Probe.REFUSED);
        Probe.due("type(0) of no bytes", probe.type(0), -1);
        probe.feed("t      'a         'a");
        for (int n : always) {
            Probe.due("type(" + n + ") of 20 bytes", probe.type(n), Probe.REFUSED);
        }
        Probe.due("type(21) of 20 bytes", probe.type(21), Probe.REFUSED);
        Probe.due("type(20) of 20 bytes", probe.type(20), 4);
    }

    private static void allStaysWhenRefused() {
        Probe.sentence(5, "IllegalArgumentException if n is below 0 or there are not so many "
                + "(all stays, also here and below).");
        for (int n : new int[] {-1, 21, Integer.MIN_VALUE, Integer.MAX_VALUE}) {
            Probe.allStaysDue("type(" + n + ")", 20, probe -> {
                probe.type("t 'a");
                probe.term("\\(x:t 'c).x");
                probe.type("t 'b");
                probe.feed("u   'd            'e");
            }, probe -> Probe.due("type(" + n + ")", probe.type(n), Probe.REFUSED));
        }
    }
}
