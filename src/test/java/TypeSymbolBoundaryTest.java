/** Promise 9 at its boundaries: a test for each sentence that names one. */
public final class TypeSymbolBoundaryTest {
    private static final String TEN = "(bool" + "->bool".repeat(9) + ")";
    private static final String TWENTY_FOUR = "abcdefghijklmnopqrstuvwx";

    public static void main(String[] args) {
        symbolsInPrefixOrder();
        typeVariablesThatWereLeft();
        numbersFromZero();
        differentOnes();
        upToTheFault();
        tooLongIsNone();
        the6001stIsNotRead();
        typesAsTheyCame();
        noneSuch();
        allStaysWhenRefused();
        Probe.end();
    }

    private static void symbolsInPrefixOrder() {
        Probe.sentence(9, "Symbol k, in prefix order, of the type of that symbol");
        Probe probe = new Probe();
        probe.termDue("!x.x=1", 10);
        String[] types = {"0", "2 2 3 0 0", "2 3 0", "0", "2 3 0", "2 3 2 3 0", "3", "3", "2 3 3", "3"};
        for (int i = 0; i < types.length; i++) {
            Probe.due("type of symbol " + i, probe.typeOf(i), types[i]);
        }
    }

    private static void typeVariablesThatWereLeft() {
        Probe.sentence(9, "the n-th type variable that was left -1 - n (n from 0)");
        Probe probe = new Probe();
        probe.wholeTypeDue("\\x.x", "2 -1 -1");
        probe.wholeTypeDue("\\x y.y", "2 -1 2 -2 -2");
        probe.wholeTypeDue("\\a b c d e f g h i j k.T",
                "2 -1 2 -2 2 -3 2 -4 2 -5 2 -6 2 -7 2 -8 2 -9 2 -10 2 -11 0");
        probe.wholeTypeDue("\\f g x.f(g x)", "2 2 -1 -2 2 2 -3 -1 2 -3 -2");
        // They are numbered as they stand, not as they were made or met.
        probe.termDue("(\\x y.x)T(\\z.z)", 8);
        Probe.due("type of the whole", probe.typeOf(0), "0");
        Probe.due("type of its function", probe.typeOf(1), "2 2 -1 -1 0");
        probe.termDue("(\\x.T)=(\\y.(\\z.T)(\\u.u))", 11);
        Probe.due("type of \\x.T", probe.typeOf(3), "2 -1 0");
        Probe.due("type of \\u.u", probe.typeOf(9), "2 -2 -2");
        probe.wholeTypeDue("\\(x:'a)y.y", "2 -1000 2 -1 -1");
    }

    private static void numbersFromZero() {
        Probe.sentence(9, "a type variable with a name -1000 - m (m the number of the type name among all different "
                + "ones that have been read as tokens, in any text");
        Probe probe = new Probe();
        probe.wholeTypeDue("\\(x:'z).x", "2 -1000 -1000");
        probe.typeDue("t 'y 'x", 4);
        probe.constantDue("c:'w->'v", 12);
        probe.wholeTypeDue("\\(x:'u)(y:'v).x", "2 -1005 2 -1004 -1005");
        probe.wholeTypeDue("\\(x:'x)(y:'y).x", "2 -1002 2 -1001 -1002");
        probe.wholeTypeDue("\\(x:'w).x", "2 -1003 -1003");
        probe.wholeTypeDue("c", "2 -1 -2");
        new Probe().wholeTypeDue("\\(x:'u).x", "2 -1000 -1000");
    }

    private static void differentOnes() {
        Probe.sentence(9, "among all different ones that have been read as tokens");
        Probe probe = new Probe();
        probe.typeDue("t 'a 'a", 4);
        probe.constantDue("c:t 'a 'a->'a", 12);
        probe.wholeTypeDue("\\(x:'a)(y:'A)(z:'a').x", "2 -1000 2 -1001 2 -1002 -1000");
        probe.wholeTypeDue("\\(x:'" + TWENTY_FOUR + ").x", "2 -1003 -1003");
        probe.wholeTypeDue("\\(x:'" + TWENTY_FOUR.replace('x', 'y') + ").x", "2 -1004 -1004");
        probe.wholeTypeDue("\\(x:'" + TWENTY_FOUR.substring(1) + ").x", "2 -1005 -1005");
        probe.wholeTypeDue("\\(x:'" + TWENTY_FOUR + ").x", "2 -1003 -1003");
        probe.wholeTypeDue("\\(a:'b).a", "2 -1006 -1006");
        // Bytes in a remark or behind the text are no tokens, and neither are a refused call's.
        probe.termDue("T#'c", 1);
        probe.feed("T 'd");
        Probe.due("term(21)", probe.term(21), Probe.REFUSED);
        Probe.due("term(1)", probe.term(1), 1);
        probe.wholeTypeDue("\\(a:'e).a", "2 -1007 -1007");
    }

    /** How many type names a text has read when it is done: the next one's number tells. */
    private static void readDue(String text, int fault, int names) {
        Probe probe = new Probe();
        probe.term(text);
        Probe.due("fault of <" + text + ">", probe.fault(), fault);
        String number = Integer.toString(-1000 - names);
        probe.wholeTypeDue("\\(x:'next).x", "2 " + number + " " + number);
    }

    private static void upToTheFault() {
        Probe.sentence(9, "also with a fault, up to the token at which that was found");
        readDue("$ 'a", 1, 0);
        readDue(") 'a", 2, 0);
        readDue("'a 'b", 2, 1);
        readDue("T 'a 'b", 2, 1);
        readDue("(T:'a) $ 'b", 1, 1);
        readDue("(T:'a) ) 'b", 2, 1);
        readDue("(T:'a 'b 'c)", 2, 2);
        readDue("50 'a", 8, 0);
        readDue("(=:'a", 2, 0);
        readDue("(='a 'b", 2, 1);
        readDue("(~'a 'b", 2, 1);
        readDue("(".repeat(41) + "'a 'b", 8, 1);
        readDue("(".repeat(41) + "T 'a", 8, 0);
        readDue("(".repeat(41) + "~'a", 8, 0);
        readDue("(".repeat(41) + "='a 'b", 2, 1);
        readDue("(".repeat(40) + "~\\'a 'b", 8, 1);
        // These are found when all has been read.
        readDue("(T:'a)", 3, 1);
        readDue("(x:'a->'b)", 4, 2);
        readDue("~".repeat(50) + "(T:'a->'b->'a)", 8, 2);
        Probe probe = new Probe();
        probe.constantFaultDue("T:'a->'b", 4, 0);
        probe.constantFaultDue("c 'c 'd", 2, 2);
        probe.typeFaultDue("bool 'e", 4, 0);
        probe.typeFaultDue("t 'f 'g 'h 'i", 2, 8);
        probe.wholeTypeDue("\\(x:'next).x", "2 -1007 -1007");
    }

    private static void tooLongIsNone() {
        Probe.sentence(9, "(one that is too long is none)");
        readDue("T '" + TWENTY_FOUR, 2, 1);
        readDue("T '" + TWENTY_FOUR + "y", 8, 0);
        readDue("(T:'a->'" + TWENTY_FOUR + "y", 8, 1);
        Probe probe = new Probe();
        probe.constantFaultDue("c:'" + TWENTY_FOUR + "y", 8, 2);
        probe.typeFaultDue("t '" + TWENTY_FOUR + "y", 8, 2);
        probe.wholeTypeDue("\\(x:'" + TWENTY_FOUR + ").x", "2 -1000 -1000");
    }

    /** The document tells first that a token is the 6001st; so it has not been read as a type name. */
    private static void the6001stIsNotRead() {
        Probe.sentence(9, "of one token first that it is the 6001st");
        readDue("~".repeat(5999) + "'a", 2, 1);
        readDue("~".repeat(6000) + "'a", 8, 0);
    }

    private static void typesAsTheyCame() {
        Probe.sentence(9, "bool 0, ind 1, functions 2, num 3, others from 4 on as they came.");
        Probe probe = new Probe();
        probe.wholeTypeDue("\\(x:bool)(y:ind)(z:num).x", "2 0 2 1 2 3 0");
        for (int i = 0; i < 30; i++) {
            probe.type("t" + i);
        }
        probe.typeFaultDue("more", 8, 0);
        probe.wholeTypeDue("\\(x:t29)(y:t0).x", "2 33 2 4 33");
    }

    private static void noneSuch() {
        Probe.sentence(9, "IndexOutOfBoundsException if there is none such.");
        int[] never = {-1, -2, Integer.MIN_VALUE, 500, 20000, Integer.MAX_VALUE};
        Probe probe = new Probe();
        Probe.due("typeSymbol(0, 0) without a term", probe.typeSymbol(0, 0), Probe.REFUSED);
        probe.termDue("SUC 0", 3);
        String[] types = {"3", "2 3 3", "3"};
        for (int i = 0; i < types.length; i++) {
            Probe.due("type of symbol " + i, probe.typeOf(i), types[i]);
        }
        for (int wrong : never) {
            Probe.due("typeSymbol(" + wrong + ", 0)", probe.typeSymbol(wrong, 0), Probe.REFUSED);
            Probe.due("typeSymbol(1, " + wrong + ")", probe.typeSymbol(1, wrong), Probe.REFUSED);
            Probe.due("typeSymbol(" + wrong + ", " + wrong + ")", probe.typeSymbol(wrong, wrong), Probe.REFUSED);
        }
        Probe.due("typeSymbol(3, 0)", probe.typeSymbol(3, 0), Probe.REFUSED);
        Probe.due("typeSymbol(-1, 1)", probe.typeSymbol(-1, 1), Probe.REFUSED);
        Probe.due("typeSymbol(2, -1)", probe.typeSymbol(2, -1), Probe.REFUSED);
        Probe.due("typeSymbol(0, 1)", probe.typeSymbol(0, 1), Probe.REFUSED);
        Probe.due("typeSymbol(1, 2)", probe.typeSymbol(1, 2), 3);
        Probe.due("typeSymbol(1, 3)", probe.typeSymbol(1, 3), Probe.REFUSED);
        Probe.due("typeSymbol(2, 0)", probe.typeSymbol(2, 0), 3);
        Probe.due("typeSymbol(2, 1)", probe.typeSymbol(2, 1), Probe.REFUSED);
        probe.termDue("T", 1);
        Probe.due("typeSymbol(0, 0) of a shorter term", probe.typeSymbol(0, 0), 0);
        Probe.due("typeSymbol(1, 0) of a shorter term", probe.typeSymbol(1, 0), Probe.REFUSED);
        probe.typeDue("one 'a", 4);
        probe.constantDue("c:one(" + TEN + "->" + TEN + ")", 12);
        probe.termDue("c", 1);
        Probe.due("typeSymbol(0, 39)", probe.typeSymbol(0, 39), 0);
        Probe.due("typeSymbol(0, 40)", probe.typeSymbol(0, 40), Probe.REFUSED);
        Probe full = new Probe();
        String row = "(T" + "/\\T".repeat(24) + ")";
        full.termDue("\\x y z." + row + ("/\\" + row).repeat(4), 500);
        Probe.due("typeSymbol(499, 0)", full.typeSymbol(499, 0), 0);
        Probe.due("typeSymbol(499, 1)", full.typeSymbol(499, 1), Probe.REFUSED);
        Probe.due("typeSymbol(500, 0)", full.typeSymbol(500, 0), Probe.REFUSED);
    }

    private static void allStaysWhenRefused() {
        Probe.sentence(9, "IndexOutOfBoundsException if there is none such.");
        int[][] wrong = {{-1, 0}, {0, -1}, {4, 0}, {0, 3}, {500, 40}, {Integer.MIN_VALUE, 0}, {0, Integer.MAX_VALUE}};
        for (int[] pair : wrong) {
            String call = "typeSymbol(" + pair[0] + ", " + pair[1] + ")";
            Probe.allStaysDue(call, 20, probe -> {
                probe.type("t 'a");
                probe.constant("c:num->num");
                probe.term("\\(x:t 'b).c");
                probe.term("\\x.SUC x");
                probe.term("T T");
                probe.feed("\\(y:t 'c).c(SUC 7)  ");
            }, probe -> Probe.due(call, probe.typeSymbol(pair[0], pair[1]), Probe.REFUSED));
        }
    }
}
