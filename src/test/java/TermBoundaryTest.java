/** Promise 3, and the terms that it rests on, at their boundaries: a test for each sentence that names one. */
public final class TermBoundaryTest {
    public static void main(String[] args) {
        theFirstBytes();
        theTermBeforeStays();
        nothingElseStays();
        allBytesAreGone();
        refusedCalls();
        allStaysWhenRefused();
        fromTheWeakest();
        noTwoSideBySide();
        atLeastOneAtom();
        atLeastOneVariable();
        asFarAsTheBodyGoes();
        theSignAlone();
        numeralsFromZero();
        numeralsHeights();
        equalsOnBool();
        innermostVariable();
        typesOfTerms();
        noTypesThatAgree();
        whatATypeTakes();
        arrowsToTheRight();
        Probe.end();
    }

    private static void theFirstBytes() {
        Probe.sentence(3, "The first n bytes are a term: how many symbols it has; -1 if there is a fault");
        Probe probe = new Probe();
        startDue(probe, "T", 0, -1, 2, 0);
        startDue(probe, "T", 1, 1, 0, -1);
        startDue(probe, "T $", 2, 1, 0, -1);
        startDue(probe, "T $", 3, -1, 1, 2);
        startDue(probe, "49", 1, 9, 0, -1);
        startDue(probe, "49", 2, 99, 0, -1);
        startDue(probe, "Tx", 1, 1, 0, -1);
        startDue(probe, "Tx", 2, -1, 4, 0);
        startDue(probe, "T/\\T", 2, -1, 1, 1);
        startDue(probe, "T/\\T", 3, -1, 2, 3);
        startDue(probe, "T/\\T", 4, 5, 0, -1);
        startDue(probe, "T==>T", 2, -1, 2, 2);
        startDue(probe, "T==>T", 3, -1, 2, 2);
        startDue(probe, "T==>T", 4, -1, 2, 4);
        startDue(probe, "T==>T", 5, 5, 0, -1);
        startDue(probe, "T 'a", 3, -1, 1, 2);
        startDue(probe, "T 'a", 4, -1, 2, 2);
        startDue(probe, "(T)", 2, -1, 2, 2);
        startDue(probe, "(".repeat(41) + "~)", 42, -1, 8, 41);
        startDue(probe, "(".repeat(41) + "~)", 43, -1, 2, 43);
        startDue(probe, "T # no\n $", 7, 1, 0, -1);
        startDue(probe, "T # no\n $", 9, -1, 1, 8);
    }

    private static void startDue(Probe probe, String text, int n, int answer, int fault, int place) {
        probe.feed(text);
        String what = "term of the first " + n + " of <" + text + ">";
        probe.outcomeDue(what, probe.term(n), answer, fault, place);
    }

    private static void theTermBeforeStays() {
        Probe.sentence(3, "-1 if there is a fault (the term before stays).");
        String[] faults = {"", "$", "T )", "T T", "what", "50", "~".repeat(50) + "T", "(".repeat(41),
            "\\a b c d e f g h i j k l.T"};
        for (String text : faults) {
            Probe probe = new Probe();
            Probe.due("term <" + text + ">", probe.term(text), -1);
            Probe.due("symbol(0) without a term", probe.symbol(0), Probe.REFUSED);
            probe.termDue("\\x.SUC x", 4);
            Probe.due("term <" + text + ">", probe.term(text), -1);
            Probe.due("symbols behind it", probe.symbols(), "-2 -1 23 0");
            Probe.due("type behind it", probe.typeOf(0), "2 3 3");
            Probe.due("type of the last symbol behind it", probe.typeOf(3), "3");
            probe.termDue("F", 1);
            Probe.due("symbols of the next term", probe.symbols(), "5");
        }
    }

    private static void nothingElseStays() {
        Probe.sentence(3, "-1 if there is a fault (the term before stays).");
        String[] faults = {"\\a b c.x", "\\x.(\\y.", "T/\\T==>T+)", "(T:bool->bool->)", "(T:what)", "\\x.x x",
            "\\x y.x=y/\\y x", "(any:(bool->bool)->num->bool)=(any:(bool->bool)->num->num)", "\\f g.f(g T)(g 0)=f(g T)0/\\(g=f)",
            "any" + "==>any".repeat(300), "(any:bool" + "->bool".repeat(12) + ")", "any" + " any".repeat(60),
            "\\" + "x ".repeat(600) + ".x", "\\a b c d e f g h i j k l.a b", "(".repeat(41), "~".repeat(50) + "x"};
        String[] rights = {"x", "\\x.x", "T/\\T", "any=any", "(\\f x.f x)SUC 0", "\\f g x.f(g x)", "any any any",
            "!x.x=any", "\\f.f T=f F"};
        for (String right : rights) {
            Probe fresh = new Probe();
            fresh.constantDue("any:'a", 12);
            String due = answersOf(fresh, right);
            for (String fault : faults) {
                Probe probe = new Probe();
                probe.constantDue("any:'a", 12);
                Probe.due("term <" + fault + ">", probe.term(fault), -1);
                Probe.due("answers of <" + right + "> behind <" + fault + ">", answersOf(probe, right), due);
            }
        }
    }

    private static String answersOf(Probe probe, String text) {
        StringBuilder answers = new StringBuilder();
        int count = probe.term(text);
        answers.append(count).append(' ').append(probe.fault()).append(' ').append(probe.place());
        answers.append(": ").append(probe.symbols()).append(':');
        for (int i = 0; i < count; i++) {
            answers.append(' ').append(probe.typeOf(i)).append(',');
        }
        return answers.toString();
    }

    private static void allBytesAreGone() {
        Probe.sentence(3, "All bytes are gone.");
        for (int n : new int[] {0, 1, 2, 3, 20}) {
            Probe probe = new Probe();
            probe.feed("T # ) $ ) $ ) $ ) $ T");
            probe.term(n);
            Probe.due("term(1) behind term(" + n + ")", probe.term(1), Probe.REFUSED);
            probe.termDue("F", 1);
            probe.feed("$");
            Probe.due("term(21) of twenty", probe.term(21), Probe.REFUSED);
        }
    }

    private static void refusedCalls() {
        Probe.sentence(3, "IllegalArgumentException if n is below 0 or there are not so many");
        Probe probe = new Probe();
        int[] always = {-1, -2, -20, -8000, Integer.MIN_VALUE, 8001, Integer.MAX_VALUE};
        for (int n : always) {
            Probe.due("term(" + n + ") of no bytes", probe.term(n), Probe.REFUSED);
        }
        Probe.due("term(1) of no bytes", probe.term(1), Probe.REFUSED);
        Probe.due("term(0) of no bytes", probe.term(0), -1);
        probe.feed("                   T");
        for (int n : always) {
            Probe.due("term(" + n + ") of 20 bytes", probe.term(n), Probe.REFUSED);
        }
        Probe.due("term(21) of 20 bytes", probe.term(21), Probe.REFUSED);
        Probe.due("term(20) of 20 bytes", probe.term(20), 1);
        probe.feed("                                       T");
        Probe.due("term(41) of 40 bytes", probe.term(41), Probe.REFUSED);
        Probe.due("term(40) of 40 bytes", probe.term(40), 1);
    }

    private static void allStaysWhenRefused() {
        Probe.sentence(3, "IllegalArgumentException if n is below 0 or there are not so many "
                + "(all stays, also here and below).");
        for (int n : new int[] {-1, 21, Integer.MIN_VALUE, Integer.MAX_VALUE}) {
            Probe.allStaysDue("term(" + n + ")", 20, probe -> {
                probe.type("one 'a");
                probe.constant("c : one 'b -> num");
                probe.term("\\x. c x");
                probe.term("c T");
                probe.feed("\\(x:one 'd).SUC(c x)");
            }, probe -> {
                Probe.due("term(" + n + ")", probe.term(n), Probe.REFUSED);
                Probe.due("term(" + n + ")", probe.term(n), Probe.REFUSED);
            });
        }
    }

    private static void fromTheWeakest() {
        Probe.sentence(3, "A term is operands with OPERATORS between, from the weakest: <=>, then ==>, then \\/, then /\\ "
                + "(each of these to the right: a ==> b ==> c is a ==> (b ==> c)), then = < <= "
                + "(no two of them side by side), then +, then * (both to the left).");
        String[] operators = {"<=>", "==>", "\\/", "/\\", "=", "<", "<=", "+", "*"};
        int[] strengths = {1, 2, 3, 4, 5, 5, 5, 6, 7};
        for (int one = 0; one < operators.length; one++) {
            Probe probe = new Probe();
            for (int operator = 5; operator < operators.length; operator++) {
                probe.constant(operators[operator] + ":bool->bool->bool");
            }
            for (int other = 0; other < operators.length; other++) {
                String first = " " + operators[one] + " ";
                String second = " " + operators[other] + " ";
                if (strengths[one] == 5 && strengths[other] == 5) {
                    probe.termFaultDue("T" + first + "F" + second + "T", 2, 3 + first.length());
                    continue;
                }
                boolean toTheLeft = strengths[one] > strengths[other]
                        || strengths[one] == strengths[other] && strengths[one] > 5;
                probe.term(toTheLeft ? "(T" + first + "F)" + second + "T" : "T" + first + "(F" + second + "T)");
                probe.symbolsDue("T" + first + "F" + second + "T", probe.symbols());
            }
        }
    }

    private static void noTwoSideBySide() {
        Probe.sentence(3, "then = < <= (no two of them side by side)");
        Probe probe = new Probe();
        probe.constant("< : num->num->bool");
        probe.constant("<= : num->num->bool");
        probe.constant("+ : num->num->num");
        String[] signs = {"=", "<", "<="};
        for (String one : signs) {
            probe.termDue("0 " + one + " 0", 5);
            for (String other : signs) {
                probe.termFaultDue("0 " + one + " 0 " + other + " 0", 2, 5 + one.length());
                probe.termFaultDue("0 " + one + " 0+0 " + other + " 0", 2, 7 + one.length());
                probe.termDue("(0 " + one + " 0) = (0 " + other + " 0)", 13);
            }
        }
        probe.termDue("0 = 0 /\\ 0 = 0 ==> 0 = 0", 21);
        probe.termDue("T = !x. x = T", 12);
        probe.termFaultDue("T = !x. x = T = T", 2, 14);
    }

    private static void atLeastOneAtom() {
        Probe.sentence(3, "or one or more ATOMS, each applied to the next one (f x y is (f x) y).");
        Probe probe = new Probe();
        probe.termFaultDue("", 2, 0);
        probe.termFaultDue("()", 2, 1);
        probe.termFaultDue("~", 2, 1);
        probe.termFaultDue("~/\\T", 2, 1);
        probe.termFaultDue("T/\\", 2, 3);
        probe.termFaultDue("/\\T", 2, 0);
        probe.termFaultDue("\\x.", 2, 3);
        probe.termFaultDue("(:bool)", 2, 1);
        probe.symbolsDue("SUC", "23");
        probe.symbolsDue("SUC 0", "-1 23 21");
        probe.symbolsDue("\\f x y.f x y", "-2 -2 -2 -1 -1 4 2 0");
        probe.symbolsDue("\\f x y.f(x y)", "-2 -2 -2 -1 4 -1 2 0");
    }

    private static void atLeastOneVariable() {
        Probe.sentence(3, "A binder is \\, !, ?, or @, one or more VARIABLES, each a name or ( name : type ), "
                + "a . and a term, as far as that goes; with several variables it is that binder of each, "
                + "the first one outermost.");
        Probe probe = new Probe();
        String[] binders = {"\\", "!", "?", "@"};
        String[] starts = {"-2", "-1 15 -2", "-1 17 -2", "-1 19 -2"};
        for (int b = 0; b < binders.length; b++) {
            probe.termFaultDue(binders[b] + ".T", 2, 1);
            probe.termFaultDue(binders[b] + "T", 2, 2);
            probe.termFaultDue(binders[b] + "x->T", 2, 2);
            probe.termFaultDue(binders[b] + "x:bool.T", 2, 2);
            probe.termFaultDue(binders[b] + "()x.T", 2, 2);
            probe.termFaultDue(binders[b] + "(x).T", 2, 3);
            probe.termFaultDue(binders[b] + "(x y:bool).T", 2, 4);
            probe.symbolsDue(binders[b] + "x.T", starts[b] + " 3");
            probe.symbolsDue(binders[b] + "(x:bool).x", starts[b] + " 0");
        }
        probe.symbolsDue("!x (y:bool) z.y", "-1 15 -2 -1 15 -2 -1 15 -2 2");
        probe.symbolsDue("\\x y z.x", "-2 -2 -2 4");
    }

    private static void asFarAsTheBodyGoes() {
        Probe.sentence(3, "a . and a term, as far as that goes");
        Probe probe = new Probe();
        probe.symbolsDue("T/\\!x.x/\\T", "-1 -1 9 3 -1 15 -2 -1 -1 9 0 3");
        probe.symbolsDue("(!x.x)/\\T", "-1 -1 9 -1 15 -2 0 3");
        probe.symbolsDue("~!x.x<=>T", "-1 7 -1 15 -2 -1 -1 1 0 3");
        probe.termFaultDue("T!x.x", 2, 1);
        probe.termFaultDue("!x.x:bool", 2, 4);
        probe.symbolsDue("(!x.x:bool)", "-1 15 -2 0");
    }

    private static void theSignAlone() {
        Probe.sentence(3, "or ( S ), S being an operator or one of ~ ! ? @ with the ) right behind it (blanks apart).");
        Probe probe = new Probe();
        String[] signs = {"<=>", "==>", "\\/", "/\\", "=", "~", "!", "?", "@"};
        int[] symbols = {1, 13, 11, 9, 1, 7, 15, 17, 19};
        for (int s = 0; s < signs.length; s++) {
            probe.symbolsDue("(" + signs[s] + ")", Integer.toString(symbols[s]));
            probe.symbolsDue("(\t" + signs[s] + " #)\n)", Integer.toString(symbols[s]));
        }
        for (int s = 0; s < 5; s++) {
            probe.termFaultDue("(" + signs[s] + " T)", 2, 2 + signs[s].length());
            probe.termFaultDue(signs[s], 2, 0);
        }
        probe.termDue("(~ T)", 3);
        probe.termDue("(! x.T)", 4);
        probe.termFaultDue("((~ )", 2, 5);
        probe.termFaultDue("(~(~))", 3, 0);
        probe.termFaultDue("~)", 2, 1);
        for (String none : new String[] {"->", ":=", "<-", ",", ".", ":", ";", "|", "[", "by"}) {
            probe.termFaultDue("(" + none + ")", 2, 1);
        }
        probe.termFaultDue("(\\)", 2, 2);
    }

    private static void numeralsFromZero() {
        Probe.sentence(3, "A numeral n is SUC applied n times to 0.");
        Probe probe = new Probe();
        probe.symbolsDue("0", "21");
        probe.symbolsDue("00", "21");
        probe.symbolsDue("1", "-1 23 21");
        probe.symbolsDue("2", "-1 23 -1 23 21");
        probe.symbolsDue("SUC 1", "-1 23 -1 23 21");
    }

    private static void numeralsHeights() {
        Probe.sentence(3, "(A numeral n has 2 n + 1 symbols and height n + 1.)");
        for (int n = 0; n <= 49; n++) {
            new Probe().termDue(Integer.toString(n), 2 * n + 1);
        }
        // The argument is higher than the function from 1 on, and 50 is the greatest height.
        for (int n = 1; n <= 48; n++) {
            String applied = "~".repeat(48 - n) + "(\\x.T)" + n;
            new Probe().termDue(applied, 100);
            new Probe().termFaultDue("~" + applied, 8, 0);
        }
        new Probe().termFaultDue("(\\x.T)49", 8, 0);
    }

    private static void equalsOnBool() {
        Probe.sentence(3, "<=> is = on bool.");
        Probe probe = new Probe();
        probe.symbolsDue("T<=>F", "-1 -1 1 3 5");
        probe.symbolsDue("T=F", "-1 -1 1 3 5");
        probe.termDue("0=0", 5);
        probe.termFaultDue("0<=>0", 3, 0);
        probe.wholeTypeDue("(=)", "2 -1 2 -1 0");
        probe.wholeTypeDue("(<=>)", "2 0 2 0 0");
        probe.wholeTypeDue("\\x.x<=>x", "2 0 0");
    }

    private static void innermostVariable() {
        Probe.sentence(3, "A name in a term is the innermost binder's variable of that name, else a constant; "
                + "else it makes a NAME fault (so does an operator that is no constant).");
        Probe probe = new Probe();
        probe.symbolsDue("\\x.\\y.\\x.x", "-2 -2 -2 0");
        probe.symbolsDue("\\x.(\\x.x)x", "-2 -1 -2 0 0");
        probe.symbolsDue("\\x x.x", "-2 -2 0");
        probe.symbolsDue("(\\T.T)T", "-1 -2 0 3");
        probe.termFaultDue("(\\x.x)x", 4, 0);
        probe.termFaultDue("\\x.X", 4, 0);
        probe.termFaultDue("\\xx.x", 4, 0);
        probe.termFaultDue("\\x.xx", 4, 0);
        probe.termFaultDue("\\x.x'", 4, 0);
        probe.termFaultDue("\\x.x=y", 4, 0);
        probe.termFaultDue("\\x.x+x", 4, 0);
        probe.constantDue("y:bool", 12);
        probe.constantDue("+:'a->'a->'a", 13);
        probe.symbolsDue("\\x.x=y", "-2 -1 -1 1 0 25");
        probe.symbolsDue("\\y.y=y", "-2 -1 -1 1 0 0");
        probe.symbolsDue("\\x.x+x", "-2 -1 -1 27 0 0");
    }

    private static void typesOfTerms() {
        Probe.sentence(3, "TYPES OF TERMS: each use of a constant has its type with new unknown types for its type "
                + "variables; a binder's variable without a type has an unknown one, the same wherever it stands; "
                + "a function is of functions from its argument's type, the application of what these are to; "
                + "( t : type ) has that type; the body of ! ? @ is of bool.");
        Probe probe = new Probe();
        probe.constantDue("any:'a", 12);
        probe.termDue("any T/\\any 0", 9);
        probe.termFaultDue("\\f.f T/\\f 0", 3, 0);
        probe.termDue("\\f.f T/\\f F", 10);
        probe.termFaultDue("(\\x.x)T/\\(\\x.x)0", 3, 0);
        probe.wholeTypeDue("\\f.f 0", "2 2 3 -1 -1");
        probe.termFaultDue("\\(f:num->bool).f T", 3, 0);
        probe.wholeTypeDue("\\(f:num->bool).f", "2 2 3 0 2 3 0");
        probe.wholeTypeDue("(any:num)", "3");
        probe.termFaultDue("(0:bool)", 3, 0);
        probe.termDue("\\x.0", 2);
        for (String binder : new String[] {"!", "?", "@"}) {
            probe.termFaultDue(binder + "x.0", 3, 0);
            probe.termFaultDue(binder + "(x:num).x", 3, 0);
            probe.termDue(binder + "x.x", 4);
            probe.termDue(binder + "(x:bool).x", 4);
            probe.termDue(binder + "(x:num).T", 4);
        }
        probe.wholeTypeDue("@(x:num).T", "3");
        probe.wholeTypeDue("!(x:num).T", "0");
    }

    private static void noTypesThatAgree() {
        Probe.sentence(3, "a TYPE fault if there are none, or a type's name is unknown or takes another number.");
        Probe probe = new Probe();
        probe.typeDue("one 'a", 4);
        probe.constantDue("mk:'a->one 'a", 12);
        String[] none = {"T T", "\\x.x x", "\\x.x=mk x", "\\x y.x=mk y/\\y=mk x", "0=T", "!x.0",
            "(T:num)", "(T:'a)", "\\(x:'a)(y:'b).x=y", "(T:what)", "(T:bools)", "(mk T:one)", "(mk T:one bool bool)",
            "(T:bool bool)", "\\(x:one one).T", "\\(x:what).T", "(\\(x:bool).T)=(\\(x:num).T)",
            "(\\(x:bool).T)=(\\(x:bool).0)", "mk T=mk 0", "\\(x:bool->num->ind)(y:bool->num->num).x=y"};
        for (String text : none) {
            probe.termFaultDue(text, 3, 0);
        }
        probe.termDue("(\\x.x)(\\x.x)T", 7);
        probe.termDue("\\x y.x=mk y", 9);
        probe.termDue("\\(x:'a)(y:'a).x=y", 7);
        probe.termDue("(mk T:one bool)", 3);
        probe.termDue("!x.x=0", 8);
    }

    private static void whatATypeTakes() {
        Probe.sentence(3, "or a name and behind it all that follows of type names, names (that take nothing) "
                + "and types in ( ): what it takes (so f g h is f with two).");
        Probe probe = new Probe();
        probe.typeDue("f 'a 'a", 4);
        probe.typeDue("g", 5);
        probe.typeDue("one 'a", 6);
        probe.wholeTypeDue("\\(x:f g g).T", "2 4 5 5 0");
        probe.wholeTypeDue("\\(x:f(g)'a).T", "2 4 5 -1000 0");
        probe.wholeTypeDue("\\(x:f(one g)(f g g)).T", "2 4 6 5 4 5 5 0");
        probe.wholeTypeDue("\\(x:f g g->g).T", "2 2 4 5 5 5 0");
        for (String wrong : new String[] {"f", "f g", "f g g g", "one", "one g g", "g g", "f one g g", "f one g",
            "f one one", "one one g", "f g(g)'a", "g(g)"}) {
            probe.termFaultDue("\\(x:" + wrong + ").T", 3, 0);
        }
        probe.termFaultDue("\\(x:'a g).T", 2, 7);
        probe.termFaultDue("\\(x:(f)g).T", 2, 7);
        probe.termFaultDue("\\(x:).T", 2, 4);
        probe.termFaultDue("\\(x:f()g).T", 2, 6);
    }

    private static void arrowsToTheRight() {
        Probe.sentence(3, "TYPES: an ATOM -> a type, or an atom.");
        Probe probe = new Probe();
        probe.wholeTypeDue("\\(x:bool).T", "2 0 0");
        probe.wholeTypeDue("\\(x:bool->num).T", "2 2 0 3 0");
        probe.wholeTypeDue("\\(x:bool->num->ind).T", "2 2 0 2 3 1 0");
        probe.wholeTypeDue("\\(x:(bool->num)->ind).T", "2 2 2 0 3 1 0");
        probe.termFaultDue("\\(x:->bool).T", 2, 4);
        probe.termFaultDue("\\(x:bool->).T", 2, 10);
        probe.termFaultDue("\\(x:bool->->bool).T", 2, 10);
        probe.termFaultDue("\\(x:bool.bool).T", 2, 8);
    }
}
