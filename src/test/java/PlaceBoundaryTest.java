/** Promise 7, and the places that it rests on, at their boundaries: a test for each sentence that names one. */
public final class PlaceBoundaryTest {
    private static final String FORTY = "(".repeat(40);
    private static final String TOO_LONG = "abcdefghijklmnopqrstuvwxy";
    /** A binder of so many variables is of a type that is one too high, and that is found last. */
    private static final String TWELVE = "\\a b c d e f g h i j k l.";
    private static final String TYPE_TOO_HIGH = "bool" + "->bool".repeat(12);

    public static void main(String[] args) {
        noneWithoutAFault();
        theTokenThatCannotBe();
        missingAtTheEnd();
        the6001stFirst();
        noneOrTooLongBeforeMisplaced();
        behindATooDeepTerm();
        behindATooDeepType();
        behindATooDeepBinder();
        aLookForALoneSign();
        theTokenBehindAnOperator();
        theFirstTokenOfAllOthers();
        withoutAnyToken();
        syntaxFirst();
        thenWhetherNew();
        thenWhetherThereIsRoom();
        thenSymbolsAndHeight();
        thenNames();
        thenTypes();
        Probe.end();
    }

    private static void noneWithoutAFault() {
        Probe.sentence(7, "Its place; -1 if there was none.");
        Probe probe = new Probe();
        Probe.due("place without a text", probe.place(), -1);
        probe.feed("$");
        Probe.due("place behind feed", probe.place(), -1);
        Probe.due("term(1)", probe.term(1), -1);
        Probe.due("place at the text's start", probe.place(), 0);
        probe.feed(" T");
        Probe.due("place behind feed", probe.place(), 0);
        Probe.due("term(21)", probe.term(21), Probe.REFUSED);
        Probe.due("constant(-1)", probe.constant(-1), Probe.REFUSED);
        Probe.due("type(21)", probe.type(21), Probe.REFUSED);
        Probe.due("place behind refused calls", probe.place(), 0);
        Probe.due("term(2)", probe.term(2), 1);
        Probe.due("place of a right term", probe.place(), -1);
        probe.constantFaultDue(" T:bool", 4, 1);
        probe.constantDue(" c:bool", 12);
        probe.typeFaultDue("  num", 4, 2);
        probe.typeDue("  t", 4);
        String last = " ".repeat(7999) + "$";
        new Probe().termFaultDue(last, 1, 7999);
    }

    private static void theTokenThatCannotBe() {
        Probe.sentence(7, "The PLACE of a fault is the byte at which a token begins: "
                + "1, 2, and 8 of a token: the one that cannot be");
        Probe probe = new Probe();
        for (String before : new String[] {"", " ", "\t#$\n"}) {
            int start = before.length();
            probe.termFaultDue(before + "$", 1, start);
            probe.termFaultDue(before + ")", 2, start);
            probe.termFaultDue(before + "50", 8, start);
            probe.termFaultDue(before + TOO_LONG, 8, start);
            probe.termFaultDue(before + "==>", 2, start);
            probe.termFaultDue("T" + before + "$", 1, 1 + start);
            probe.termFaultDue("T" + before + ")", 2, 1 + start);
            probe.termFaultDue("(T" + before + ":=bool)", 2, 2 + start);
            probe.termFaultDue("T " + before + "50", 8, 2 + start);
            probe.termFaultDue("T " + before + "'" + TOO_LONG, 8, 2 + start);
        }
    }

    private static void missingAtTheEnd() {
        Probe.sentence(7, "(the text's length if one is missing at its end)");
        String[] terms = {"T/\\", "T=", "~", "(T", "(", "(T:", "(T:bool", "(T:bool->", "(T:(bool", "\\", "\\x", "\\x.",
            "\\(", "\\(x", "\\(x:", "\\(x:bool", "\\(x:bool)", "!x y", "(=", "(~", "(!", "((T)"};
        for (String text : terms) {
            new Probe().termFaultDue(text, 2, text.length());
            new Probe().termFaultDue(text + "  ", 2, text.length() + 2);
            new Probe().termFaultDue(text + "# )\n#T", 2, text.length() + 6);
        }
        for (String text : new String[] {"c", "c:", "+", "c:(", "c:(bool", "c:bool->", "c:bool(", "c:bool(num"}) {
            new Probe().constantFaultDue(text, 2, text.length());
            new Probe().constantFaultDue(text + " ", 2, text.length() + 1);
        }
    }

    private static void the6001stFirst() {
        Probe.sentence(7, "of one token first that it is the 6001st");
        String many = "~".repeat(6000);
        for (String token : new String[] {"T", "$", "'", ")", "50", TOO_LONG, "'" + TOO_LONG, "by", "~", "-"}) {
            new Probe().termFaultDue(many + token, 8, 6000);
            new Probe().termFaultDue(many + " # x\n" + token, 8, 6005);
        }
        new Probe().termFaultDue(many, 2, 6000);
        new Probe().termFaultDue(many + "#T", 2, 6002);
        String one = "~".repeat(5999);
        new Probe().termFaultDue(one + "$", 1, 5999);
        new Probe().termFaultDue(one + ")", 2, 5999);
        new Probe().termFaultDue(one + "50", 8, 5999);
        new Probe().termFaultDue(one + "T", 8, 0);
        new Probe().termFaultDue(one + "T)", 8, 6000);
        new Probe().termFaultDue("~".repeat(5998) + "(~)", 8, 6000);
        new Probe().termFaultDue("~".repeat(5997) + "(~)", 8, 0);
    }

    private static void noneOrTooLongBeforeMisplaced() {
        Probe.sentence(7, "then that it is none, or too long, or above 49, then that it cannot stand there");
        Probe probe = new Probe();
        probe.termFaultDue("\\$.T", 1, 1);
        probe.termFaultDue("\\50.T", 8, 1);
        probe.termFaultDue("\\49.T", 2, 1);
        probe.termFaultDue("\\'" + TOO_LONG + ".T", 8, 1);
        probe.termFaultDue("\\'" + TOO_LONG.substring(1) + ".T", 2, 1);
        probe.termFaultDue("(T " + TOO_LONG + ":bool)", 8, 3);
        probe.constantFaultDue("c " + TOO_LONG, 8, 2);
        probe.constantFaultDue("c " + TOO_LONG.substring(1), 2, 2);
        probe.constantFaultDue("c:50", 8, 2);
        probe.constantFaultDue("c:49", 2, 2);
        probe.typeFaultDue("t " + TOO_LONG, 8, 2);
        probe.typeFaultDue("t " + TOO_LONG.substring(1), 2, 2);
        probe.typeFaultDue("t 'a 'a '" + TOO_LONG, 8, 8);
        probe.typeFaultDue("t 'a 'a '" + TOO_LONG.substring(1), 2, 8);
        probe.typeFaultDue("t 50", 8, 2);
    }

    private static void behindATooDeepTerm() {
        Probe.sentence(7, "8 of what is too deep: the token behind the one that goes too deep, when that has been read, "
                + "and if it is none or too long that comes first");
        new Probe().termFaultDue(FORTY + "(T", 8, 41);
        new Probe().termFaultDue(FORTY + "  (  T", 8, 45);
        new Probe().termFaultDue(FORTY + "(#(\n T", 8, 45);
        for (String behind : new String[] {")", "(", "'a", "\\", "by", "->", ":", "[", "50", TOO_LONG, ""}) {
            new Probe().termFaultDue(FORTY + "(" + behind, 8, 41);
        }
        new Probe().termFaultDue(FORTY + "( ", 8, 42);
        for (String none : new String[] {"$", "-", "/", "'", "\377"}) {
            new Probe().termFaultDue(FORTY + "(" + none, 1, 41);
            new Probe().termFaultDue(FORTY + "(T" + none, 8, 41);
        }
        // What is only 40 deep goes on.
        new Probe().termFaultDue(FORTY + "$", 1, 40);
        new Probe().termFaultDue(FORTY + ")", 2, 40);
        new Probe().termFaultDue(FORTY, 2, 40);
    }

    private static void behindATooDeepType() {
        Probe.sentence(7, "8 of what is too deep: the token behind the one that goes too deep, when that has been read, "
                + "and if it is none or too long that comes first");
        new Probe().constantFaultDue("c:" + FORTY + "(num", 8, 43);
        new Probe().constantFaultDue("c:" + FORTY + "( num", 8, 44);
        for (String behind : new String[] {")", "(", "'a", "=", "~", "0", "50", "'" + TOO_LONG, ""}) {
            new Probe().constantFaultDue("c:" + FORTY + "(" + behind, 8, 43);
        }
        new Probe().constantFaultDue("c:" + FORTY + "($", 1, 43);
        new Probe().constantFaultDue("c:" + FORTY + "(=)", 8, 43);
        new Probe().constantFaultDue("c:" + FORTY + "=", 2, 42);
        new Probe().constantFaultDue("c:" + FORTY, 2, 42);
        new Probe().constantFaultDue("c:" + FORTY + "f(a)", 8, 44);
    }

    private static void behindATooDeepBinder() {
        Probe.sentence(7, "8 of what is too deep: the token behind the one that goes too deep, when that has been read, "
                + "and if it is none or too long that comes first");
        for (String binder : new String[] {"\\", "!", "?", "@"}) {
            // Behind ~ it is no ( S ) that the binder begins.
            new Probe().termFaultDue(FORTY + "~" + binder + "x.T", 8, 42);
            new Probe().termFaultDue(FORTY + "~" + binder + " x.T", 8, 43);
            for (String behind : new String[] {")", "(", "'a", ".", "50", TOO_LONG, ""}) {
                new Probe().termFaultDue(FORTY + "~" + binder + behind, 8, 42);
            }
            new Probe().termFaultDue(FORTY + "~" + binder + "$", 1, 42);
            new Probe().termFaultDue("(".repeat(39) + "~" + binder + "$", 1, 41);
            new Probe().termFaultDue("(".repeat(39) + "~" + binder + ".", 2, 41);
            new Probe().termFaultDue("(".repeat(39) + "~" + binder + "x.(T", 8, 44);
        }
    }

    private static void aLookForALoneSign() {
        Probe.sentence(7, "(with ( when it is clear that it is no ( S ): with ~ ! ? @ behind it a look tells "
                + "whether ) is next, and no token is read for that;");
        for (String sign : new String[] {"~", "!", "?", "@"}) {
            for (String behind : new String[] {"", "T", "x", "$", "'", "50", TOO_LONG, "(", "#)", "# )\n$", "'new"}) {
                Probe probe = new Probe();
                probe.termFaultDue(FORTY + "(" + sign + behind, 8, 41);
                probe.termFaultDue(FORTY + "( " + sign + " " + behind, 8, 42);
                probe.wholeTypeDue("\\(x:'next).x", "2 -1000 -1000");
            }
            new Probe().termDue(FORTY + "(" + sign + ")" + ")".repeat(40), 1);
            new Probe().termDue(FORTY + "(" + sign + " #)\n\t\r )" + ")".repeat(40), 1);
            new Probe().termFaultDue(FORTY + "(" + sign + ")$", 1, 43);
            new Probe().termFaultDue(FORTY + "(" + sign + ")", 2, 43);
            // Where it is not too deep, the token behind the sign is read.
            new Probe().termFaultDue("(" + sign + "$", 1, 2);
            new Probe().termFaultDue("(" + sign + "50", 8, 2);
            new Probe().termFaultDue("(" + sign + "'a", 2, 2);
        }
    }

    private static void theTokenBehindAnOperator() {
        Probe.sentence(7, "with an operator behind it the next token is read, which has to be ), "
                + "else it makes a syntax fault)");
        for (String sign : new String[] {"<=>", "==>", "\\/", "/\\", "=", "<", "<=", "+", "*"}) {
            for (String deep : new String[] {"", "(".repeat(39), FORTY}) {
                String start = deep + "(" + sign;
                int behind = start.length();
                new Probe().termFaultDue(start, 2, behind);
                new Probe().termFaultDue(start + " T", 2, behind + 1);
                new Probe().termFaultDue(start + "(", 2, behind);
                new Probe().termFaultDue(start + " #)\n T", 2, behind + 5);
                new Probe().termFaultDue(start + "$", 1, behind);
                new Probe().termFaultDue(start + "50", 8, behind);
                new Probe().termFaultDue(start + ")$", 1, behind + 1);
                Probe probe = new Probe();
                probe.termFaultDue(start + "'new", 2, behind);
                probe.wholeTypeDue("\\(x:'next).x", "2 -1001 -1001");
            }
        }
    }

    private static void theFirstTokenOfAllOthers() {
        Probe.sentence(7, "all others the text's first token");
        for (String before : new String[] {"", " ", "\t#$\n", " ".repeat(3000)}) {
            int start = before.length();
            new Probe().termFaultDue(before + "T T", 3, start);
            new Probe().termFaultDue(before + "T=x", 4, start);
            new Probe().termFaultDue(before + "(T:what)", 3, start);
            new Probe().termFaultDue(before + "~".repeat(50) + "T", 8, start);
            new Probe().termFaultDue(before + "T" + "/\\T".repeat(200), 8, start);
            new Probe().termFaultDue(before + "(T:" + TYPE_TOO_HIGH + ")", 8, start);
            new Probe().termFaultDue(before + TWELVE + "T", 8, start);
            new Probe().constantFaultDue(before + "T:bool", 4, start);
            new Probe().constantFaultDue(before + "c:what", 3, start);
            new Probe().constantFaultDue(before + "c:" + TYPE_TOO_HIGH, 8, start);
            new Probe().typeFaultDue(before + "num", 4, start);
        }
        withAllConstants().constantFaultDue("  more:bool", 8, 2);
        withAllTypes().typeFaultDue("  more", 8, 2);
    }

    private static void withoutAnyToken() {
        Probe.sentence(7, "(a text without any has a syntax fault at its length).");
        for (String text : new String[] {"", " ", "\n", "#", "# T", "#\n", " \t\r\n#x\n #", " ".repeat(8000),
            "#".repeat(8000)}) {
            new Probe().termFaultDue(text, 2, text.length());
            new Probe().constantFaultDue(text, 2, text.length());
            new Probe().typeFaultDue(text, 2, text.length());
        }
        Probe probe = new Probe();
        probe.feed("        T");
        Probe.due("term(8)", probe.term(8), -1);
        Probe.due("place", probe.place(), 8);
    }

    private static Probe withAllConstants() {
        Probe probe = new Probe();
        for (int i = 0; i < 100; i++) {
            probe.constant("c" + i + ":bool");
        }
        return probe;
    }

    private static Probe withAllTypes() {
        Probe probe = new Probe();
        for (int i = 0; i < 30; i++) {
            probe.type("t" + i);
        }
        return probe;
    }

    private static void syntaxFirst() {
        Probe.sentence(7, "In a text: first its syntax;");
        new Probe().constantFaultDue("T:bool)", 2, 6);
        new Probe().constantFaultDue("T:bool $", 1, 7);
        new Probe().typeFaultDue("bool bool", 2, 5);
        withAllConstants().constantFaultDue("more:bool)", 2, 9);
        withAllTypes().typeFaultDue("more 'a 'b 'c", 2, 11);
        new Probe().termFaultDue("~".repeat(50) + "T)", 2, 51);
        new Probe().termFaultDue("(T:" + TYPE_TOO_HIGH, 2, 3 + TYPE_TOO_HIGH.length());
        new Probe().termFaultDue("x)", 2, 1);
        new Probe().termFaultDue("T T $", 1, 4);
        new Probe().termFaultDue("T" + "/\\T".repeat(2000) + ")", 2, 6001);
    }

    private static void thenWhetherNew() {
        Probe.sentence(7, "then whether a name is new;");
        Probe constants = withAllConstants();
        constants.constantFaultDue("c99:bool", 4, 0);
        constants.constantFaultDue("T:" + TYPE_TOO_HIGH, 4, 0);
        constants.constantFaultDue("T:what", 4, 0);
        withAllTypes().typeFaultDue("t29 'a", 4, 0);
        withAllTypes().typeFaultDue("num", 4, 0);
        new Probe().constantFaultDue("T:" + TYPE_TOO_HIGH, 4, 0);
    }

    private static void thenWhetherThereIsRoom() {
        Probe.sentence(7, "then whether there is room for one more;");
        withAllConstants().constantFaultDue("more:what", 8, 0);
        withAllConstants().constantFaultDue("more:bool bool", 8, 0);
        new Probe().constantFaultDue("more:what", 3, 0);
    }

    private static void thenSymbolsAndHeight() {
        Probe.sentence(7, "then symbols and height, also of the types that are written;");
        new Probe().termFaultDue("~".repeat(49) + "x", 4, 0);
        new Probe().termFaultDue("~".repeat(50) + "x", 8, 0);
        new Probe().termFaultDue("~".repeat(49) + "0", 3, 0);
        new Probe().termFaultDue("~".repeat(50) + "0", 8, 0);
        new Probe().termFaultDue("x" + "/\\x".repeat(200), 8, 0);
        new Probe().termFaultDue("0" + "/\\0".repeat(200), 8, 0);
        new Probe().termFaultDue("(x:" + TYPE_TOO_HIGH + ")", 8, 0);
        new Probe().termFaultDue("(T:" + TYPE_TOO_HIGH + ")", 8, 0);
        new Probe().termFaultDue("(T:what->" + TYPE_TOO_HIGH + ")", 8, 0);
        new Probe().constantFaultDue("c:what->" + TYPE_TOO_HIGH, 8, 0);
    }

    private static void thenNames() {
        Probe.sentence(7, "names; types;");
        new Probe().termFaultDue("T T x", 4, 0);
        new Probe().termFaultDue("x(T T)", 4, 0);
        new Probe().termFaultDue("(x:what)", 4, 0);
        new Probe().termFaultDue("(T:what)+T", 4, 0);
        new Probe().termFaultDue(TWELVE + "x", 4, 0);
        new Probe().termFaultDue("\\x.x x y", 4, 0);
    }

    private static void thenTypes() {
        Probe.sentence(7, "names; types; then the sizes of all types.");
        new Probe().termFaultDue(TWELVE + "T", 8, 0);
        new Probe().termFaultDue(TWELVE + "T T", 3, 0);
        new Probe().termFaultDue(TWELVE + "\\x.x x", 3, 0);
        new Probe().termFaultDue(TWELVE + "(T:what)", 3, 0);
        new Probe().termFaultDue(TWELVE + "(T:bool bool)", 3, 0);
        new Probe().termFaultDue("(" + TWELVE + "T) T T T T T T T T T T T T T", 3, 0);
    }
}
