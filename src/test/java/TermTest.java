/** Promise 3: the first n bytes are a term: how many symbols it has; -1 if there is a fault. */
public final class TermTest {
    public static void main(String[] args) {
        ordinaryTerms();
        operatorsAndTheirStrength();
        tokensAndBlanks();
        numerals();
        sizesOfTerms();
        sizesOfTypes();
        typesThatDoNotAgree();
        typesThatShareTheirParts();
        muchIsForgotten();
        theTermBeforeStays();
        Probe.end();
    }

    private static void ordinaryTerms() {
        Probe probe = new Probe();
        probe.termDue("T", 1);
        probe.termDue("\\x. x", 2);
        probe.termDue("!x y. x = y ==> y = x", 19);
        probe.termDue("~ ~ T", 5);
        probe.termDue("(\\f x. f x) SUC 0", 9);
        probe.termDue("((T : bool) : bool)", 1);
        probe.termDue("(~) T", 3);
        probe.termDue("~ !x. x", 6);
        probe.termDue("T /\\ !x. x /\\ T", 12);
        probe.termDue("(\\x. x : 'a -> 'a)", 2);
    }

    private static void operatorsAndTheirStrength() {
        Probe probe = new Probe();
        probe.constantDue("+ : num -> num -> num", 12);
        probe.constantDue("* : num -> num -> num", 13);
        probe.constantDue("< : num -> num -> bool", 14);
        probe.constantDue("<= : num -> num -> bool", 15);
        sameDue(probe, "T <=> F <=> T", "T <=> (F <=> T)");
        sameDue(probe, "T ==> F ==> T", "T ==> (F ==> T)");
        sameDue(probe, "T \\/ F \\/ T", "T \\/ (F \\/ T)");
        sameDue(probe, "T /\\ F /\\ T", "T /\\ (F /\\ T)");
        sameDue(probe, "0 + 1 + 2", "(0 + 1) + 2");
        sameDue(probe, "0 * 1 * 2", "(0 * 1) * 2");
        sameDue(probe, "T <=> F ==> T \\/ F /\\ 0 = 1 + 2 * 3",
                "T <=> (F ==> (T \\/ (F /\\ (0 = (1 + (2 * 3))))))");
        sameDue(probe, "3 * 2 + 1 < 0 /\\ F \\/ T ==> F <=> T",
                "((((((3 * 2) + 1) < 0) /\\ F) \\/ T) ==> F) <=> T");
        sameDue(probe, "0 <= 1 /\\ 1 < 2", "(0 <= 1) /\\ (1 < 2)");
        sameDue(probe, "~ T /\\ F", "(~ T) /\\ F");
        sameDue(probe, "~ (~) T", "~ ((~) T)");
        sameDue(probe, "SUC 0 + SUC 1", "(SUC 0) + (SUC 1)");
        sameDue(probe, "0 = 1 ==> !x. x ==> T", "(0 = 1) ==> (!x. (x ==> T))");
        sameDue(probe, "!x. T /\\ (\\y. x) x", "!x. (T /\\ ((\\y. x) x))");
        sameDue(probe, "!x y. x y", "!x. !y. x y");
        sameDue(probe, "T = @x. x = T", "T = (@x. (x = T))");
        for (String second : new String[] {"=", "<", "<="}) {
            probe.termFaultDue("0 = 1 " + second + " 2", 2, 6);
            probe.termFaultDue("0 < 1 " + second + " 2", 2, 6);
            probe.termFaultDue("0 <= 1 + 2 " + second + " 2", 2, 11);
            probe.termFaultDue("\\x. 0 = 1 " + second + " 2", 2, 10);
            probe.termFaultDue("(~ @x. 0 = 1 " + second + " 2)", 2, 13);
        }
    }

    private static void sameDue(Probe probe, String text, String other) {
        probe.symbolsDue(other, symbolsOf(probe, text));
    }

    private static String symbolsOf(Probe probe, String text) {
        probe.term(text);
        Probe.due("fault of <" + text + ">", probe.reader.fault(), 0);
        return probe.symbols();
    }

    private static void tokensAndBlanks() {
        Probe probe = new Probe();
        probe.termDue("!x.x==>~x", 10);
        probe.termDue("T/\\T\\/F", 9);
        probe.termDue("\t\r\n T # the rest, even $ and ), is a blank\n/\\#\n#again\nF#", 5);
        probe.termDue("\\x' x'' _ _1a. x'' _", 7);
        probe.termDue("\\T. T", 2);
        probe.termDue("\\byx. byx", 2);
        probe.termDue("\\bx xy ix xn b y i n. T", 9);
        probe.termDue("\\x.(\\/)x x", 6);
        probe.termDue("(\\ x . x)", 2);
        probe.termDue("SUC(SUC 0)", 5);
        probe.termDue("\\abcdefghijklmnopqrstuvwx. T", 2);
        probe.termDue("\\(x : 'abcdefghijklmnopqrstuvwx). T", 2);
        probe.termDue("(~ # no term )\n )", 1);
        probe.termFaultDue("\\by. T", 2, 1);
        probe.termFaultDue("\\in. T", 2, 1);
        probe.termFaultDue("\\abcdefghijklmnopqrstuvwxy. T", 8, 1);
        probe.termFaultDue("\\(x : 'abcdefghijklmnopqrstuvwxy). T", 8, 6);
        probe.termFaultDue("T => F", 1, 3);
        probe.termFaultDue("T === F", 2, 3);
        probe.termFaultDue("T <-> F", 2, 2);
        probe.termFaultDue("T / F", 1, 2);
        probe.termFaultDue("T - F", 1, 2);
        probe.termFaultDue("(T : '1)", 1, 5);
        probe.termFaultDue("(T := bool)", 2, 3);
    }

    private static void numerals() {
        Probe probe = new Probe();
        probe.termDue("0", 1);
        probe.termDue("007", 15);
        probe.termDue("49", 99);
        probe.termDue("00000000000000000000000000000049", 99);
        probe.termFaultDue("50", 8, 0);
        probe.termFaultDue("4294967296", 8, 0);
        probe.termFaultDue("18446744073709551617", 8, 0);
        probe.termDue("SUC 48", 99);
        probe.termFaultDue("SUC 49", 8, 0);
        probe.termFaultDue("49 = 0", 8, 0);
    }

    private static void sizesOfTerms() {
        Probe probe = new Probe();
        probe.termDue("~".repeat(49) + "T", 99);
        probe.termFaultDue("~".repeat(50) + "T", 8, 0);
        probe.termFaultDue("~".repeat(5999) + "T", 8, 0);
        // 5 times 25 T, with /\ between all of them, are 4 * 125 - 3 symbols, and low.
        String row = "(T" + "/\\T".repeat(24) + ")";
        String rows = row + ("/\\" + row).repeat(4);
        probe.termDue(rows, 497);
        probe.termDue("\\x y z." + rows, 500);
        probe.termFaultDue("\\x y z w." + rows, 8, 0);
        probe.termDue("!" + "x ".repeat(24) + ". T", 73);
        probe.termFaultDue("!" + "x ".repeat(25) + ". T", 8, 0);
        probe.termFaultDue("\\" + "x ".repeat(600) + ". T", 8, 0);
        probe.termFaultDue(" T" + "+T".repeat(2999), 8, 1);
        probe.termFaultDue("T" + "==>T".repeat(1900), 8, 0);
        probe.termFaultDue("SUC" + " 49".repeat(2600), 8, 0);
        // Size comes before names, and names before types.
        probe.termFaultDue("\\x y z w. " + rows + "/\\ nope", 8, 0);
        probe.termFaultDue("T T nope", 4, 0);
    }

    private static void sizesOfTypes() {
        Probe probe = new Probe();
        probe.typeDue("list 'a", 4);
        probe.constantDue("any : 'a", 12);
        String ten = "(bool" + "->bool".repeat(9) + ")";
        String forty = "list (" + ten + "->" + ten + ")";
        String fortyOne = "list " + ten + "-> list " + ten;
        String high = "bool" + "->bool".repeat(11);
        probe.termDue("(any : " + forty + ")", 1);
        probe.termFaultDue("(any : " + fortyOne + ")", 8, 0);
        probe.termDue("(any : " + high + ")", 1);
        probe.termFaultDue("(any : bool -> " + high + ")", 8, 0);
        // A written one is too large before a name is unknown, a found one behind all the rest.
        probe.termFaultDue("(nope : " + fortyOne + ")", 8, 0);
        probe.termFaultDue("(any : what -> " + high + ")", 8, 0);
        probe.termFaultDue("(any : bool" + " bool".repeat(40) + ")", 8, 0);
        probe.termFaultDue("(any : bool" + " bool".repeat(39) + ")", 3, 0);
        probe.termFaultDue("(nope : bool -> " + high + ") (any : bool)", 8, 0);
        probe.termFaultDue("(any : what (bool" + "->bool".repeat(10) + "))", 3, 0);
        probe.termFaultDue("(any : what (bool" + "->bool".repeat(11) + "))", 8, 0);
        probe.termFaultDue("(any : " + "bool->".repeat(11) + "what)", 3, 0);
        probe.termFaultDue("(any : " + "bool->".repeat(11) + "what 'a)", 8, 0);
        // Only any itself has a type that is too large, and its parts are found behind the whole.
        probe.termDue("(any (any : " + ten + ") : " + ten + ")", 3);
        probe.termFaultDue("(any (any : " + ten + ") : bool -> " + ten + ")", 8, 0);
        probe.termFaultDue("(any T : " + high + ")", 8, 0);
        probe.termFaultDue("(\\x. any x) (any : " + high + ")", 8, 0);
        probe.termFaultDue("\\(x : " + forty + "). T", 8, 0);
        probe.termFaultDue("\\(x : " + forty + "). nope", 4, 0);
        probe.termFaultDue("\\(x : " + forty + "). T T", 3, 0);
        probe.termDue("\\" + "x ".repeat(11) + ". T", 12);
        probe.termFaultDue("\\" + "x ".repeat(12) + ". T", 8, 0);
    }

    private static void typesThatDoNotAgree() {
        Probe probe = new Probe();
        probe.typeDue("list 'a", 4);
        String[] texts = {"T T", "\\x. x x", "0 = T", "!x. 0", "?x. SUC", "@x. 0", "(T : num)", "(T : 'a)",
            "\\(x : 'a) (y : 'b). x = y", "0 <=> 0", "(<=>) 0", "~ 0", "SUC T", "T /\\ 0", "\\x. x = \\y. x",
            "(T : what)", "(T : bool bool)", "(T : list)", "(T : list 'a 'b)", "\\(x : list list). x",
            "\\(x : what). T", "\\f. f (f 0) /\\ f T",
            "\\x y. x y /\\ y x", "\\x y. x T = y /\\ y T = x", "(\\x. x) T 0", "\\(x : ->). x"};
        for (int i = 0; i < texts.length - 1; i++) {
            probe.termFaultDue(texts[i], 3, 0);
        }
        probe.termFaultDue(texts[texts.length - 1], 2, 6);
        probe.termDue("\\(x : 'a) (y : 'a). x = y", 7);
        probe.termDue("(\\x. x) (\\x. x) T", 7);
        probe.termDue("T <=> F", 5);
    }

    /** Written out, these types have more symbols than could ever be counted one by one. */
    private static void typesThatShareTheirParts() {
        Probe probe = new Probe();
        probe.typeDue("pair 'a 'b", 4);
        probe.constantDue("mk : 'a -> 'b -> pair 'a 'b", 12);
        StringBuilder chain = new StringBuilder("\\x0 x1 x2 x3 x4 x5 x6 x7 x8 x9. ");
        for (int round = 0; round < 9; round++) {
            chain.append("(x").append(round + 1).append(" = mk x").append(round);
            chain.append(" x").append(round).append(") /\\ ");
        }
        probe.termFaultDue(chain + "T", 8, 0);
        probe.termFaultDue(chain + "x9 = x0", 3, 0);
        probe.termFaultDue(chain + "x9 = T", 3, 0);
        StringBuilder nested = new StringBuilder("T");
        for (int round = 0; round < 19; round++) {
            nested.insert(0, "(\\x. mk x x) (").append(")");
        }
        probe.termFaultDue(nested.toString(), 8, 0);
        probe.termFaultDue("(" + nested + " : bool)", 3, 0);
    }

    /** Large constants, so many that not even their types are all kept, leave nothing behind. */
    private static void muchIsForgotten() {
        Probe probe = new Probe();
        probe.typeDue("list 'a", 4);
        String ten = "(bool" + "->bool".repeat(9) + ")";
        probe.constantDue("c : list (" + ten + "->" + ten + ")", 12);
        probe.termFaultDue("c" + "==>c".repeat(1500), 8, 0);
        probe.constantDue("d : bool", 13);
        probe.termFaultDue("c" + "==>c".repeat(1500), 8, 0);
        probe.termDue("d", 1);
        probe.termDue("\\x. x", 2);
        probe.termFaultDue(" x", 4, 1);
    }

    private static void theTermBeforeStays() {
        Probe probe = new Probe();
        probe.termDue("\\x. SUC x", 4);
        String symbols = "-2 -1 23 0";
        Probe.due("symbols", probe.symbols(), symbols);
        String[] texts = {"", "$", "T T", "nope", "50", "T =", "((((", "~".repeat(60) + "T"};
        for (String text : texts) {
            Probe.due("term <" + text + ">", probe.term(text), -1);
            Probe.due("symbols behind <" + text + ">", probe.symbols(), symbols);
            Probe.due("type behind <" + text + ">", probe.typeOf(0), "2 3 3");
        }
        Probe.due("term(-1)", probe.term(-1), Probe.REFUSED);
        Probe.due("symbols behind a refused call", probe.symbols(), symbols);
        probe.constantDue("c : bool", 12);
        probe.typeDue("t", 4);
        Probe.due("symbols behind a constant and a type", probe.symbols(), symbols);
        probe.termDue("F", 1);
        Probe.due("symbols of F", probe.symbols(), "5");
    }
}
