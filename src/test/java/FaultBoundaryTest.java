/** Promise 6, and the limits that it rests on, at their boundaries: a test for each sentence that names one. */
public final class FaultBoundaryTest {
    private static final String TEN = "(bool" + "->bool".repeat(9) + ")";
    private static final String TWENTY_FOUR = "abcdefghijklmnopqrstuvwx";

    public static void main(String[] args) {
        theLatestText();
        unknownOrNotNew();
        symbolsOfATerm();
        heightOfATerm();
        symbolsOfAWrittenType();
        symbolsOfAPartsType();
        heightOfAWrittenType();
        heightOfAPartsType();
        whatATypesSymbolsAre();
        tokensOfAText();
        depthOfTerms();
        depthOfTypes();
        depthOfBinders();
        binderOfSeveralVariables();
        typesWithinTheBinder();
        whatDoesNotCount();
        lengthsOfNames();
        theMarkCountsNot();
        numeralsAbove49();
        oneHundredConstants();
        thirtyTypes();
        Probe.end();
    }

    private static void theLatestText() {
        Probe.sentence(6, "The latest fault; 0 if the latest text had none.");
        Probe probe = new Probe();
        Probe.due("fault without a text", probe.fault(), 0);
        String[] texts = {"$", ")", "T T", "x", "50", "T"};
        int[] faults = {1, 2, 3, 4, 8, 0};
        for (int i = 0; i < texts.length; i++) {
            probe.term(texts[i]);
            Probe.due("fault of " + texts[i], probe.fault(), faults[i]);
            probe.feed("$");
            Probe.due("fault behind feed", probe.fault(), faults[i]);
            Probe.due("term(21)", probe.term(21), Probe.REFUSED);
            Probe.due("constant(-1)", probe.constant(-1), Probe.REFUSED);
            Probe.due("type(21)", probe.type(21), Probe.REFUSED);
            Probe.due("symbol(9)", probe.symbol(9), Probe.REFUSED);
            Probe.due("fault behind refused calls", probe.fault(), faults[i]);
            Probe.due("term(0)", probe.term(0), -1);
            Probe.due("fault of no bytes", probe.fault(), 2);
        }
        probe.constant("T:bool");
        Probe.due("fault of a constant", probe.fault(), 4);
        probe.constant("c:bool");
        Probe.due("fault of a right constant", probe.fault(), 0);
        probe.type("bool");
        Probe.due("fault of a type", probe.fault(), 4);
        probe.type("t");
        Probe.due("fault of a right type", probe.fault(), 0);
    }

    private static void unknownOrNotNew() {
        Probe.sentence(6, "4 NAME (unknown, or not new)");
        Probe probe = new Probe();
        probe.termFaultDue("c", 4, 0);
        probe.constantDue("c:bool", 12);
        probe.constantFaultDue("c:bool", 4, 0);
        probe.termDue("c", 1);
        probe.typeDue("t", 4);
        probe.typeFaultDue("t", 4, 0);
        probe.termFaultDue("(c:what)", 3, 0);
    }

    /** So many symbols, 500 with k of 3, and neither high nor of a large type. */
    private static String symbols497And(int k) {
        String row = "(T" + "/\\T".repeat(24) + ")";
        String start = k == 0 ? "" : "\\" + "x ".repeat(k) + ".";
        return start + row + ("/\\" + row).repeat(4);
    }

    private static void symbolsOfATerm() {
        Probe.sentence(6, "8 LARGE: a term of more than 500 symbols");
        new Probe().termDue(symbols497And(2), 499);
        new Probe().termDue(symbols497And(3), 500);
        new Probe().termFaultDue(" " + symbols497And(4), 8, 1);
        new Probe().termFaultDue(" " + symbols497And(5), 8, 1);
        new Probe().termFaultDue("T" + "/\\T".repeat(2000), 8, 0);
        new Probe().termFaultDue("(" + symbols497And(3) + ":bool)", 3, 0);
        new Probe().termFaultDue("(" + symbols497And(4) + ":bool)", 8, 0);
        // Numerals are written short: 6 times 81 symbols, 6 applications, and 8 or 9 more of the function.
        String numerals = " 40".repeat(6);
        new Probe().termDue("(\\a b c d e f g.T)" + numerals, 500);
        new Probe().termFaultDue("(\\a b c d e f g h.T)" + numerals, 8, 0);
    }

    private static void heightOfATerm() {
        Probe.sentence(6, "or height 50");
        new Probe().termDue("~".repeat(48) + "T", 97);
        new Probe().termDue("~".repeat(49) + "T", 99);
        new Probe().termFaultDue(" " + "~".repeat(50) + "T", 8, 1);
        new Probe().termDue("49", 99);
        new Probe().termDue("SUC 48", 99);
        new Probe().termFaultDue(" SUC 49", 8, 1);
        // A binder is two high, with its constant, and the body lies within both.
        new Probe().termDue("!" + "x ".repeat(24) + ".~x", 75);
        new Probe().termFaultDue("!" + "x ".repeat(24) + ".~~x", 8, 0);
        new Probe().termDue("T" + "==>T".repeat(48), 193);
        new Probe().termFaultDue("T" + "==>T".repeat(49), 8, 0);
        // The function counts too: each further argument lies beside what is one higher.
        new Probe().termFaultDue("T" + " T".repeat(49), 3, 0);
        new Probe().termFaultDue("T" + " T".repeat(50), 8, 0);
    }

    private static Probe withTypesOfAllSizes() {
        Probe probe = new Probe();
        probe.type("one 'a");
        probe.constant("any:'a");
        return probe;
    }

    private static void symbolsOfAWrittenType() {
        Probe.sentence(6, "or in it (as written, or in a part of the term) a type of more than 40 symbols or height 12");
        Probe probe = withTypesOfAllSizes();
        probe.termDue("(any:one(" + TEN + "->" + TEN + "))", 1);
        probe.termFaultDue(" (any:one " + TEN + "->one " + TEN + ")", 8, 1);
        probe.termFaultDue("(T:bool" + " 'a".repeat(39) + ")", 3, 0);
        probe.termFaultDue("(T:bool" + " 'a".repeat(40) + ")", 8, 0);
        probe.termFaultDue("(nope:bool" + " 'a".repeat(39) + ")", 4, 0);
        probe.termFaultDue("(nope:bool" + " 'a".repeat(40) + ")", 8, 0);
        probe.termFaultDue("\\(x:one(" + TEN + "->" + TEN + ")).nope", 4, 0);
        probe.termFaultDue("\\(x:one " + TEN + "->one " + TEN + ").nope", 8, 0);
        // One that is too large is enough, wherever it stands among the others.
        probe.termFaultDue("((nope:one " + TEN + "->one " + TEN + "):bool)", 8, 0);
        probe.termFaultDue("((nope:bool):one " + TEN + "->one " + TEN + ")", 8, 0);
    }

    private static void symbolsOfAPartsType() {
        Probe.sentence(6, "or in it (as written, or in a part of the term) a type of more than 40 symbols");
        Probe probe = withTypesOfAllSizes();
        // any is applied, so its own type is a function's: 1 and what is written, 19 or 20, twice.
        probe.termDue("(any(any:" + TEN + "):" + TEN + ")", 3);
        probe.termDue("(any(any:" + TEN + "):one " + TEN + ")", 3);
        Probe.due("the last symbol of a type of 40", probe.typeSymbol(1, 39), 0);
        Probe.due("one more", probe.typeSymbol(1, 40), Probe.REFUSED);
        probe.termFaultDue(" (any(any:one " + TEN + "):one " + TEN + ")", 8, 1);
        probe.termDue("T=(\\x.T)(any(any:" + TEN + "):one " + TEN + ")", 10);
        probe.termFaultDue("T=(\\x.T)(any(any:one " + TEN + "):one " + TEN + ")", 8, 0);
        // = on a type of 18 symbols is of 39, on one of 19 of 41.
        String nine = "(bool" + "->bool".repeat(8) + ")";
        probe.termDue("any=(any:one " + nine + ")", 5);
        probe.termFaultDue("any=(any:" + TEN + ")", 8, 0);
        probe.termFaultDue("any=(any:one(one " + nine + "))", 8, 0);
    }

    private static void heightOfAWrittenType() {
        Probe.sentence(6, "or in it (as written, or in a part of the term) a type of more than 40 symbols or height 12");
        Probe probe = withTypesOfAllSizes();
        probe.termDue("(any:bool" + "->bool".repeat(11) + ")", 1);
        probe.termFaultDue(" (any:bool" + "->bool".repeat(12) + ")", 8, 1);
        probe.termDue("(any:" + "one(".repeat(11) + "num" + ")".repeat(12), 1);
        probe.termFaultDue("(any:" + "one(".repeat(12) + "num" + ")".repeat(13), 8, 0);
        probe.termFaultDue("(nope:bool" + "->bool".repeat(11) + ")", 4, 0);
        probe.termFaultDue("(nope:bool" + "->bool".repeat(12) + ")", 8, 0);
        probe.termFaultDue("\\(x:what(bool" + "->bool".repeat(10) + ")).T", 3, 0);
        probe.termFaultDue("\\(x:what(bool" + "->bool".repeat(11) + ")).T", 8, 0);
        probe.termFaultDue("\\(x:" + "bool->".repeat(11) + "what).T", 3, 0);
        probe.termFaultDue("\\(x:" + "bool->".repeat(11) + "what bool).T", 8, 0);
    }

    private static void heightOfAPartsType() {
        Probe.sentence(6, "or in it (as written, or in a part of the term) a type of more than 40 symbols or height 12");
        Probe probe = withTypesOfAllSizes();
        probe.termDue("\\" + "x ".repeat(11) + ".T", 12);
        probe.termFaultDue(" \\" + "x ".repeat(12) + ".T", 8, 1);
        probe.termDue("(any T:bool" + "->bool".repeat(10) + ")", 3);
        probe.termFaultDue("(any T:bool" + "->bool".repeat(11) + ")", 8, 0);
        probe.termDue("any(any:bool" + "->bool".repeat(10) + ")", 3);
        probe.termFaultDue("any(any:bool" + "->bool".repeat(11) + ")", 8, 0);
        probe.termDue("T=(\\x.T)(\\" + "x ".repeat(10) + ".T)", 18);
        probe.termFaultDue("T=(\\x.T)(\\" + "x ".repeat(11) + ".T)", 8, 0);
    }

    private static void whatATypesSymbolsAre() {
        Probe.sentence(6, "Likewise of a type, also a written one: type variables and names of types "
                + "(-> is one with two: from, to; ( ) are none).");
        Probe probe = withTypesOfAllSizes();
        // Each of these is 4 symbols and 2 higher, whatever ( ) there are.
        String start = "('a->((num))->".repeat(5);
        String eleven = start + "('a)" + ")".repeat(5);
        probe.termDue("(any:" + eleven + ")", 1);
        probe.termDue("(any:(((one" + eleven + "))))", 1);
        probe.termFaultDue("(any:one(one" + eleven + "))", 8, 0);
        probe.wholeTypeDue("(any:((one((('a)->(num))))))", "4 2 -1000 3");
        probe.termDue("(any:((one((" + TEN + ")->((" + TEN + "))))))", 1);
        probe.termFaultDue("(any:one" + TEN + "->one" + TEN + ")", 8, 0);
    }

    /** A right term of 5999 tokens: 100 times T in 28 or 29 ( ), 99 times /\, and 10 times ( ) round ten of them. */
    private static String tokens5999() {
        StringBuilder text = new StringBuilder();
        for (int i = 0; i < 100; i++) {
            int deep = i < 10 ? 28 : 29;
            text.append(i % 10 == 0 ? "(" : "").append("(".repeat(deep)).append("T").append(")".repeat(deep));
            text.append(i % 10 == 9 ? ")" : "").append(i == 99 ? "" : "/\\");
        }
        return text.toString();
    }

    private static void tokensOfAText() {
        Probe.sentence(6, "a text of more than 6000 tokens");
        String right = tokens5999();
        new Probe().termDue(right, 397);
        new Probe().termDue("~" + right, 399);
        new Probe().termDue("~ " + right + " # no token", 399);
        new Probe().termFaultDue("~~" + right, 8, right.length() + 1);
        new Probe().termFaultDue("~" + right + " $", 8, right.length() + 2);
        new Probe().termFaultDue("~" + right + ")", 8, right.length() + 1);
        // A constant's text of so many tokens is of a type that is too large, as a whole.
        String tokens6000 = "c:f" + "(a)".repeat(1999);
        new Probe().constantFaultDue(tokens6000, 8, 0);
        new Probe().constantFaultDue(tokens6000 + "a", 8, 6000);
    }

    private static void depthOfTerms() {
        Probe.sentence(6, "( of terms and types and binders more than 40 deep in each other");
        new Probe().termDue("(".repeat(39) + "T" + ")".repeat(39), 1);
        new Probe().termDue("(".repeat(40) + "T" + ")".repeat(40), 1);
        new Probe().termFaultDue("(".repeat(41) + "T" + ")".repeat(41), 8, 41);
        new Probe().termFaultDue("(T)".repeat(41), 3, 0);
        new Probe().termDue("SUC" + "(SUC".repeat(40) + " 0" + ")".repeat(40), 83);
        new Probe().termFaultDue("SUC" + "(SUC".repeat(41) + " 0" + ")".repeat(41), 8, 164);
        // What is closed again counts no more.
        new Probe().termDue("(" + "(".repeat(39) + "T" + ")".repeat(39) + "=" + "(".repeat(39) + "T" + ")".repeat(40), 5);
        new Probe().termFaultDue("(" + "(".repeat(39) + "T" + ")".repeat(39) + "=" + "(".repeat(40) + "T", 8, 121);
    }

    private static void depthOfTypes() {
        Probe.sentence(6, "( of terms and types and binders more than 40 deep in each other");
        new Probe().constantDue("c:" + "(".repeat(40) + "num" + ")".repeat(40), 12);
        new Probe().constantFaultDue("c:" + "(".repeat(41) + "num" + ")".repeat(41), 8, 43);
        new Probe().termDue("(T:" + "(".repeat(39) + "bool" + ")".repeat(40), 1);
        new Probe().termFaultDue("(T:" + "(".repeat(40) + "bool" + ")".repeat(41), 8, 43);
        new Probe().termDue("(".repeat(39) + "(T:bool)" + ")".repeat(39), 1);
        new Probe().termDue("(".repeat(38) + "(T:(bool))" + ")".repeat(38), 1);
        new Probe().termFaultDue("(".repeat(39) + "(T:(bool))" + ")".repeat(39), 8, 43);
        Probe probe = withTypesOfAllSizes();
        probe.termDue("(".repeat(38) + "(any:one(bool))" + ")".repeat(38), 1);
        probe.termFaultDue("(".repeat(39) + "(any:one(bool))" + ")".repeat(39), 8, 48);
        probe.termFaultDue("(".repeat(39) + "(any:bool->(bool))" + ")".repeat(39), 8, 51);
    }

    /** Binders in each other, low and of small types: any = brings back bool, so that no type grows large. */
    private static String bindersInEachOther(int binders) {
        StringBuilder text = new StringBuilder();
        for (int i = 0; i < binders; i++) {
            text.append(i % 7 == 0 ? "any=" : "").append("\\x.");
        }
        return text.append("T").toString();
    }

    private static void depthOfBinders() {
        Probe.sentence(6, "( of terms and types and binders more than 40 deep in each other");
        String forty = bindersInEachOther(40);
        withTypesOfAllSizes().termDue(forty, 65);
        String more = bindersInEachOther(41);
        withTypesOfAllSizes().termFaultDue(more, 8, more.length() - 3);
        withTypesOfAllSizes().termDue(bindersInEachOther(39).replace("T", "(T)"), 64);
        withTypesOfAllSizes().termFaultDue(forty.replace("T", "(T)"), 8, forty.length());
        String[] binders = {"\\", "!", "?", "@"};
        for (String binder : binders) {
            withTypesOfAllSizes().termDue("(".repeat(39) + binder + "x.T" + ")".repeat(39), binder.equals("\\") ? 2 : 4);
            withTypesOfAllSizes().termFaultDue("(".repeat(40) + binder + "x.T" + ")".repeat(40), 8, 41);
        }
    }

    private static void binderOfSeveralVariables() {
        Probe.sentence(6, "(a binder of several variables counts once");
        new Probe().termDue("\\a b c d e." + "(".repeat(39) + "T" + ")".repeat(39), 6);
        new Probe().termFaultDue("\\a b c d e." + "(".repeat(40) + "T" + ")".repeat(40), 8, 51);
        new Probe().termFaultDue("!" + "x ".repeat(41) + ".T", 8, 0);
    }

    private static void typesWithinTheBinder() {
        Probe.sentence(6, "and their types lie within it");
        new Probe().termDue("\\(x:" + "(".repeat(39) + "bool" + ")".repeat(39) + ").x", 2);
        new Probe().termFaultDue("\\(x:" + "(".repeat(40) + "bool" + ")".repeat(40) + ").x", 8, 44);
        new Probe().termDue("\\a b(x:" + "(".repeat(39) + "bool" + ")".repeat(39) + ").x", 4);
        new Probe().termFaultDue("\\a b(x:" + "(".repeat(40) + "bool" + ")".repeat(40) + ").x", 8, 47);
        new Probe().termDue("\\a.\\b.\\(x:" + "(".repeat(37) + "bool" + ")".repeat(37) + ").x", 4);
        new Probe().termFaultDue("\\a.\\b.\\(x:" + "(".repeat(38) + "bool" + ")".repeat(38) + ").x", 8, 48);
    }

    private static void whatDoesNotCount() {
        Probe.sentence(6, "a variable's ( name : type ) and an operator's ( ) do not count)");
        new Probe().termDue("(".repeat(39) + "\\(x:bool).x" + ")".repeat(39), 2);
        new Probe().termDue("(".repeat(38) + "\\(x:(bool)).x" + ")".repeat(38), 2);
        new Probe().termFaultDue("(".repeat(39) + "\\(x:(bool)).x" + ")".repeat(39), 8, 44);
        for (String sign : new String[] {"=", "<=>", "==>", "/\\", "\\/", "~", "!", "?", "@"}) {
            new Probe().termDue("(".repeat(40) + "(" + sign + ")" + ")".repeat(40), 1);
            new Probe().termDue("(".repeat(40) + "( " + sign + " # )\n )" + ")".repeat(40), 1);
        }
        for (String operator : new String[] {"+", "*", "<", "<="}) {
            new Probe().termFaultDue("(".repeat(40) + "(" + operator + ")" + ")".repeat(40), 4, 0);
        }
    }

    private static void lengthsOfNames() {
        Probe.sentence(6, "a name or type name of more than 24 characters");
        new Probe().termDue("\\" + TWENTY_FOUR + "." + TWENTY_FOUR, 2);
        new Probe().termFaultDue("\\" + TWENTY_FOUR + "y.T", 8, 1);
        new Probe().termFaultDue(TWENTY_FOUR, 4, 0);
        new Probe().termFaultDue(TWENTY_FOUR + "_", 8, 0);
        new Probe().termFaultDue("_".repeat(7000), 8, 0);
        new Probe().termDue("\\x" + "'".repeat(23) + ".T", 2);
        new Probe().termFaultDue("\\x" + "'".repeat(24) + ".T", 8, 1);
        new Probe().constantDue(TWENTY_FOUR + ":bool", 12);
        new Probe().constantFaultDue(TWENTY_FOUR + "9:bool", 8, 0);
        new Probe().constantFaultDue("c:" + TWENTY_FOUR, 3, 0);
        new Probe().constantFaultDue("c:" + TWENTY_FOUR + "1", 8, 2);
        new Probe().typeDue(TWENTY_FOUR, 4);
        new Probe().typeFaultDue(TWENTY_FOUR + "'", 8, 0);
        Probe probe = new Probe();
        probe.constantDue(TWENTY_FOUR + ":bool", 12);
        probe.constantDue(TWENTY_FOUR.replace('x', 'y') + ":bool", 13);
        probe.symbolsDue(TWENTY_FOUR, "25");
    }

    private static void theMarkCountsNot() {
        Probe.sentence(6, "a name or type name of more than 24 characters (the ' counts not)");
        new Probe().termDue("\\(x:'" + TWENTY_FOUR + ").T", 2);
        new Probe().termFaultDue("\\(x:'" + TWENTY_FOUR + "y).T", 8, 4);
        new Probe().constantDue("c:'" + TWENTY_FOUR, 12);
        new Probe().constantFaultDue("c:'" + TWENTY_FOUR + "y", 8, 2);
        new Probe().typeDue("t 'a '" + TWENTY_FOUR, 4);
        new Probe().typeFaultDue("t 'a '" + TWENTY_FOUR + "y", 8, 5);
        new Probe().typeFaultDue("t '" + TWENTY_FOUR + "y", 8, 2);
    }

    private static void numeralsAbove49() {
        Probe.sentence(6, "a numeral above 49");
        new Probe().termDue("48", 97);
        new Probe().termDue("49", 99);
        new Probe().termFaultDue(" 50", 8, 1);
        new Probe().termFaultDue(" 51", 8, 1);
        new Probe().termFaultDue("SUC 50", 8, 4);
        new Probe().termFaultDue("SUC 49", 8, 0);
        new Probe().termFaultDue("SUC 100", 8, 4);
        new Probe().termDue("0".repeat(100) + "49", 99);
        new Probe().termFaultDue("0".repeat(100) + "50", 8, 0);
        // Numbers that come back to a small one when 32 or 64 bits are full, and one of 7000 digits.
        new Probe().termFaultDue("4294967296", 8, 0);
        new Probe().termFaultDue("4294967303", 8, 0);
        new Probe().termFaultDue("2147483648", 8, 0);
        new Probe().termFaultDue("18446744073709551616", 8, 0);
        new Probe().termFaultDue("18446744073709551623", 8, 0);
        new Probe().termFaultDue("1" + "0".repeat(6999), 8, 0);
        new Probe().constantFaultDue("49:num", 2, 0);
        new Probe().constantFaultDue("50:num", 8, 0);
    }

    private static void oneHundredConstants() {
        Probe.sentence(6, "more than 100 constants besides the first twelve");
        Probe probe = new Probe();
        for (int i = 0; i < 100; i++) {
            probe.constant("c" + i + ":bool");
            Probe.due("fault of constant " + i, probe.fault(), 0);
        }
        probe.constantFaultDue("c100:bool", 8, 0);
        probe.constantFaultDue("c100:bool", 8, 0);
    }

    private static void thirtyTypes() {
        Probe.sentence(6, "30 types besides bool, ind and num.");
        Probe probe = new Probe();
        for (int i = 0; i < 30; i++) {
            probe.type("t" + i);
            Probe.due("fault of type " + i, probe.fault(), 0);
        }
        probe.typeFaultDue("t30", 8, 0);
        probe.typeFaultDue("t30", 8, 0);
    }
}
