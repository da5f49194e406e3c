/**
 * Sentences of the document that name no boundary: what texts mean and what their types are. Each
 * has a test of its own, told with the promise that rests on it.
 */
public final class MeaningTest {
    public static void main(String[] args) {
        theFirstBytes();
        atomsOfTypes();
        operands();
        atoms();
        operations();
        nots();
        abstractions();
        otherBinders();
        signsAlone();
        mostGeneralTypes();
        typesThatAreLeft();
        symbolsOfATerm();
        heights();
        prefixOrder();
        numbersOfFaults();
        Probe.end();
    }

    private static void theFirstBytes() {
        Probe.sentence(2, "Bytes are fed; term(), constant() and type() take the first n of them.");
        String text = "T/\\F $ and no more  ";
        int[] symbols = {-1, 1, -1, -1, 5, 5, -1};
        for (int n = 0; n < symbols.length; n++) {
            Probe probe = new Probe();
            probe.feed(text);
            Probe.due("term(" + n + ")", probe.term(n), symbols[n]);
        }
        Probe probe = new Probe();
        probe.feed("c:bool->num )       ");
        Probe.due("constant(6)", probe.constant(6), 12);
        probe.feed("pair 'a 'b )        ");
        Probe.due("type(7)", probe.type(7), 4);
        probe.wholeTypeDue("c", "0");
        probe.wholeTypeDue("\\(x:pair num).T", "2 4 3 0");
    }

    private static void atomsOfTypes() {
        Probe.sentence(3, "A type's atom is a type name, ( type ),");
        Probe probe = new Probe();
        probe.wholeTypeDue("\\(x:'a).T", "2 -1000 0");
        probe.wholeTypeDue("\\(x:('a)).T", "2 -1000 0");
        probe.wholeTypeDue("\\(x:((bool))).T", "2 0 0");
        probe.wholeTypeDue("\\(x:(bool->'a)->num).T", "2 2 2 0 -1000 3 0");
        probe.wholeTypeDue("\\(x:(bool)->(num)).T", "2 2 0 3 0");
        probe.termFaultDue("\\(x:'a 'a).T", 2, 7);
        probe.termFaultDue("\\(x:'a bool).T", 2, 7);
        probe.termFaultDue("\\(x:(bool)bool).T", 2, 10);
        probe.termFaultDue("\\(x:()).T", 2, 5);
        probe.termFaultDue("\\(x:0).T", 2, 4);
        probe.termFaultDue("\\(x:).T", 2, 4);
    }

    private static void operands() {
        Probe.sentence(3, "An OPERAND is ~ and an operand; or a BINDER;");
        Probe probe = new Probe();
        probe.symbolsDue("~T", "-1 7 3");
        probe.symbolsDue("~~T", "-1 7 -1 7 3");
        probe.symbolsDue("~(~)T", "-1 7 -1 7 3");
        probe.symbolsDue("~!x.x", "-1 7 -1 15 -2 0");
        probe.symbolsDue("T/\\~F", "-1 -1 9 3 -1 7 5");
        probe.symbolsDue("~T/\\F", "-1 -1 9 -1 7 3 5");
        probe.symbolsDue("T=?x.x", "-1 -1 1 3 -1 17 -2 0");
        // Neither is an atom, so nothing can be applied to it.
        probe.termFaultDue("SUC\\x.x", 2, 3);
        probe.termFaultDue("(~)~T", 2, 3);
        probe.termFaultDue("T!x.x", 2, 1);
    }

    private static void atoms() {
        Probe.sentence(3, "An atom is a name, a numeral, ( term ), ( term : type ),");
        Probe probe = new Probe();
        probe.symbolsDue("SUC", "23");
        probe.symbolsDue("2", "-1 23 -1 23 21");
        probe.symbolsDue("(T)", "3");
        probe.symbolsDue("(T:bool)", "3");
        probe.symbolsDue("((SUC:num->num))(0:num)", "-1 23 21");
        probe.symbolsDue("(T=F:bool)", "-1 -1 1 3 5");
        probe.termFaultDue("T:bool", 2, 1);
        probe.termFaultDue("(T:bool:bool)", 2, 7);
        probe.termFaultDue("(T:bool", 2, 7);
        probe.termFaultDue("(:bool)", 2, 1);
        probe.termFaultDue("'a", 2, 0);
        probe.termFaultDue("[T]", 2, 0);
    }

    private static void operations() {
        Probe.sentence(8, "an operation is its operator's constant applied to the left operand, "
                + "then to the right one;");
        Probe probe = new Probe();
        probe.constantDue("* : num->num->num", 12);
        probe.constantDue("<= : num->num->bool", 13);
        probe.constantDue("+ : num->bool->num", 14);
        probe.constantDue("< : bool->num->bool", 15);
        probe.symbolsDue("T=F", "-1 -1 1 3 5");
        probe.symbolsDue("T/\\F", "-1 -1 9 3 5");
        probe.symbolsDue("T\\/F", "-1 -1 11 3 5");
        probe.symbolsDue("T==>F", "-1 -1 13 3 5");
        probe.symbolsDue("T<=>F", "-1 -1 1 3 5");
        probe.symbolsDue("0*1", "-1 -1 25 21 -1 23 21");
        probe.symbolsDue("0<=1", "-1 -1 27 21 -1 23 21");
        probe.symbolsDue("0+T", "-1 -1 29 21 3");
        probe.symbolsDue("T<0", "-1 -1 31 3 21");
        probe.termFaultDue("T+0", 3, 0);
        probe.termFaultDue("0<T", 3, 0);
    }

    private static void nots() {
        Probe.sentence(8, "~ t the constant ~ applied to t;");
        Probe probe = new Probe();
        probe.symbolsDue("~F", "-1 7 5");
        probe.wholeTypeDue("~F", "0");
        probe.termFaultDue("~0", 3, 0);
        // A variable of this name there cannot be, so it is always the constant.
        probe.symbolsDue("\\x.~x", "-2 -1 7 0");
    }

    private static void abstractions() {
        Probe.sentence(8, "\\ v . t an abstraction;");
        Probe probe = new Probe();
        probe.symbolsDue("\\v.T", "-2 3");
        probe.symbolsDue("\\v.v", "-2 0");
        probe.symbolsDue("\\(v:num).SUC v", "-2 -1 23 0");
        probe.wholeTypeDue("\\(v:num).T", "2 3 0");
    }

    private static void otherBinders() {
        Probe.sentence(8, "! ? @ with v . t the constants !, ?, @ applied to the abstraction \\ v . t;");
        Probe probe = new Probe();
        probe.symbolsDue("!v.T", "-1 15 -2 3");
        probe.symbolsDue("?v.T", "-1 17 -2 3");
        probe.symbolsDue("@v.T", "-1 19 -2 3");
        probe.symbolsDue("!v w.v", "-1 15 -2 -1 15 -2 2");
        probe.wholeTypeDue("!(v:num).T", "0");
        probe.wholeTypeDue("?(v:num).T", "0");
        probe.wholeTypeDue("@(v:num).T", "3");
        // The body of the first @ is the second @ applied, so w has to be of bool.
        probe.symbolsDue("@v w.T", "-1 19 -2 -1 19 -2 3");
        Probe.due("type of \\w.T", probe.typeOf(5), "2 0 0");
        probe.termFaultDue("@v(w:num).T", 3, 0);
    }

    private static void signsAlone() {
        Probe.sentence(8, "( S ) the constant alone.");
        Probe probe = new Probe();
        String[] signs = {"=", "~", "/\\", "\\/", "==>", "!", "?", "@", "<=>"};
        String[] symbols = {"1", "7", "9", "11", "13", "15", "17", "19", "1"};
        String[] types = {"2 -1 2 -1 0", "2 0 0", "2 0 2 0 0", "2 0 2 0 0", "2 0 2 0 0", "2 2 -1 0 0",
            "2 2 -1 0 0", "2 2 -1 0 -1", "2 0 2 0 0"};
        for (int i = 0; i < signs.length; i++) {
            probe.symbolsDue("(" + signs[i] + ")", symbols[i]);
            Probe.due("type of (" + signs[i] + ")", probe.typeOf(0), types[i]);
        }
        probe.termFaultDue("(+)", 4, 0);
        probe.constantDue("+ : ind", 12);
        probe.symbolsDue("(+)", "25");
        Probe.due("type of (+)", probe.typeOf(0), "1");
    }

    private static void mostGeneralTypes() {
        Probe.sentence(3, "The term has the most general types with which all that agrees;");
        Probe probe = new Probe();
        probe.typeDue("pair 'a 'b", 4);
        probe.constantDue("mk : 'a->'b->pair 'a 'b", 12);
        probe.constantDue("left : pair 'a 'b->'a", 13);
        probe.wholeTypeDue("\\x.x", "2 -1 -1");
        probe.wholeTypeDue("\\x y.x", "2 -1 2 -2 -1");
        probe.wholeTypeDue("\\f g x.f x(g x)", "2 2 -1 2 -2 -3 2 2 -1 -2 2 -1 -3");
        probe.wholeTypeDue("\\f x y.f y x", "2 2 -1 2 -2 -3 2 -2 2 -1 -3");
        probe.wholeTypeDue("\\x y.x=y", "2 -1 2 -1 0");
        probe.wholeTypeDue("\\f x.f x=x", "2 2 -1 -1 2 -1 0");
        probe.wholeTypeDue("\\x y.mk y x", "2 -1 2 -2 4 -2 -1");
        probe.wholeTypeDue("\\p.left(left p)", "2 4 4 -1 -2 -3 -1");
        probe.wholeTypeDue("\\p.mk(left p)p", "2 4 -1 -2 4 -1 4 -1 -2");
        probe.wholeTypeDue("\\f.@x.f x=mk x T", "2 2 -1 4 -1 0 -1");
        probe.wholeTypeDue("\\x.(x:'a->'b)", "2 2 -1000 -1001 2 -1000 -1001");
    }

    private static void typesThatAreLeft() {
        Probe.sentence(9, "Unknown types that are left become type variables that no text can name, the first, "
                + "the second, .. in the order in which they stand in the types of the term's symbols, "
                + "all in prefix order.");
        Probe probe = new Probe();
        probe.termDue("(\\x y.T)(\\u v.v)", 7);
        typesDue(probe, "2 -1 0", "2 2 -2 2 -3 -3 2 -1 0", "2 -1 0", "0", "2 -2 2 -3 -3", "2 -3 -3", "-3");
        probe.termDue("(\\x.T)=(\\y.F)", 7);
        typesDue(probe, "0", "2 2 -1 0 0", "2 2 -1 0 2 2 -1 0 0", "2 -1 0", "0", "2 -1 0", "0");
        // Only inside is there a type that is left, and each of the two has its own.
        probe.termDue("(!x.T)/\\(!x.F)", 11);
        Probe.due("type of the first !", probe.typeOf(4), "2 2 -1 0 0");
        Probe.due("type of the second !", probe.typeOf(8), "2 2 -2 0 0");
        // 'a of a text is none that is left, and stays apart from those.
        probe.wholeTypeDue("\\x(y:'a)z.T", "2 -1 2 -1000 2 -2 0");
        // The next term's are counted from the first one again.
        probe.wholeTypeDue("\\x.x", "2 -1 -1");
    }

    private static void typesDue(Probe probe, String... types) {
        for (int i = 0; i < types.length; i++) {
            Probe.due("type of symbol " + i, probe.typeOf(i), types[i]);
        }
    }

    private static void symbolsOfATerm() {
        Probe.sentence(3, "SYMBOLS of a term: variables, constants, applications, abstractions;");
        Probe probe = new Probe();
        probe.termDue("T", 1);
        probe.termDue("\\x.T", 2);
        probe.termDue("\\x.x", 2);
        probe.termDue("SUC 0", 3);
        // What only tells how a term is meant is no symbol of it.
        probe.termDue("((((\\(x:bool->bool).((x)):(bool->bool)->bool->bool))))", 2);
        probe.termDue(" # remark\n T ", 1);
    }

    private static void heights() {
        Probe.sentence(3, "HEIGHT: 1 of a variable or constant, 1 more than the greatest of its parts' of an "
                + "application or abstraction.");
        Probe probe = new Probe();
        probe.constantDue("f : num->num->num", 12);
        // 49 is of height 50; as an argument or as a body it makes the whole higher, however low the rest.
        probe.termDue("49", 99);
        probe.termDue("f 47 48", 95 + 97 + 3);
        probe.termFaultDue("f 48 48", 8, 0);
        probe.termDue("f 0 48", 97 + 4);
        probe.termFaultDue("f 0 49", 8, 0);
        probe.termDue("f 47 0", 95 + 4);
        probe.termFaultDue("f 48 0", 8, 0);
        probe.termDue("\\x.48", 98);
        probe.termFaultDue("\\x.49", 8, 0);
        probe.termDue("~".repeat(49) + "T", 99);
        probe.termFaultDue("~".repeat(50) + "T", 8, 0);
    }

    private static void prefixOrder() {
        Probe.sentence(8, "PREFIX ORDER: a whole before its parts, the function before the argument.");
        Probe probe = new Probe();
        probe.symbolsDue("(\\x.F)(SUC 0)", "-1 -2 5 -1 23 21");
        probe.symbolsDue("\\f.f(f T)", "-2 -1 0 -1 0 3");
        probe.symbolsDue("\\f x.f x(f x T)", "-2 -2 -1 -1 2 0 -1 -1 2 0 3");
        probe.symbolsDue("\\x.(\\y.y)x=(\\z.x)T", "-2 -1 -1 1 -1 -2 0 0 -1 -2 2 3");
    }

    private static void numbersOfFaults() {
        Probe.sentence(6, "FAULTS: 1 SCAN (no token), 2 SYNTAX, 3 TYPE, 4 NAME (unknown, or not new), 8 LARGE");
        Probe probe = new Probe();
        probe.termFaultDue("$", 1, 0);
        probe.termFaultDue(")", 2, 0);
        probe.termFaultDue("0=T", 3, 0);
        probe.termFaultDue("x", 4, 0);
        probe.constantFaultDue("T:bool", 4, 0);
        probe.typeFaultDue("bool", 4, 0);
        probe.termFaultDue("50", 8, 0);
    }
}
