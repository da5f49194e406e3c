/** Promise 9: the symbols, in prefix order, of the type of a symbol. */
public final class TypeSymbolTest {
    public static void main(String[] args) {
        typesOfAllParts();
        typesThatAreLeft();
        typeNames();
        typeNamesOfTextsWithFaults();
        asManyTypeNamesAsFit();
        noSuchSymbol();
        Probe.end();
    }

    private static void typesOfAllParts() {
        Probe probe = new Probe();
        probe.termDue("!x. x = SUC 0", 10);
        String[] types = {"0", "2 2 3 0 0", "2 3 0", "0", "2 3 0", "2 3 2 3 0", "3", "3", "2 3 3", "3"};
        for (int i = 0; i < types.length; i++) {
            Probe.due("type of symbol " + i, probe.typeOf(i), types[i]);
        }
        probe.wholeTypeDue("(<=>)", "2 0 2 0 0");
        probe.wholeTypeDue("(=) 0", "2 3 0");
        probe.wholeTypeDue("@x. x = 0", "3");
        probe.wholeTypeDue("\\(x : ind). x", "2 1 1");
        probe.wholeTypeDue("\\f. f T = 0", "2 2 0 3 0");
        probe.wholeTypeDue("\\x. (x : num -> bool)", "2 2 3 0 2 3 0");
        probe.wholeTypeDue("(\\x y. x : num -> ind -> num)", "2 3 2 1 3");
        probe.wholeTypeDue("\\(f : (bool -> num) -> ind). f", "2 2 2 0 3 1 2 2 0 3 1");
    }

    private static void typesThatAreLeft() {
        Probe probe = new Probe();
        probe.wholeTypeDue("\\x. x", "2 -1 -1");
        probe.wholeTypeDue("\\x y. y", "2 -1 2 -2 -2");
        probe.wholeTypeDue("\\f g x. f (g x)", "2 2 -1 -2 2 2 -3 -1 2 -3 -2");
        probe.wholeTypeDue("\\f x. f x x", "2 2 -1 2 -1 -2 2 -1 -2");
        probe.termDue("(\\x y. x) T (\\z. z)", 8);
        Probe.due("type of the whole", probe.typeOf(0), "0");
        Probe.due("type of its function", probe.typeOf(1), "2 2 -1 -1 0");
        Probe.due("type of \\x y. x", probe.typeOf(2), "2 0 2 2 -1 -1 0");
        probe.termDue("(=) = (=)", 5);
        Probe.due("type of the middle =", probe.typeOf(2), "2 2 -1 2 -1 0 2 2 -1 2 -1 0 0");
        probe.termDue("(\\x. T) = (\\y. (\\z. T) (\\u. u))", 11);
        Probe.due("type of \\x. T", probe.typeOf(3), "2 -1 0");
        Probe.due("type of \\u. u", probe.typeOf(9), "2 -2 -2");
        // Unknown types that meet are one and the same.
        probe.wholeTypeDue("\\x y. (\\z. x) (x = y)", "2 -1 2 -1 -1");
    }

    private static void typeNames() {
        Probe probe = new Probe();
        probe.wholeTypeDue("\\(x : 'b) (y : 'a) (z : 'b). y", "2 -1000 2 -1001 2 -1000 -1001");
        probe.wholeTypeDue("\\(x : 'c). x", "2 -1002 -1002");
        probe.wholeTypeDue("\\(x : 'a) y. y", "2 -1001 2 -1 -1");
        probe.typeDue("pair 'd 'a", 4);
        probe.constantDue("mk : 'e -> 'd -> pair 'e 'd", 12);
        probe.wholeTypeDue("mk", "2 -1 2 -2 4 -1 -2");
        probe.wholeTypeDue("\\(x : 'f). mk x", "2 -1005 2 -1 4 -1005 -1");
        probe.wholeTypeDue("\\(x : 'd) (y : 'e). T", "2 -1003 2 -1004 0");
        probe.wholeTypeDue("\\(x : 'a') (y : 'A) (z : 'by). T", "2 -1006 2 -1007 2 -1008 0");
        probe.wholeTypeDue("(\\x. x : 'a -> 'a)", "2 -1001 -1001");
    }

    private static void typeNamesOfTextsWithFaults() {
        Probe probe = new Probe();
        probe.termFaultDue("(T : 'a) )", 2, 9);
        probe.wholeTypeDue("\\(x : 'z0). x", "2 -1001 -1001");
        // The token with the fault counts, those behind it do not.
        probe.termFaultDue("T 'b 'c", 2, 2);
        probe.wholeTypeDue("\\(x : 'c) (y : 'b). T", "2 -1003 2 -1002 0");
        probe.termFaultDue("(T : 'd) $ 'e", 1, 9);
        probe.wholeTypeDue("\\(x : 'e) (y : 'd). T", "2 -1005 2 -1004 0");
        probe.termFaultDue("(nope : 'f)", 4, 0);
        probe.constantFaultDue("T : 'g", 4, 0);
        probe.typeFaultDue("t 'h 'i 'j 'k", 2, 8);
        probe.wholeTypeDue("\\(x : 'k) (y : 'j) (z : 'f). T", "2 -1011 2 -1010 2 -1006 0");
        // One that is too long is none; neither is one that has only been looked past.
        probe.termFaultDue("(T : 'abcdefghijklmnopqrstuvwxy)", 8, 5);
        probe.termFaultDue("(".repeat(41) + "~ 'l", 8, 41);
        probe.wholeTypeDue("\\(x : 'm). x", "2 -1012 -1012");
        // The one behind what is too deep has been read.
        probe.termFaultDue("(".repeat(41) + "'n", 8, 41);
        probe.wholeTypeDue("\\(x : 'o). x", "2 -1014 -1014");
        // A refused call reads nothing, and a remark is no token.
        probe.feed("'p");
        Probe.due("term(21)", probe.term(21), Probe.REFUSED);
        probe.term(0);
        probe.termDue("T # 'q", 1);
        probe.wholeTypeDue("\\(x : 'r). x", "2 -1015 -1015");
    }

    /** Texts of two letters a name, as many as can be fed and read in 512 calls. */
    private static void asManyTypeNamesAsFit() {
        Probe probe = new Probe();
        String first = "abcdefghijklmnopqrstuvwxyzABCDEFGHIJKLMNOPQRSTUVWXYZ_";
        String second = first + "0123456789'";
        StringBuilder text = new StringBuilder("c : f");
        int names = 0;
        String last = "";
        for (int texts = 0; texts < 2; texts++) {
            for (int limit = texts == 0 ? 7990 : 2090; text.length() < limit; names++) {
                last = "'" + first.charAt(names / second.length()) + second.charAt(names % second.length());
                text.append(' ').append(last);
            }
            probe.constantFaultDue(text.toString(), 8, 0);
            text = new StringBuilder("c : f");
        }
        String due = Integer.toString(-1000 - (names - 1));
        probe.wholeTypeDue("\\(x:" + last + ").x", "2 " + due + " " + due);
        probe.wholeTypeDue("\\(x:'aa).x", "2 -1000 -1000");
    }

    private static void noSuchSymbol() {
        Probe probe = new Probe();
        probe.termDue("SUC 0", 3);
        Probe.due("typeSymbol(1, 2)", probe.typeSymbol(1, 2), 3);
        int[] wrong = {-1, 3, 40, 20000, Integer.MIN_VALUE, Integer.MAX_VALUE};
        for (int i : wrong) {
            Probe.due("typeSymbol(" + i + ", 0)", probe.typeSymbol(i, 0), Probe.REFUSED);
            Probe.due("typeSymbol(1, " + i + ")", probe.typeSymbol(1, i), Probe.REFUSED);
        }
        Probe.due("typeSymbol(0, 1)", probe.typeSymbol(0, 1), Probe.REFUSED);
        Probe.due("typeSymbol(2, 1)", probe.typeSymbol(2, 1), Probe.REFUSED);
    }
}
