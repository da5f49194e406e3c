/** Promise 4: the first n bytes are N : type; N is a constant from now on. */
public final class ConstantTest {
    public static void main(String[] args) {
        ordinaryConstants();
        wrongSyntax();
        namesThatAreNotNew();
        sizesAndTypes();
        roomForOneHundred();
        nothingIsLeftOfAFault();
        Probe.end();
    }

    private static void ordinaryConstants() {
        Probe probe = new Probe();
        probe.typeDue("list 'a", 4);
        probe.constantDue("c : bool", 12);
        probe.constantDue("nil:list 'a", 13);
        probe.constantDue("+ : num -> num -> num", 14);
        probe.constantDue("*:'a->'b->'a", 15);
        probe.constantDue("<:num->num->bool", 16);
        probe.constantDue("  <= # at most\n : (num) -> (num -> (bool))", 17);
        probe.constantDue("list : list (list num)", 18);
        probe.constantDue("x' : 'a -> (list 'b -> 'a) -> 'b", 19);
        probe.symbolsDue("c", "25");
        probe.symbolsDue("0 + 0", "-1 -1 29 21 21");
        probe.symbolsDue("(<=)", "35");
        Probe.due("type of <=", probe.typeOf(0), "2 3 2 3 0");
        probe.wholeTypeDue("list", "4 4 3");
        probe.wholeTypeDue("x'", "2 -1 2 2 4 -2 -1 -2");
        probe.symbolsDue("\\c. c", "-2 0");
        probe.wholeTypeDue("nil = nil", "0");
        Probe.due("type of the first nil", probe.typeOf(3), "4 -1");
        probe.wholeTypeDue("\\x y. x * y", "2 -1 2 -2 -1");
    }

    private static void wrongSyntax() {
        Probe probe = new Probe();
        probe.constantFaultDue("", 2, 0);
        probe.constantFaultDue("  ", 2, 2);
        probe.constantFaultDue("c", 2, 1);
        probe.constantFaultDue(": bool", 2, 0);
        probe.constantFaultDue("c :", 2, 3);
        probe.constantFaultDue("c bool", 2, 2);
        probe.constantFaultDue("c := bool", 2, 2);
        probe.constantFaultDue("c : bool )", 2, 9);
        probe.constantFaultDue("c : bool ->", 2, 11);
        probe.constantFaultDue("c : (bool", 2, 9);
        probe.constantFaultDue("c : (bool) 'a", 2, 11);
        probe.constantFaultDue("c : 'a 'a", 2, 7);
        probe.constantFaultDue("c : 0", 2, 4);
        probe.constantFaultDue("c : -> bool", 2, 4);
        probe.constantFaultDue("c : bool $", 1, 9);
        probe.constantFaultDue("0 : num", 2, 0);
        probe.constantFaultDue("1 : num", 2, 0);
        probe.constantFaultDue("50 : num", 8, 0);
        probe.constantFaultDue("'a : num", 2, 0);
        probe.constantFaultDue("by : num", 2, 0);
        probe.constantFaultDue("in : num", 2, 0);
        probe.constantFaultDue("(+) : num", 2, 0);
        for (String sign : new String[] {"=", "~", "/\\", "\\/", "==>", "<=>", "!", "?", "@", "\\", "->", "["}) {
            probe.constantFaultDue(" " + sign + " : bool", 2, 1);
        }
        probe.constantFaultDue("abcdefghijklmnopqrstuvwxy : bool", 8, 0);
        probe.constantDue("abcdefghijklmnopqrstuvwx : bool", 12);
        String deep = "(".repeat(40);
        probe.constantDue("d : " + deep + "bool" + ")".repeat(40), 13);
        probe.constantFaultDue("e : (" + deep + "bool" + ")".repeat(41), 8, 45);
        Probe.due("constant(-1)", probe.constant(-1), Probe.REFUSED);
        Probe.due("constant(1) without bytes", probe.constant(1), Probe.REFUSED);
        Probe.due("fault behind refused calls", probe.reader.fault(), 8);
        Probe.due("place behind refused calls", probe.reader.place(), 45);
    }

    private static void namesThatAreNotNew() {
        Probe probe = new Probe();
        probe.constantFaultDue("T : bool", 4, 0);
        probe.constantFaultDue(" F : what", 4, 1);
        probe.constantFaultDue("SUC : num", 4, 0);
        probe.constantDue("+ : num", 12);
        probe.constantFaultDue("+ : num", 4, 0);
        probe.constantDue("c : num", 13);
        probe.constantFaultDue("c : num -> num", 4, 0);
        probe.constantFaultDue("c : bool" + "->bool".repeat(30), 4, 0);
        probe.constantDue("bool : bool", 14);
    }

    private static void sizesAndTypes() {
        Probe probe = new Probe();
        probe.typeDue("list 'a", 4);
        String ten = "(bool" + "->bool".repeat(9) + ")";
        probe.constantDue("a : list (" + ten + "->" + ten + ")", 12);
        probe.constantFaultDue("b : list " + ten + "-> list " + ten, 8, 0);
        probe.constantDue("b : bool" + "->bool".repeat(11), 13);
        probe.constantFaultDue("d : bool" + "->bool".repeat(12), 8, 0);
        probe.constantFaultDue("d : what" + "->bool".repeat(12), 8, 0);
        probe.constantFaultDue("d : bool" + "->bool".repeat(1000), 8, 0);
        probe.constantFaultDue("d : bool" + " 'a".repeat(2000), 8, 0);
        probe.constantFaultDue(" d : what", 3, 1);
        probe.constantFaultDue("d : bool num", 3, 0);
        probe.constantFaultDue("d : list", 3, 0);
        probe.constantFaultDue("d : list list 'a", 3, 0);
        probe.constantFaultDue("d : list 'a 'b", 3, 0);
        probe.constantFaultDue("d : num -> (bool -> what)", 3, 0);
        probe.constantDue("d : list (list 'a)", 14);
        probe.constantDue("e : list bool", 15);
        probe.constantDue("f : list ind -> list num", 16);
        probe.constantFaultDue("g : list list", 3, 0);
        probe.constantFaultDue("g : list what", 3, 0);
    }

    private static void roomForOneHundred() {
        Probe probe = new Probe();
        for (int i = 0; i < 100; i++) {
            probe.constantDue("c" + i + ":bool", 12 + i);
        }
        probe.constantFaultDue("c100:bool", 8, 0);
        probe.constantFaultDue("c100:what", 8, 0);
        probe.constantFaultDue("c99:what", 4, 0);
        probe.constantFaultDue("c100:", 2, 5);
        probe.termFaultDue("c100", 4, 0);
        probe.symbolsDue("c99", "223");
        probe.symbolsDue("c0", "25");
    }

    private static void nothingIsLeftOfAFault() {
        Probe probe = new Probe();
        probe.constantFaultDue("c : what", 3, 0);
        probe.termFaultDue("c", 4, 0);
        probe.constantFaultDue("c : bool bool", 3, 0);
        probe.constantFaultDue("c : bool )", 2, 9);
        probe.constantDue("d : bool", 12);
        probe.constantDue("c : num", 13);
        probe.wholeTypeDue("c", "3");
    }
}
