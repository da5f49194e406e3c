/** Promise 5: the first n bytes are N 'a ..; N is a type that takes so many from now on. */
public final class TypeTest {
    public static void main(String[] args) {
        ordinaryTypes();
        wrongTexts();
        roomForThirty();
        Probe.end();
    }

    private static void ordinaryTypes() {
        Probe probe = new Probe();
        probe.typeDue("u", 4);
        probe.typeDue("list 'a", 5);
        probe.typeDue(" pair # two\n 'a 'b ", 6);
        probe.typeDue("twin 'a 'a", 7);
        probe.typeDue("T", 8);
        probe.typeDue("abcdefghijklmnopqrstuvwx", 9);
        probe.constantDue("c : u -> list u -> pair u (list u) -> twin 'a 'b -> T", 12);
        probe.wholeTypeDue("c", "2 4 2 5 4 2 6 4 5 4 2 7 -1 -2 8");
        probe.constantFaultDue("d : u u", 3, 0);
        probe.constantFaultDue("d : list", 3, 0);
        probe.constantFaultDue("d : list u u", 3, 0);
        probe.constantFaultDue("d : pair u", 3, 0);
        probe.constantFaultDue("d : twin 'a", 3, 0);
        probe.constantFaultDue("d : pair list u u", 3, 0);
    }

    private static void wrongTexts() {
        Probe probe = new Probe();
        probe.typeFaultDue("", 2, 0);
        probe.typeFaultDue("# nothing", 2, 9);
        probe.typeFaultDue("'a", 2, 0);
        probe.typeFaultDue("+", 2, 0);
        probe.typeFaultDue("->", 2, 0);
        probe.typeFaultDue("0", 2, 0);
        probe.typeFaultDue("by 'a", 2, 0);
        probe.typeFaultDue("t 'a 'b 'c", 2, 8);
        probe.typeFaultDue("t u", 2, 2);
        probe.typeFaultDue("t ('a)", 2, 2);
        probe.typeFaultDue("t 'a $", 1, 5);
        probe.typeFaultDue("t 'a 'b $", 1, 8);
        probe.typeFaultDue("t 'abcdefghijklmnopqrstuvwxy", 8, 2);
        probe.typeFaultDue("abcdefghijklmnopqrstuvwxy", 8, 0);
        probe.typeFaultDue(" bool", 4, 1);
        probe.typeFaultDue("ind 'a", 4, 0);
        probe.typeFaultDue("num", 4, 0);
        probe.constantFaultDue("c : t", 3, 0);
        probe.typeDue("t", 4);
        probe.typeFaultDue("t 'a", 4, 0);
        Probe.due("type(-1)", probe.type(-1), Probe.REFUSED);
        Probe.due("type(1) without bytes", probe.type(1), Probe.REFUSED);
        Probe.due("fault behind refused calls", probe.reader.fault(), 4);
        probe.constantDue("c : t", 12);
    }

    private static void roomForThirty() {
        Probe probe = new Probe();
        for (int i = 0; i < 30; i++) {
            probe.typeDue("t" + i, 4 + i);
        }
        probe.typeFaultDue("  t30", 8, 2);
        probe.typeFaultDue("t29", 4, 0);
        probe.typeFaultDue("bool", 4, 0);
        probe.typeFaultDue("t30 t", 2, 4);
        probe.constantDue("c : t29 -> t0", 12);
        probe.wholeTypeDue("c", "2 33 4");
        probe.constantFaultDue("d : t30", 3, 0);
    }
}
