/** Promise 7: the place of the latest fault; -1 if there was none. */
public final class PlaceTest {
    public static void main(String[] args) {
        theTokenThatCannotBe();
        theFirstToken();
        tooManyTokens();
        tooDeepTerms();
        tooDeepTypes();
        tooDeepBinders();
        lookingForALoneSign();
        noFaultNoPlace();
        Probe.end();
    }

    private static void theTokenThatCannotBe() {
        Probe probe = new Probe();
        probe.termFaultDue("a = b = c", 2, 6);
        probe.termFaultDue("T /\\ ", 2, 5);
        probe.termFaultDue("T /\\ # and ?", 2, 12);
        probe.termFaultDue("T )", 2, 2);
        probe.termFaultDue("(T", 2, 2);
        probe.termFaultDue("(T x]", 2, 4);
        probe.termFaultDue("T ~ T", 2, 2);
        probe.termFaultDue("T \\x. x", 2, 2);
        probe.termFaultDue("\\. x", 2, 1);
        probe.termFaultDue("\\x x", 2, 4);
        probe.termFaultDue("\\x : bool. x", 2, 3);
        probe.termFaultDue("\\(x). x", 2, 3);
        probe.termFaultDue("\\((x : bool)). x", 2, 2);
        probe.termFaultDue("\\(0 : num). x", 2, 2);
        probe.termFaultDue("\\(x : bool. x", 2, 10);
        probe.termFaultDue("\\x 0. x", 2, 3);
        probe.termFaultDue("T : bool", 2, 2);
        probe.termFaultDue("(T : bool : bool)", 2, 10);
        probe.termFaultDue("(T : )", 2, 5);
        probe.termFaultDue("(T : bool -> )", 2, 13);
        probe.termFaultDue("(T : (bool bool)", 2, 16);
        probe.termFaultDue("()", 2, 1);
        probe.termFaultDue("(= T)", 2, 3);
        probe.termFaultDue("(= $)", 1, 3);
        probe.termFaultDue("(= 50)", 8, 3);
        probe.termFaultDue("(\\)", 2, 2);
        probe.termFaultDue("(->)", 2, 1);
        probe.termFaultDue("T 'a", 2, 2);
        probe.termFaultDue("T '", 1, 2);
        probe.termFaultDue("T\0", 1, 1);
        probe.termFaultDue("T \377", 1, 2);
        probe.termFaultDue("  \"", 1, 2);
        probe.termFaultDue("[ aVeryLongNameOfTwentyFiveC", 2, 0);
        probe.termFaultDue("T ] aVeryLongNameOfTwentyFiveC", 2, 2);
        probe.termFaultDue("T aVeryLongNameOfTwentyFiveC", 8, 2);
        probe.termFaultDue("T 'aVeryLongNameOfTwentyFiveC", 8, 2);
    }

    private static void theFirstToken() {
        Probe probe = new Probe();
        probe.termFaultDue(" # x\n T T", 3, 6);
        probe.termFaultDue("  x", 4, 2);
        probe.termFaultDue("\n(T x)", 4, 1);
        probe.termFaultDue(" " + "~".repeat(50) + "T", 8, 1);
        probe.constantFaultDue("\t T : bool", 4, 2);
        probe.constantFaultDue("  c : what", 3, 2);
        probe.typeFaultDue("   num", 4, 3);
        probe.termFaultDue("", 2, 0);
        probe.termFaultDue("   ", 2, 3);
        probe.termFaultDue("# T", 2, 3);
    }

    private static void tooManyTokens() {
        Probe probe = new Probe();
        String many = "~".repeat(6000);
        probe.termFaultDue(many, 2, 6000);
        probe.termFaultDue(many + "  # blanks", 2, 6010);
        probe.termFaultDue(many + " T", 8, 6001);
        probe.termFaultDue(many + "$", 8, 6000);
        probe.termFaultDue(many + ")", 8, 6000);
        probe.termFaultDue("~".repeat(5999) + "$", 1, 5999);
        probe.termFaultDue("~".repeat(5999) + ")", 2, 5999);
        probe.termFaultDue("~".repeat(5999) + "T", 8, 0);
        probe.termFaultDue("~".repeat(5999) + "T T", 8, 6001);
        probe.termFaultDue("~".repeat(5998) + "(~)", 8, 6000);
    }

    private static void tooDeepTerms() {
        Probe probe = new Probe();
        String forty = "(".repeat(40);
        String right = ")".repeat(40);
        probe.termDue(forty + "T" + right, 1);
        probe.termDue(forty + "(=)" + right, 1);
        probe.termDue(forty + "( ~ )" + right, 1);
        probe.termFaultDue(forty + "(T)" + right, 8, 41);
        probe.termFaultDue(forty + "(  T", 8, 43);
        probe.termFaultDue(forty + "(", 8, 41);
        probe.termFaultDue(forty + "( ", 8, 42);
        probe.termFaultDue(forty + "()", 8, 41);
        probe.termFaultDue(forty + "(((((", 8, 41);
        probe.termFaultDue(forty + "($", 1, 41);
        probe.termFaultDue(forty + "(50", 8, 41);
        probe.termFaultDue(forty + "(aVeryLongNameOfTwentyFiveC", 8, 41);
        // ( that are closed again do not count.
        probe.termDue("(SUC (0)) = (0)", 7);
        probe.termFaultDue("(T)".repeat(50), 3, 0);
        probe.termFaultDue("(T " + forty + "T", 8, 43);
    }

    private static void tooDeepTypes() {
        Probe probe = new Probe();
        String left = "(".repeat(39);
        String right = ")".repeat(39);
        probe.termDue("(T : " + left + "bool" + right + ")", 1);
        probe.termFaultDue("(T : (" + left + "bool" + right + "))", 8, 45);
        probe.termFaultDue("(T : (" + left, 8, 45);
        probe.termFaultDue("(T : (" + left + "$", 1, 45);
        probe.termFaultDue("(T : (" + left + "'aVeryLongNameOfTwentyFiveC", 8, 45);
        probe.termFaultDue("(T : bool (" + left + "'a" + right + "))", 8, 50);
        probe.termDue("\\(x : " + left + "bool" + right + "). x", 2);
        probe.termFaultDue("\\(x : (" + left + "bool" + right + ")). x", 8, 46);
        probe.termDue("\\y (x : " + left + "bool" + right + "). x", 3);
        probe.termFaultDue("\\y (x : (" + left + "bool" + right + ")). x", 8, 48);
        probe.constantDue("c : (" + left + "bool" + right + ")", 12);
        probe.constantFaultDue("d : ((" + left + "bool" + right + "))", 8, 45);
    }

    private static void tooDeepBinders() {
        Probe probe = new Probe();
        String forty = "!x.".repeat(40);
        probe.termFaultDue("\\x.".repeat(40) + "T", 8, 0);
        probe.termFaultDue(forty + "T T", 8, 0);
        probe.termFaultDue(forty + "!x.T", 8, 121);
        probe.termFaultDue(forty + "!", 8, 121);
        probe.termFaultDue(forty + "! )", 8, 122);
        probe.termFaultDue(forty + "!$", 1, 121);
        probe.termFaultDue(forty + "(T)", 8, 121);
        probe.termDue("(".repeat(20) + "\\x y.(\\z.(".repeat(1) + "T" + ")".repeat(22), 4);
        probe.termFaultDue("(\\x.".repeat(20) + "(T", 8, 81);
        probe.termFaultDue("(\\x.".repeat(20) + "(~)" + ")".repeat(20), 8, 0);
        probe.termFaultDue("(\\(x : bool) y.".repeat(20) + "\\z", 8, 301);
        // A binder of several variables counts once.
        probe.termDue("\\a b c. " + "(".repeat(39) + "T" + ")".repeat(39), 4);
        probe.termFaultDue("\\a b c. " + "(".repeat(40) + "T", 8, 48);
    }

    private static void lookingForALoneSign() {
        Probe probe = new Probe();
        String forty = "(".repeat(40);
        for (String sign : new String[] {"~", "!", "?", "@"}) {
            probe.termFaultDue(forty + "(" + sign + "$", 8, 41);
            probe.termFaultDue(forty + "(" + sign + " x", 8, 41);
            probe.termFaultDue(forty + "(" + sign, 8, 41);
            probe.termFaultDue(forty + "(" + sign + " # )\n", 8, 41);
            probe.termFaultDue(forty + "(" + sign + " # x\n )", 2, 49);
        }
        for (String sign : new String[] {"=", "+", "*", "<", "<=>"}) {
            int behind = 41 + sign.length();
            probe.termFaultDue(forty + "(" + sign + "$", 1, behind);
            probe.termFaultDue(forty + "(" + sign + "x", 2, behind);
            probe.termFaultDue(forty + "(" + sign, 2, behind);
            probe.termFaultDue(forty + "(" + sign + ")", 2, behind + 1);
        }
        probe.termFaultDue(forty + "(\\)", 8, 41);
    }

    private static void noFaultNoPlace() {
        Probe probe = new Probe();
        probe.term("T T");
        Probe.due("place", probe.reader.place(), 0);
        probe.feed("T");
        Probe.due("place behind feed", probe.reader.place(), 0);
        Probe.due("term(-1)", probe.term(-1), Probe.REFUSED);
        Probe.due("place behind a refused call", probe.reader.place(), 0);
        probe.term(1);
        Probe.due("place of a term", probe.reader.place(), -1);
    }
}
