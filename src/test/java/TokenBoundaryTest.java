/** The texts and tokens that promise 3 rests on, at their boundaries: a test for each sentence that names one. */
public final class TokenBoundaryTest {
    private static final int BYTE_VALUES = 256;
    private static final String LETTERS = "abcdefghijklmnopqrstuvwxyzABCDEFGHIJKLMNOPQRSTUVWXYZ_";
    private static final String WITHIN_NAMES = LETTERS + "0123456789'";
    private static final String BLANKS = "\t\n\r ";

    public static void main(String[] args) {
        names();
        typeNames();
        numerals();
        signs();
        noTokens();
        theLongestOne();
        blanks();
        remarks();
        byAndIn();
        Probe.end();
    }

    private static void names() {
        Probe.sentence(3, "a NAME: a letter or _, then letters, digits, _ and ' as far as they go");
        for (int c = 0; c < BYTE_VALUES; c++) {
            Probe probe = new Probe();
            String first = "\\" + (char) c + ".T";
            Probe.due("term of a name that byte " + c + " begins", probe.term(first), in(LETTERS, c) ? 2 : -1);
            int two = in(BLANKS, c) ? 4 : -1;
            String within = "\\a" + (char) c + "b x.x";
            Probe.due("term of a name with byte " + c, probe.term(within), in(WITHIN_NAMES, c) ? 3 : two);
        }
        new Probe().symbolsDue("\\x x'.x", "-2 -2 2");
        new Probe().symbolsDue("\\_ __._", "-2 -2 2");
        new Probe().termFaultDue("x", 4, 0);
        new Probe().termFaultDue("\\xy.x", 4, 0);
    }

    private static void typeNames() {
        Probe.sentence(3, "a TYPE NAME: ', then a letter or _, then likewise");
        for (int c = 0; c < BYTE_VALUES; c++) {
            Probe probe = new Probe();
            String first = "\\(x:'" + (char) c + ").T";
            if (in(LETTERS, c)) {
                probe.termDue(first, 2);
            } else {
                probe.termFaultDue(first, 1, 4);
            }
            String within = "\\(x:'a" + (char) c + "b).T";
            Probe.due("term of a type name with byte " + c, probe.term(within), in(WITHIN_NAMES, c) ? 2 : -1);
        }
        new Probe().termFaultDue("T '", 1, 2);
        new Probe().termFaultDue("T ''a", 1, 2);
        new Probe().wholeTypeDue("\\(x:'a')(y:'a).x", "2 -1000 2 -1001 -1000");
        new Probe().wholeTypeDue("\\(x:'a'b).x", "2 -1000 -1000");
    }

    private static void numerals() {
        Probe.sentence(3, "a NUMERAL: digits as far as they go (a number in tens, 007 is 7)");
        Probe probe = new Probe();
        probe.termDue("007", 15);
        probe.termDue("010", 21);
        probe.termDue("08", 17);
        probe.termDue("0".repeat(60) + "7", 15);
        for (int digit = 0; digit <= 4; digit++) {
            probe.termDue("0" + digit + "9", 2 * (10 * digit + 9) + 1);
        }
        probe.termFaultDue("1/2", 1, 1);
        probe.termFaultDue("1:2", 2, 1);
        probe.termFaultDue("1 2", 3, 0);
        probe.termFaultDue("1_", 4, 0);
        probe.termFaultDue("1'", 1, 1);
        probe.symbolsDue("\\x1.x1", "-2 0");
        probe.symbolsDue("SUC(1)", "-1 23 -1 23 21");
    }

    private static void signs() {
        Probe.sentence(3, "and ( ) [ ] , . : ; | \\ ! ? @ ~ = + * < -> ==> <=> /\\ \\/ := <- <=");
        String[] all = {"(", ")", "[", "]", ",", ".", ":", ";", "|", "\\", "!", "?", "@", "~", "=", "+", "*", "<",
            "->", "==>", "<=>", "/\\", "\\/", ":=", "<-", "<="};
        for (String sign : all) {
            // Where a : has to stand, each other token makes a syntax fault, and what is none a scan fault.
            if (sign.equals(":")) {
                new Probe().constantDue("c " + sign + " bool", 12);
            } else {
                new Probe().constantFaultDue("c " + sign + " bool", 2, 2);
            }
            new Probe().constantFaultDue("c " + sign + "$", sign.equals(":") ? 1 : 2, sign.equals(":") ? 3 : 2);
        }
    }

    private static void noTokens() {
        Probe.sentence(6, "FAULTS: 1 SCAN (no token)");
        String firstOfTokens = LETTERS + "0123456789" + "()[],.:;|\\!?@~=+*<";
        for (int c = 0; c < BYTE_VALUES; c++) {
            Probe probe = new Probe();
            probe.term("T " + (char) c + " T");
            boolean token = in(firstOfTokens, c) || in(BLANKS, c) || c == '#';
            Probe.due("scan fault of byte " + c, probe.fault() == 1 ? 1 : 0, token ? 0 : 1);
            Probe.due("place of it", probe.fault() == 1 ? probe.place() : 2, 2);
        }
        for (String none : new String[] {"-", "/", ">", "=>", "->>", "'", "-->", "/ \\", "- >"}) {
            Probe probe = new Probe();
            Probe.due("constant c : " + none, probe.constant("c : " + none), -1);
            Probe.due("fault of it", probe.fault(), none.equals("=>") || none.equals("->>") ? 2 : 1);
            Probe.due("place of it", probe.place(), 4);
        }
    }

    private static void theLongestOne() {
        Probe.sentence(3, "(always the longest one that there is)");
        Probe probe = new Probe();
        probe.constant("<:num->num->bool");
        probe.constant("<=:num->num->bool");
        probe.termDue("T<=>T", 5);
        probe.termFaultDue("T<= >T", 1, 4);
        probe.termFaultDue("T< =>T", 2, 3);
        probe.symbolsDue("0<=0", "-1 -1 27 21 21");
        probe.termFaultDue("0< =0", 2, 3);
        probe.symbolsDue("0<0", "-1 -1 25 21 21");
        probe.termFaultDue("0<-0", 2, 1);
        probe.termFaultDue("0< -0", 1, 3);
        probe.termFaultDue("0<->0", 2, 1);
        probe.termDue("T==>T", 5);
        probe.termFaultDue("T= =>T", 2, 3);
        probe.termFaultDue("T== >T", 2, 2);
        probe.termFaultDue("T===>T", 2, 2);
        probe.termFaultDue("T=>T", 1, 2);
        probe.symbolsDue("T\\/T", "-1 -1 11 3 3");
        probe.termFaultDue("T\\ /T", 2, 1);
        probe.symbolsDue("T/\\T", "-1 -1 9 3 3");
        probe.termFaultDue("T/ \\T", 1, 1);
        probe.termFaultDue("(T:=bool)", 2, 2);
        probe.termFaultDue("(T: =bool)", 2, 4);
        probe.termDue("(SUC:num->num)", 1);
        probe.termFaultDue("(SUC:num- >num)", 1, 8);
        probe.termDue("~~~T", 7);
    }

    private static void blanks() {
        Probe.sentence(3, "Blanks (9, 10, 13, 32) stand between them as one likes");
        for (int c = 0; c < BYTE_VALUES; c++) {
            Probe probe = new Probe();
            String text = "T" + (char) c + "/\\ T";
            int others = c == '#' ? 1 : -1;
            Probe.due("term with byte " + c + " between", probe.term(text), in(BLANKS, c) ? 5 : others);
        }
        new Probe().termDue("T/\\T", 5);
        new Probe().termDue(BLANKS.repeat(5) + "T" + BLANKS.repeat(5) + "/\\" + BLANKS + "T" + BLANKS, 5);
        new Probe().termFaultDue("/ \\", 1, 0);
        new Probe().termFaultDue("4 9", 3, 0);
    }

    private static void remarks() {
        Probe.sentence(3, "and #, with all up to the line's end (10) or the text's, is a blank.");
        Probe probe = new Probe();
        probe.termDue("T#\n/\\ T", 5);
        probe.termDue("T#\r/\\ T", 1);
        probe.termDue("T#/\\ T", 1);
        probe.termDue("T# $ ' 50 \377 \n/\\#\n#\nT#", 5);
        probe.termDue("T##\n/\\ T", 5);
        probe.termDue("#\nT", 1);
        probe.termFaultDue("#", 2, 1);
        probe.termFaultDue("#\n", 2, 2);
        probe.termFaultDue("# T", 2, 3);
        probe.termFaultDue("T#\n$", 1, 3);
        probe.termFaultDue("/#\n\\", 1, 0);
    }

    private static void byAndIn() {
        Probe.sentence(3, "by and in are no names but tokens of their own.");
        Probe probe = new Probe();
        for (String word : new String[] {"by", "in"}) {
            probe.termFaultDue(word, 2, 0);
            probe.termFaultDue("\\" + word + ".T", 2, 1);
            probe.termFaultDue("(T:" + word + ")", 2, 3);
            probe.termFaultDue("(T:bool " + word + ")", 2, 8);
            probe.constantFaultDue(word + ":bool", 2, 0);
            probe.typeFaultDue(word, 2, 0);
            for (String other : new String[] {word + "x", word + "'", word + "1", "_" + word, word + word,
                word.substring(0, 1), word.substring(1), word.toUpperCase(), word.charAt(0) + "x",
                "x" + word.charAt(1), "" + word.charAt(1) + word.charAt(0)}) {
                new Probe().termDue("\\" + other + ".T", 2);
            }
            new Probe().termDue("\\bn iy.T", 3);
            new Probe().wholeTypeDue("\\(x:'" + word + ").x", "2 -1000 -1000");
        }
    }

    private static boolean in(String set, int c) {
        return set.indexOf(c) >= 0;
    }
}
