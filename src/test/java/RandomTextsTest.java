import java.util.ArrayList;
import java.util.List;
import java.util.Random;

/**
 * Texts from a fixed seed, right and wrong ones: no call may throw what the document does not name,
 * and every term that is answered has to be one whose types agree.
 */
public final class RandomTextsTest {
    private static final String[] PIECES = {"T", "F", "SUC", "x", "y", "z", "f", "0", "1", "3", "(", ")", "(", ")",
        "\\x.", "!y.", "?z.", "@x.", "\\x y.", "\\(z : 'a).", "~", "=", "/\\", "\\/", "==>", "<=>", "+", "<", "<=", "*",
        "(=)", "(~)", "(!)", ":", "->", "bool", "num", "'a", "'b", "list", "nil", "cons", "by", "[", "<-", ":=",
        " # x\n", "50", "$", "'", "abcdefghijklmnopqrstuvwxy"};

    private final Random random = new Random(20261115);
    private int right;

    public static void main(String[] args) {
        RandomTextsTest test = new RandomTextsTest();
        for (int run = 0; run < 400; run++) {
            test.run();
        }
        Probe.due("enough right terms", test.right > 1000 ? 1 : 0, 1);
        Probe.end();
    }

    private void run() {
        Probe probe = new Probe();
        probe.typeDue("list 'a", 4);
        probe.constantDue("nil : list 'a", 12);
        probe.constantDue("cons : 'a -> list 'a -> list 'a", 13);
        probe.constantDue("+ : num -> num -> num", 14);
        for (int i = 0; i < 20; i++) {
            String text = random.nextInt(3) == 0 ? pieces() : term(random.nextInt(6));
            String before = probe.symbols();
            int answer = probe.term(text);
            if (answer >= 0) {
                right++;
                checkTerm(probe, text, answer);
            } else {
                checkFault(probe, text);
                Probe.due("symbols behind <" + text + ">", probe.symbols(), before);
            }
            probe.constant(pieces());
            probe.type(pieces());
        }
    }

    private String pieces() {
        StringBuilder text = new StringBuilder();
        for (int i = random.nextInt(12); i > 0; i--) {
            text.append(PIECES[random.nextInt(PIECES.length)]).append(random.nextBoolean() ? " " : "");
        }
        return text.toString();
    }

    private String term(int depth) {
        int kind = depth == 0 ? 0 : random.nextInt(8);
        switch (kind) {
            case 0:
                return new String[] {"x", "y", "T", "0", "2", "SUC", "nil", "cons", "(=)"}[random.nextInt(9)];
            case 1:
            case 2:
                return "(\\x y. " + term(depth - 1) + ")";
            case 3:
                return "(" + term(depth - 1) + " = " + term(depth - 1) + ")";
            case 4:
                return "(!x. " + term(depth - 1) + " ==> T)";
            case 5:
                return "(\\(x : 'a). " + term(depth - 1) + ")";
            case 6:
                return "(\\y. cons " + term(depth - 1) + " nil)";
            default:
                return "(\\x. " + term(depth - 1) + ") (" + term(depth - 1) + ")";
        }
    }

    private static void checkFault(Probe probe, String text) {
        int fault = probe.reader.fault();
        boolean known = fault >= 1 && fault <= 4 || fault == 8;
        Probe.due("a fault of <" + text + ">", known ? 1 : 0, 1);
        int place = probe.reader.place();
        Probe.due("a place in <" + text + ">", place >= 0 && place <= text.length() ? 1 : 0, 1);
    }

    private static void checkTerm(Probe probe, String text, int count) {
        Probe.due("symbol behind <" + text + ">", probe.symbol(count), Probe.REFUSED);
        int end = checkPart(probe, text, 0, new ArrayList<>());
        Probe.due("symbols of <" + text + ">", end, count);
        checkLeftOver(probe, text, count);
    }

    /** Checks the part that begins with symbol i; answers where it ends. */
    private static int checkPart(Probe probe, String text, int i, List<String> variables) {
        int symbol = probe.symbol(i);
        String type = probe.typeOf(i);
        if (symbol == -1) {
            int argument = checkPart(probe, text, i + 1, variables);
            int end = checkPart(probe, text, argument, variables);
            Probe.due("function in <" + text + ">", probe.typeOf(i + 1), "2 " + probe.typeOf(argument) + " " + type);
            return end;
        }
        if (symbol == -2) {
            String body = probe.typeOf(i + 1);
            String from = type.substring(2, type.length() - body.length() - 1);
            Probe.due("abstraction in <" + text + ">", type, "2 " + from + " " + body);
            variables.add(from);
            int end = checkPart(probe, text, i + 1, variables);
            variables.remove(variables.size() - 1);
            return end;
        }
        if (symbol % 2 == 0) {
            Probe.due("variable in <" + text + ">", type, variables.get(variables.size() - 1 - symbol / 2));
        }
        return i + 1;
    }

    /** Type variables that were left are numbered in the order in which they stand. */
    private static void checkLeftOver(Probe probe, String text, int count) {
        int next = -1;
        for (int i = 0; i < count; i++) {
            for (int k = 0; probe.typeSymbol(i, k) != Probe.REFUSED; k++) {
                int code = probe.typeSymbol(i, k);
                if (code > -1000 && code < 0) {
                    Probe.due("type variable of <" + text + ">", code >= next ? 1 : 0, 1);
                    next = code == next ? next - 1 : next;
                }
            }
        }
    }
}
