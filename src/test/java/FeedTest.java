/** Promise 2: twenty bytes more, four in each number, the highest first; refused at 8000. */
public final class FeedTest {
    public static void main(String[] args) {
        bytesInTheirOrder();
        allBytesCount();
        fullAt8000();
        bytesGoWithEachText();
        refusedCallsKeepTheBytes();
        bytesBehindTheTextDoNotCount();
        Probe.end();
    }

    private static void bytesInTheirOrder() {
        TypedTermReader reader = new TypedTermReader();
        // "\abc", "d . ", "abcd", "    ", "    "
        boolean taken = reader.feed(0x5c616263, 0x64202e20, 0x61626364, 0x20202020, 0x20202020);
        Probe.due("feed", taken ? 1 : 0, 1);
        Probe.due("term(12)", reader.term(12), 2);
        Probe.due("symbol(1)", reader.symbol(1), 0);
        reader.feed(0x20202020, 0x20202020, 0x20202020, 0x20202020, 0x20202024);
        Probe.due("term(20) with a $ at its end", reader.term(20), -1);
        Probe.due("fault", reader.fault(), 1);
        Probe.due("place", reader.place(), 19);
    }

    /** Every byte value, alone: 128 to 255 come as negative halves of numbers. */
    private static void allBytesCount() {
        TypedTermReader reader = new TypedTermReader();
        for (int c = 0; c < 256; c++) {
            reader.feed(c << 24, -1, -1, -1, -1);
            int got = reader.term(1);
            boolean blank = c == 9 || c == 10 || c == 13 || c == 32 || c == '#';
            boolean token = "()[],.:;|\\!?@~=+*<_".indexOf(c) >= 0
                    || c < 128 && Character.isLetterOrDigit(c);
            int numeralOrConstant = c == 'T' || c == 'F' ? 1 : c >= '0' && c <= '9' ? 2 * (c - '0') + 1 : -1;
            Probe.due("term of byte " + c, got, numeralOrConstant);
            int fault = got > 0 ? 0 : blank ? 2 : !token ? 1 : Character.isLetter(c) || c == '_' ? 4 : 2;
            Probe.due("fault of byte " + c, reader.fault(), fault);
        }
    }

    private static void fullAt8000() {
        Probe probe = new Probe();
        StringBuilder text = new StringBuilder();
        for (int i = 0; i < 7980; i++) {
            text.append(' ');
        }
        probe.feed(text.toString());
        Probe.due("term(7981) of 7980", probe.term(7981), Probe.REFUSED);
        Probe.due("the 400th feed", probe.feed("                   T") ? 1 : 0, 1);
        Probe.due("the 401st feed", probe.feed("$") ? 1 : 0, 0);
        Probe.due("term(8001)", probe.term(8001), Probe.REFUSED);
        Probe.due("the 402nd feed", probe.feed("$") ? 1 : 0, 0);
        Probe.due("term(8000)", probe.term(8000), 1);
        Probe.due("feed when all bytes are gone", probe.feed("F") ? 1 : 0, 1);
        Probe.due("term(1)", probe.term(1), 1);
        Probe.due("symbol(0)", probe.symbol(0), 5);
    }

    private static void bytesGoWithEachText() {
        Probe probe = new Probe();
        probe.feed("T F F F F F F F F F F F F F F F F F F F F F F F");
        Probe.due("term(1)", probe.term(1), 1);
        Probe.due("term(1) when all bytes are gone", probe.term(1), Probe.REFUSED);
        probe.feed("T");
        Probe.due("term(0)", probe.term(0), -1);
        Probe.due("term(1) behind term(0)", probe.term(1), Probe.REFUSED);
        probe.constant("c : bool");
        Probe.due("term(1) behind a constant", probe.term(1), Probe.REFUSED);
        probe.type("t");
        Probe.due("term(1) behind a type", probe.term(1), Probe.REFUSED);
        probe.type("(");
        Probe.due("term(1) behind a fault", probe.term(1), Probe.REFUSED);
    }

    private static void bytesBehindTheTextDoNotCount() {
        Probe probe = new Probe();
        startDue(probe, "49", 1, 9, 0, -1);
        startDue(probe, "Tx", 1, 1, 0, -1);
        startDue(probe, "T/\\T", 2, -1, 1, 1);
        startDue(probe, "T\\/T", 2, -1, 2, 1);
        startDue(probe, "T==>T", 2, -1, 2, 2);
        startDue(probe, "T 'a", 3, -1, 1, 2);
        startDue(probe, "T /\\ T", 4, -1, 2, 4);
        startDue(probe, "(T)", 2, -1, 2, 2);
        startDue(probe, "(".repeat(41) + "~)", 42, -1, 8, 41);
    }

    private static void startDue(Probe probe, String text, int n, int answer, int fault, int place) {
        probe.feed(text);
        String what = "term of the first " + n + " of <" + text + ">";
        probe.outcomeDue(what, probe.term(n), answer, fault, place);
    }

    private static void refusedCallsKeepTheBytes() {
        Probe probe = new Probe();
        probe.feed("F");
        int[] wrong = {-1, 21, 8001, Integer.MIN_VALUE, Integer.MAX_VALUE};
        for (int n : wrong) {
            Probe.due("term(" + n + ")", probe.term(n), Probe.REFUSED);
            Probe.due("constant(" + n + ")", probe.constant(n), Probe.REFUSED);
            Probe.due("type(" + n + ")", probe.type(n), Probe.REFUSED);
        }
        probe.feed("$");
        Probe.due("term(1)", probe.term(1), 1);
        Probe.due("symbol(0)", probe.symbol(0), 5);
    }
}
