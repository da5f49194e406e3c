import java.util.Arrays;

/** Promise 2 at its boundaries: a test for each sentence that names one. */
public final class FeedBoundaryTest {
    private static final String BLANKS = " ".repeat(20);

    public static void main(String[] args) {
        twentyBytes();
        highestFirst();
        refusedAt8000();
        allStaysWhenRefused();
        Probe.end();
    }

    private static void twentyBytes() {
        Probe.sentence(2, "Twenty bytes more");
        for (int feeds = 0; feeds <= 3; feeds++) {
            Probe probe = new Probe();
            for (int i = 0; i < feeds; i++) {
                Probe.due("feed", probe.feed(BLANKS) ? 1 : 0, 1);
            }
            int bytes = 20 * feeds;
            Probe.due("term(" + (bytes + 1) + ")", probe.term(bytes + 1), Probe.REFUSED);
            Probe.due("term(" + bytes + ")", probe.term(bytes), -1);
            Probe.due("place", probe.place(), bytes);
        }
    }

    private static void highestFirst() {
        Probe.sentence(2, "four in each number, the highest first");
        int[] scanFaults = {0, 1, 31, 127, 128, 254, 255};
        for (int at = 0; at < 20; at++) {
            Probe probe = new Probe();
            byteDue(probe, at, 'x', 4);
            byteDue(probe, at, ')', 2);
            for (int value : scanFaults) {
                byteDue(probe, at, value, 1);
            }
        }
        TypedTermReader reader = new TypedTermReader();
        reader.feed(0x28535543, 0x20300923, 0x80ff7f00, 0xffffff0a, 0x0d202029); // "(SUC 0\t#.. ..\n\r  )"
        Probe.due("term(20)", reader.term(20), 3);
    }

    private static void byteDue(Probe probe, int at, int value, int fault) {
        char[] text = BLANKS.toCharArray();
        text[at] = (char) value;
        probe.termFaultDue(new String(text), fault, at);
    }

    private static void refusedAt8000() {
        Probe.sentence(2, "false, refused, if there are 8000.");
        Probe probe = new Probe();
        for (int i = 1; i <= 400; i++) {
            Probe.due("feed " + i, probe.feed(BLANKS) ? 1 : 0, 1);
        }
        Probe.due("feed 401", probe.feed(BLANKS) ? 1 : 0, 0);
        Probe.due("feed 402", probe.feed(BLANKS) ? 1 : 0, 0);
        Probe.due("term(8001)", probe.term(8001), Probe.REFUSED);
        Probe.due("feed behind a refused term", probe.feed(BLANKS) ? 1 : 0, 0);
        Probe.due("term(8000)", probe.term(8000), -1);
        Probe.due("place", probe.place(), 8000);
        Probe.due("feed when the bytes are gone", probe.feed(BLANKS) ? 1 : 0, 1);
        Probe.due("term(21)", probe.term(21), Probe.REFUSED);
        Probe.due("term(20)", probe.term(20), -1);
    }

    private static void allStaysWhenRefused() {
        Probe.sentence(2, "false, refused, if there are 8000.");
        char[] text = new char[8000];
        Arrays.fill(text, ' ');
        text[0] = 'c';
        text[7999] = '0';
        Probe.allStaysDue("refused feeds", 8000, probe -> {
            probe.constant("c:num->num");
            probe.term("SUC 0");
            probe.term("T T");
            probe.feed(new String(text));
        }, probe -> {
            Probe.due("feed", probe.feed("F F F F F F F F F F ") ? 1 : 0, 0);
            Probe.due("feed", probe.feed("'a 'b 'c 'd 'e 'f 'g") ? 1 : 0, 0);
        });
        Probe probe = new Probe();
        probe.feed(new String(text, 0, 7980));
        Probe.due("feed at 7980", probe.feed("                   x") ? 1 : 0, 1);
        Probe.due("feed at 8000", probe.feed("F") ? 1 : 0, 0);
        Probe.due("term(8000)", probe.term(8000), -1);
        Probe.due("fault", probe.fault(), 4);
        Probe.due("place", probe.place(), 0);
    }
}
