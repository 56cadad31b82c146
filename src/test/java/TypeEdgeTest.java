/** Promise 2, sentence by sentence. */
final class TypeEdgeTest {
    private static final Edge EDGE = new Edge("TypeEdgeTest");

    public static void main(String[] args) {
        numberOfBytes();
        lowestBytesHighestFirst();
        charactersThatAreAsTold();
        bytesAboveAreNotLookedAt();
        moreThanFull();
        refusedCallsChangeNothing();
        emptyAgain();
        EDGE.end();
    }

    private static String typedText(ScriptFront front) {
        String parsed = Probe.parsed(front);
        return parsed.startsWith("fault") ? parsed : Probe.printed(front);
    }

    private static void numberOfBytes() {
        EDGE.sentence("The n (1 .. 8) lowest bytes of word");
        String text = "abcdefgh";
        for (int n = 1; n <= 8; n++) {
            ScriptFront front = new ScriptFront();
            EDGE.due("type(.., " + n + ")", front.type(Probe.word(text), n), true);
            EDGE.due("the tape behind type(.., " + n + ")", typedText(front), text.substring(8 - n) + ";");
        }
        EDGE.sentence("false, changing nothing, for another n");
        int[] others = {0, 9, -1, -8, 10, 16, 64, 256 + 1, 1 << 29 | 1, Integer.MAX_VALUE, Integer.MIN_VALUE};
        for (int n : others) {
            ScriptFront front = new ScriptFront();
            front.type('x', 1);
            EDGE.due("type(.., " + n + ")", front.type(Probe.word(text), n), false);
            EDGE.due("the tape behind type(.., " + n + ")", typedText(front), "x;");
        }
    }

    private static void lowestBytesHighestFirst() {
        EDGE.sentence("the highest first, go to the tape");
        ScriptFront front = new ScriptFront();
        front.type(0x6162636465666768L, 8);
        front.type(0x7A696AL, 2);
        front.type(0x7A7A7A6BL, 1);
        EDGE.due("the tape", typedText(front), "abcdefghijk;");
    }

    private static boolean isAsTold(int c) {
        return c == 9 || c == 10 || c == 13 || c >= 32 && c <= 126;
    }

    private static void charactersThatAreAsTold() {
        EDGE.sentence("characters: 9, 10, 13, 32 .. 126");
        int[] edges = {8, 9, 10, 11, 12, 13, 14, 31, 32, 33, 125, 126, 127, 128, 128 + 'a', 255, 0, 1};
        boolean[] due = {
            false, true, true, false, false, true, false, false, true, true, true, true, false, false, false, false, false, false
        };
        for (int i = 0; i < edges.length; i++) {
            EDGE.due("type(" + edges[i] + ", 1)", new ScriptFront().type(edges[i], 1), due[i]);
        }
        for (int c = 0; c < 256; c++) {
            for (int at = 0; at < 8; at++) {
                long word = Probe.word("aaaaaaaa") & ~(255L << 8 * at) | (long) c << 8 * at;
                EDGE.due("type of " + c + " in byte " + at, new ScriptFront().type(word, 8), isAsTold(c));
            }
        }
        EDGE.due("type(-1, 8)", new ScriptFront().type(-1L, 8), false);
        EDGE.due("type(0, 8)", new ScriptFront().type(0L, 8), false);
        EDGE.due("type(Long.MIN_VALUE, 1)", new ScriptFront().type(Long.MIN_VALUE, 1), false);
    }

    private static void bytesAboveAreNotLookedAt() {
        EDGE.sentence("The n (1 .. 8) lowest bytes of word");
        for (int n = 1; n < 8; n++) {
            long word = Probe.word("aaaaaaaa") & ~(255L << 8 * n);
            EDGE.due("0 above " + n + " bytes", new ScriptFront().type(word, n), true);
            EDGE.due("0 within " + (n + 1) + " bytes", new ScriptFront().type(word, n + 1), false);
        }
    }

    private static ScriptFront typed(int characters) {
        ScriptFront front = new ScriptFront();
        Probe.typed(front, ";".repeat(characters));
        return front;
    }

    private static void moreThanFull() {
        EDGE.sentence("or if it would have more than 480");
        for (int n = 1; n <= 8; n++) {
            long word = Probe.word(";;;;;;;;");
            ScriptFront fits = typed(480 - n);
            EDGE.due(n + " behind " + (480 - n), fits.type(word, n), true);
            EDGE.due("nodes of 480 characters", Probe.parsed(fits), "481");
            ScriptFront full = typed(481 - n);
            EDGE.due(n + " behind " + (481 - n), full.type(word, n), false);
            EDGE.due("nodes of " + (481 - n) + " characters", Probe.parsed(full), 482 - n);
            EDGE.due(n + " behind 480", typed(480).type(word, n), false);
        }
        ScriptFront front = typed(477);
        EDGE.due("4 behind 477", front.type(Probe.word(";;;;"), 4), false);
        EDGE.due("3 behind 477, though 4 were refused", front.type(Probe.word(";;;"), 3), true);
        EDGE.due("1 behind 480", front.type(';', 1), false);
    }

    private static void refusedCallsChangeNothing() {
        EDGE.sentence("false, changing nothing, for another n, a character that is not as told, or if it would have more than 480");
        ScriptFront front = new ScriptFront();
        Probe.parsed(front, "a+b");
        Probe.parsed(front, "a b");
        Probe.typed(front, "c");
        String before = Edge.state(front);
        EDGE.due("type(.., 9)", front.type(Probe.word("dddddddd"), 9), false);
        EDGE.due("type(.., 0)", front.type(Probe.word("d"), 0), false);
        EDGE.due("a wrong character last", front.type(Probe.word("dddd") << 8 | 127, 5), false);
        EDGE.due("a wrong character first", front.type(31L << 32 | Probe.word("dddd"), 5), false);
        EDGE.due("all answers", Edge.state(front), before);
        EDGE.due("the tape", typedText(front), "c;");
        ScriptFront full = new ScriptFront();
        Probe.typed(full, "c" + " ".repeat(478));
        EDGE.due("2 behind 479", full.type(Probe.word("dd"), 2), false);
        EDGE.due("a wrong character behind 479", full.type(127, 1), false);
        EDGE.due("the tape", typedText(full), "c;");
    }

    private static void emptyAgain() {
        EDGE.sentence("THE TAPE has at most 480 characters");
        ScriptFront front = typed(480);
        Probe.parsed(front);
        EDGE.due("480 behind parse()", Probe.typed(front, ")".repeat(480)), true);
        EDGE.due("481 behind parse()", front.type(')', 1), false);
        EDGE.due("parse()", Probe.parsed(front), "fault 2 at 0");
        EDGE.due("480 behind a fault", Probe.typed(front, "a".repeat(480)), true);
        EDGE.due("481 behind a fault", front.type('a', 1), false);
        EDGE.due("parse()", Probe.parsed(front), "3");
        EDGE.due("again() of 481", front.again(), false);
        EDGE.due("480 behind again() that was refused", Probe.typed(front, "b".repeat(480)), true);
    }
}
