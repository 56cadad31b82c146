/** Promise 2: type. */
final class TypeTest {
    private static final Probe PROBE = new Probe("TypeTest");

    public static void main(String[] args) {
        takesTheLowestBytesHighestFirst();
        refusesOtherLengths();
        refusesOtherCharacters();
        refusesMoreThanTheTapeHolds();
        changesNothingWhenItRefuses();
        PROBE.end();
    }

    private static void takesTheLowestBytesHighestFirst() {
        ScriptFront front = new ScriptFront();
        PROBE.due("type of 2 of 8 bytes", front.type(0x0102030405066162L, 2), true);
        PROBE.due("type of 8 bytes", front.type(Probe.word("cdefghi;"), 8), true);
        PROBE.due("parse()", Probe.parsed(front), "3");
        PROBE.due("printed", Probe.printed(front), "abcdefghi;");
        PROBE.due("type of 1 byte of a word below 0", front.type(-1L << 8 | 'z', 1), true);
        PROBE.due("parse()", Probe.parsed(front), "3");
        PROBE.due("printed", Probe.printed(front), "z;");
    }

    private static void refusesOtherLengths() {
        int[] lengths = {0, -1, 9, 16, Integer.MAX_VALUE, Integer.MIN_VALUE};
        for (int n : lengths) {
            PROBE.due("type(aaaaaaaa, " + n + ")", new ScriptFront().type(Probe.word("aaaaaaaa"), n), false);
        }
    }

    private static void refusesOtherCharacters() {
        for (int c = 0; c < 256; c++) {
            boolean fine = c == 9 || c == 10 || c == 13 || c >= 32 && c <= 126;
            PROBE.due("type(" + c + ", 1)", new ScriptFront().type(c, 1), fine);
            PROBE.due("type(" + c + " a, 2)", new ScriptFront().type((long) c << 8 | 'a', 2), fine);
            PROBE.due("type(a .. " + c + ", 8)", new ScriptFront().type(Probe.word("aaaaaaa") << 8 | c, 8), fine);
        }
        PROBE.due("type(0xFF61, 1)", new ScriptFront().type(0xFF61, 1), true);
    }

    private static void refusesMoreThanTheTapeHolds() {
        ScriptFront front = new ScriptFront();
        PROBE.due("479 characters", Probe.typed(front, ";".repeat(479)), true);
        PROBE.due("2 more", front.type(Probe.word(";;"), 2), false);
        PROBE.due("8 more", front.type(Probe.word(";;;;;;;;"), 8), false);
        PROBE.due("1 more", front.type(';', 1), true);
        PROBE.due("1 more than 480", front.type(';', 1), false);
        PROBE.due("parse()", Probe.parsed(front), "481");
        PROBE.due("the tape is empty", Probe.typed(front, ";".repeat(480)), true);
    }

    private static void changesNothingWhenItRefuses() {
        ScriptFront front = new ScriptFront();
        front.type(Probe.word("ab"), 2);
        front.type(Probe.word("cd") << 8 | 7, 3);
        front.type(Probe.word("ef"), 0);
        front.type(Probe.word("g"), 1);
        PROBE.due("parse()", Probe.parsed(front), "3");
        PROBE.due("printed", Probe.printed(front), "abg;");
    }
}
