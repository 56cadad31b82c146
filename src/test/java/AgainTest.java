/** Promise 8: again. */
final class AgainTest {
    private static final Probe PROBE = new Probe("AgainTest");

    public static void main(String[] args) {
        withoutATree();
        becomesTheTape();
        refusesWhatIsTooLong();
        PROBE.end();
    }

    private static void withoutATree() {
        ScriptFront front = new ScriptFront();
        PROBE.due("again()", front.again(), false);
        Probe.typed(front, "a");
        PROBE.due("again()", front.again(), false);
        PROBE.due("the tape stays", Probe.parsed(front), "3");
        ScriptFront other = new ScriptFront();
        Probe.parsed(other, "a(");
        PROBE.due("again() behind a fault alone", other.again(), false);
    }

    private static void becomesTheTape() {
        ScriptFront front = new ScriptFront();
        Probe.parsed(front, "a\n(b)\nvar c");
        Probe.typed(front, "x y z");
        PROBE.due("again()", front.again(), true);
        Probe.typed(front, "d");
        PROBE.due("parse() of what was printed and typed", Probe.parsed(front), "9");
        PROBE.due("printed", Probe.printed(front), "a(b);var c;d;");
        PROBE.due("semicolons", front.fault(2), 1);
        PROBE.due("again()", front.again(), true);
        PROBE.due("again() once more", front.again(), true);
        PROBE.due("parse()", Probe.parsed(front), "9");
        PROBE.due("semicolons", front.fault(2), 0);
        PROBE.due("the tape is empty", Probe.parsed(front), "1");
        PROBE.due("again() of the empty text", front.again(), true);
        PROBE.due("parse()", Probe.parsed(front), "1");
        Probe.parsed(front, "a");
        Probe.parsed(front, "b c");
        PROBE.due("again() behind a fault", front.again(), true);
        PROBE.due("parse()", Probe.parsed(front), "3");
        PROBE.due("printed", Probe.printed(front), "a;");
        Probe.parsed(front, "");
        Probe.typed(front, "x y");
        PROBE.due("again() of the empty text", front.again(), true);
        PROBE.due("the tape is empty", Probe.parsed(front), "1");
    }

    private static void refusesWhatIsTooLong() {
        ScriptFront front = new ScriptFront();
        Probe.parsed(front, "a\n".repeat(240));
        PROBE.due("printed(-1)", front.printed(-1), 480);
        PROBE.due("again() of 480", front.again(), true);
        PROBE.due("parse()", Probe.parsed(front), "481");
        Probe.parsed(front, ";".repeat(477) + "{a}");
        PROBE.due("printed(-1)", front.printed(-1), 481);
        Probe.typed(front, "b");
        PROBE.due("again() of 481", front.again(), false);
        PROBE.due("parse() of the tape that stayed", Probe.parsed(front), "3");
        PROBE.due("printed", Probe.printed(front), "b;");
    }
}
