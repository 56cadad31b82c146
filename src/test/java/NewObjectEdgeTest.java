/** Promise 1, by its sentence: what each call answers on a new object. */
final class NewObjectEdgeTest {
    private static final Edge EDGE = new Edge("NewObjectEdgeTest");
    private static final int[] NUMBERS = {Integer.MIN_VALUE, -2, -1, 0, 1, 5, 6, 479, 480, 511, 512, Integer.MAX_VALUE};

    public static void main(String[] args) {
        EDGE.sentence("makes an object in the state that the terms give");
        hasNoTree();
        hasNoText();
        hasNoFault();
        hasNothingPrinted();
        staysNewWhenAsked();
        sharesNothing();
        EDGE.end();
    }

    private static void hasNoTree() {
        for (int number : NUMBERS) {
            for (int what : NUMBERS) {
                EDGE.due("node(" + number + ", " + what + ")", Edge.node(new ScriptFront(), number, what), "throws");
            }
            EDGE.due("many(" + number + ")", new ScriptFront().many(number), 0);
        }
        for (int kind = -1; kind <= 50; kind++) {
            EDGE.due("many(" + kind + ")", new ScriptFront().many(kind), 0);
        }
        EDGE.due("again()", new ScriptFront().again(), false);
    }

    private static void hasNoText() {
        ScriptFront empty = new ScriptFront();
        EDGE.due("parse()", Probe.parsed(empty), "1");
        EDGE.due("its tree", Probe.tree(empty, 0), "0");
        EDGE.due("place of the first character", Probe.parsed(new ScriptFront(), "#"), "fault 1 at 0");
        ScriptFront full = new ScriptFront();
        EDGE.due("480 characters", Probe.typed(full, ";".repeat(480)), true);
        EDGE.due("one more", full.type(';', 1), false);
    }

    private static void hasNoFault() {
        EDGE.due("fault(0)", new ScriptFront().fault(0), 0);
        EDGE.due("fault(1)", new ScriptFront().fault(1), ScriptFront.NONE);
        EDGE.due("fault(2)", new ScriptFront().fault(2), 0);
        EDGE.due("fault(3)", new ScriptFront().fault(3), ScriptFront.NONE);
        EDGE.due("fault(-1)", new ScriptFront().fault(-1), ScriptFront.NONE);
    }

    private static void hasNothingPrinted() {
        for (int i : NUMBERS) {
            EDGE.due("printed(" + i + ")", new ScriptFront().printed(i), i == -1 ? 0 : ScriptFront.NONE);
        }
    }

    private static void staysNewWhenAsked() {
        ScriptFront front = new ScriptFront();
        String before = Edge.state(front);
        EDGE.due("again()", front.again(), false);
        EDGE.due("type(0, 1)", front.type(0, 1), false);
        EDGE.due("all answers once more", Edge.state(front), before);
        EDGE.due("parse()", Probe.parsed(front), "1");
    }

    private static void sharesNothing() {
        ScriptFront one = new ScriptFront();
        String before = Edge.state(new ScriptFront());
        Probe.parsed(one, "a=b");
        Probe.parsed(one, "a b");
        Probe.typed(one, "c");
        ScriptFront other = new ScriptFront();
        EDGE.due("all answers of another object", Edge.state(other), before);
        EDGE.due("parse() of another object", Probe.parsed(other), "1");
        EDGE.due("parse() of the first object", Probe.parsed(one), "3");
    }
}
