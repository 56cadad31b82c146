/** "What it is": an object is used for at most 512 calls; the last of them answers as the first. */
final class CallsEdgeTest {
    private static final Edge EDGE = new Edge("CallsEdgeTest");
    private static final int CALLS = 512;

    public static void main(String[] args) {
        EDGE.sentence("An object is used for at most 512 calls after it has been made");
        fullTextsToTheLast();
        faultsToTheLast();
        againToTheLast();
        questionsToTheLast();
        refusedCallsToTheLast();
        lastCalls();
        EDGE.end();
    }

    /** 62 calls a round: a full text is typed, read, and asked for. */
    private static void fullTextsToTheLast() {
        String[] texts = {";".repeat(480), "{1..a}".repeat(80), "a=b+c*d;".repeat(60), "[" + ",".repeat(478) + "]",
            "(".repeat(240) + ")".repeat(240)};
        for (String text : texts) {
            ScriptFront front = new ScriptFront();
            String first = Probe.parsed(front, text) + " " + front.printed(-1);
            int calls = 62;
            String last = first;
            while (calls + 62 <= CALLS) {
                last = Probe.parsed(front, text) + " " + front.printed(-1);
                calls += 62;
            }
            EDGE.due("the last of " + calls + " calls", last, first);
        }
    }

    private static void faultsToTheLast() {
        String[] texts = {"a||b*#", "(a,[", "((((((((", "1=a+b*c", "break", "f(a+b*"};
        for (String text : texts) {
            ScriptFront front = new ScriptFront();
            front.type(Probe.word(text), text.length());
            String first = Probe.parsed(front);
            String last = first;
            for (int calls = 4; calls <= CALLS; calls += 2) {
                front.type(Probe.word(text), text.length());
                last = Probe.parsed(front);
            }
            EDGE.due("the last parse() of " + text, last, first);
        }
        ScriptFront front = new ScriptFront();
        for (int calls = 2; calls <= CALLS - 4; calls += 2) {
            front.type(Probe.word("a+(b*"), 5);
            Probe.parsed(front);
        }
        front.type(Probe.word("a*b+c"), 5);
        EDGE.due("a text without a fault as the last of them", Probe.parsed(front), "7");
        EDGE.due("its printed characters", front.printed(-1), 6);
    }

    private static void againToTheLast() {
        ScriptFront front = new ScriptFront();
        front.type(Probe.word("a=b+c*d"), 7);
        EDGE.due("the first parse()", Probe.parsed(front), "9");
        String held = Edge.held(front);
        int wrong = 0;
        for (int calls = 4; calls <= CALLS; calls += 2) {
            wrong += front.again() ? 0 : 1;
            wrong += Probe.parsed(front).equals("9") ? 0 : 1;
        }
        EDGE.due("wrong answers of again() and parse()", wrong, 0);
        EDGE.due("what is held behind them", Edge.held(front), held);
        EDGE.due("semicolons that the last one put in", front.fault(2), 0);
    }

    private static void questionsToTheLast() {
        ScriptFront front = new ScriptFront();
        front.type(Probe.word("a=b"), 3);
        Probe.parsed(front);
        int wrong = 0;
        for (int calls = 3; calls + 5 <= CALLS; calls += 5) {
            wrong += front.node(2, 0) == 48 ? 0 : 1;
            wrong += front.many(31) == 2 ? 0 : 1;
            wrong += front.printed(3) == ';' ? 0 : 1;
            wrong += front.fault(2) == 1 ? 0 : 1;
            wrong += Edge.node(front, 5, 0).equals("throws") ? 0 : 1;
        }
        EDGE.due("wrong answers", wrong, 0);
    }

    private static void refusedCallsToTheLast() {
        ScriptFront front = new ScriptFront();
        front.type(Probe.word("a"), 1);
        int wrong = 0;
        for (int calls = 2; calls <= CALLS - 2; calls++) {
            wrong += front.type(Probe.word("bbbbbbbb"), calls % 2 == 0 ? 9 : 0) ? 1 : 0;
        }
        EDGE.due("wrong answers", wrong, 0);
        EDGE.due("parse() as the last but one", Probe.parsed(front), "3");
        EDGE.due("again() as the last", front.again(), true);
    }

    private static ScriptFront used(int calls) {
        ScriptFront front = new ScriptFront();
        front.type(Probe.word("a"), 1);
        Probe.parsed(front);
        front.type(Probe.word("b"), 1);
        for (int i = 3; i < calls; i++) {
            front.fault(0);
        }
        return front;
    }

    private static void lastCalls() {
        EDGE.due("type as call 512", used(CALLS - 1).type('c', 1), true);
        EDGE.due("parse() as call 512", Probe.parsed(used(CALLS - 1)), "3");
        EDGE.due("fault(2) as call 512", used(CALLS - 1).fault(2), 1);
        EDGE.due("node(2, 0) as call 512", Edge.node(used(CALLS - 1), 2, 0), "31");
        EDGE.due("node(3, 0) as call 512", Edge.node(used(CALLS - 1), 3, 0), "throws");
        EDGE.due("many(31) as call 512", used(CALLS - 1).many(31), 1);
        EDGE.due("printed(-1) as call 512", used(CALLS - 1).printed(-1), 2);
        EDGE.due("again() as call 512", used(CALLS - 1).again(), true);
    }
}
