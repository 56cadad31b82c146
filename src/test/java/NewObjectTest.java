/** Promise 1: a new object has an empty tape, no tree and no fault. */
final class NewObjectTest {
    public static void main(String[] args) {
        Probe probe = new Probe("NewObjectTest");
        ScriptFront front = new ScriptFront();
        probe.due("NONE", ScriptFront.NONE, -1);
        probe.due("fault(0)", front.fault(0), 0);
        probe.due("fault(1)", front.fault(1), -1);
        probe.due("fault(2)", front.fault(2), 0);
        probe.due("fault(3)", front.fault(3), -1);
        probe.due("printed(-1)", front.printed(-1), 0);
        probe.due("printed(0)", front.printed(0), -1);
        probe.due("many(0)", front.many(0), 0);
        probe.due("many(21)", front.many(21), 0);
        probe.due("again()", front.again(), false);
        probe.due("node(0, 0)", node(front, 0, 0), "throws");
        probe.due("node(-1, 0)", node(front, -1, 0), "throws");
        probe.due("parse() of the empty tape", Probe.parsed(front), "1");
        probe.due("tree", Probe.tree(front, 0), "0");
        ScriptFront other = new ScriptFront();
        Probe.typed(front, "a");
        probe.due("another object's tape", Probe.parsed(other), "1");
        probe.end();
    }

    private static String node(ScriptFront front, int k, int what) {
        try {
            return String.valueOf(front.node(k, what));
        } catch (IndexOutOfBoundsException e) {
            return "throws";
        }
    }
}
