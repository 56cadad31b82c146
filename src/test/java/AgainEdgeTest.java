/** Promise 8, sentence by sentence. */
final class AgainEdgeTest {
    private static final Edge EDGE = new Edge("AgainEdgeTest");

    public static void main(String[] args) {
        becomesTheTape();
        emptyAndFull();
        tooLong();
        noTree();
        readsAsTheSameTree();
        EDGE.end();
    }

    private static String read(ScriptFront front) {
        String parsed = Probe.parsed(front);
        return parsed.startsWith("fault") ? parsed : Probe.printed(front);
    }

    private static void becomesTheTape() {
        EDGE.sentence("What is printed becomes the tape: true");
        ScriptFront front = new ScriptFront();
        Probe.parsed(front, "a\n+ b");
        String before = Edge.state(front);
        EDGE.due("again()", front.again(), true);
        EDGE.due("all answers but the tape", Edge.state(front), before);
        EDGE.due("again() once more", front.again(), true);
        EDGE.due("the tape", read(front), "a+b;");
        EDGE.due("semicolons that were put in", front.fault(2), 0);
        EDGE.due("the tape is empty behind parse()", Probe.parsed(front), "1");
        Probe.parsed(front, "c");
        Probe.typed(front, "d e f #");
        EDGE.due("again() with a tape that is not empty", front.again(), true);
        EDGE.due("the tape", read(front), "c;");
        Probe.typed(front, "x");
        front.again();
        Probe.typed(front, "d");
        EDGE.due("the tape with more typed behind again()", read(front), "c;d;");
        Probe.parsed(front, "1=2");
        EDGE.due("again() behind a fault", front.again(), true);
        EDGE.due("fault(0) behind again()", front.fault(0), 4);
        EDGE.due("the tape", read(front), "c;d;");
    }

    private static void emptyAndFull() {
        EDGE.sentence("What is printed becomes the tape: true");
        ScriptFront front = new ScriptFront();
        Probe.parsed(front, "");
        Probe.typed(front, "a");
        EDGE.due("again() of the empty text", front.again(), true);
        EDGE.due("nodes of the tape", Probe.parsed(front), "1");
        Probe.parsed(front, ";".repeat(479));
        EDGE.due("again() of 479", front.again(), true);
        EDGE.due("one more", front.type(';', 1), true);
        EDGE.due("two more", front.type(';', 1), false);
        EDGE.due("nodes of 480", Probe.parsed(front), "481");
        EDGE.due("again() of 480", front.again(), true);
        EDGE.due("one more", front.type(';', 1), false);
        EDGE.due("nodes of 480", Probe.parsed(front), "481");
    }

    private static void tooLong() {
        EDGE.sentence("false, changing nothing, if it has more than 480 characters");
        String[] texts = {"a".repeat(479), "a".repeat(480), ";".repeat(475) + "new a", ";".repeat(477) + "{a}", "{1..a}".repeat(80),
            "a\n".repeat(240), "{a}".repeat(120), "{a}".repeat(121)};
        int[] sizes = {480, 481, 483, 481, 720, 480, 480, 484};
        for (int i = 0; i < texts.length; i++) {
            ScriptFront front = new ScriptFront();
            Probe.parsed(front, texts[i]);
            EDGE.due("printed(-1) of text " + i, front.printed(-1), sizes[i]);
            Probe.typed(front, "b");
            String before = Edge.state(front);
            EDGE.due("again() of " + sizes[i], front.again(), sizes[i] <= 480);
            EDGE.due("all answers but the tape", Edge.state(front), before);
            String tape = sizes[i] <= 480 ? Probe.printed(front) : "b;";
            EDGE.due("the tape of text " + i, read(front), tape);
        }
    }

    private static void noTree() {
        EDGE.sentence("false, changing nothing, .. or there is no tree");
        ScriptFront front = new ScriptFront();
        EDGE.due("again() of a new object", front.again(), false);
        Probe.typed(front, "a");
        EDGE.due("again() with a tape", front.again(), false);
        EDGE.due("the tape", read(front), "a;");
        String[] faulty = {"#", "(", "(".repeat(20), "1=a", "'use strict';delete a", "break"};
        for (String text : faulty) {
            ScriptFront other = new ScriptFront();
            Probe.parsed(other, text);
            String before = Edge.state(other);
            EDGE.due("again() behind " + text + " alone", other.again(), false);
            EDGE.due("all answers", Edge.state(other), before);
            Probe.typed(other, "b");
            EDGE.due("again() behind " + text + " alone", other.again(), false);
            EDGE.due("the tape", read(other), "b;");
        }
    }

    private static void readsAsTheSameTree() {
        EDGE.sentence("a tree is printed as a text that reads as the same tree");
        String[] texts = {
            "", ";", "a\nb", "'use strict'\na", "('use strict')\ndelete a", "for(var a=(b in c),d;;);", "new (a().b)", "(function(){})()",
            "({}).a", "1..a", "a- -b", "a+ ++b",
            "/a/ /b", "if(a){if(b)c}else d", "a=b,c", "(a,b).c", "do a\nwhile(b)", "switch(a){case b:c\ndefault:}", "[,a,,]", "a?(b,c):d",
            "x:for(;;)continue x", "try{}catch(a){}"
        };
        for (String text : texts) {
            ScriptFront front = new ScriptFront();
            Probe.parsed(front, text);
            String kinds = Probe.tree(front, 0);
            String strict = Probe.tree(front, 5);
            String printed = Probe.printed(front);
            EDGE.due("again() of " + text, front.again(), true);
            EDGE.due("printed " + text, read(front), printed);
            EDGE.due("the tree of " + text, Probe.tree(front, 0), kinds);
            EDGE.due("strict code of " + text, Probe.tree(front, 5), strict);
            EDGE.due("semicolons put into " + printed, front.fault(2), 0);
        }
    }
}
