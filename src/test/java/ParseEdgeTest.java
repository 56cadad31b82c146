/** Promise 3, its own sentences: the tape, the empty and the full text, and texts with a fault. */
final class ParseEdgeTest {
    private static final Edge EDGE = new Edge("ParseEdgeTest");
    /** One text for each fault. */
    private static final String[] FAULTY = {"a#", "a b", "(".repeat(19) + "a", "1=a", "'use strict';delete a", "break"};

    public static void main(String[] args) {
        emptyInAnyCase();
        emptyText();
        fullText();
        numberOfNodes();
        throwsOnAFault();
        treeBeforeStays();
        noTreeBeforeStaysNone();
        EDGE.end();
    }

    private static void emptyInAnyCase() {
        EDGE.sentence("The tape (which is empty then in any case) is the text");
        ScriptFront front = new ScriptFront();
        EDGE.due("a", Probe.parsed(front, "a"), "3");
        EDGE.due("parse() behind a text without a fault", Probe.parsed(front), "1");
        for (int i = 0; i < FAULTY.length; i++) {
            EDGE.due(FAULTY[i], Probe.parsed(front, FAULTY[i]).startsWith("fault " + (i + 1)), true);
            EDGE.due("parse() behind " + FAULTY[i], Probe.parsed(front), "1");
            EDGE.due(FAULTY[i], Probe.parsed(front, FAULTY[i]).startsWith("fault " + (i + 1)), true);
            EDGE.due("480 characters behind " + FAULTY[i], Probe.parsed(front, ";".repeat(480)), "481");
        }
        Probe.parsed(front, "longer text");
        EDGE.due("a shorter text behind a longer one", Probe.parsed(front, "b"), "3");
        EDGE.due("printed", Probe.printed(front), "b;");
    }

    private static void emptyText() {
        EDGE.sentence("how many nodes its tree has");
        String[] empty = {"", " ", "\t", "\n", "\r", "\r\n", "//", "/**/", " //a\n/*b*/\t", " ".repeat(480), "\n".repeat(480),
            "//" + "a".repeat(478)};
        for (String text : empty) {
            ScriptFront front = new ScriptFront();
            EDGE.due("nodes of an empty text", Probe.parsed(front, text), "1");
            EDGE.due("state", front.fault(0) + " " + front.fault(1) + " " + front.fault(2) + " " + Probe.tree(front, 0), "0 -1 0 0");
        }
        EDGE.due("nodes of ;", Probe.parsed(new ScriptFront(), ";"), "2");
    }

    private static void fullText() {
        EDGE.sentence("THE TAPE has at most 480 characters");
        EDGE.due("479 ;", Probe.parsed(new ScriptFront(), ";".repeat(479)), "480");
        EDGE.due("480 ;", Probe.parsed(new ScriptFront(), ";".repeat(480)), "481");
        EDGE.due("[ and 478 , and ]", Probe.parsed(new ScriptFront(), "[" + ",".repeat(478) + "]"), "481");
        EDGE.due("479 ; and a", Probe.parsed(new ScriptFront(), ";".repeat(479) + "a"), "482");
        EDGE.due("476 ; and {-a}", Probe.parsed(new ScriptFront(), ";".repeat(476) + "{-a}"), "481");
        EDGE.due("a NAME of 480", Probe.column("a".repeat(480), 2), "0 0 480");
        EDGE.due("a NUMBER of 480", Probe.column("1".repeat(480), 2), "0 0 480");
        EDGE.due("a STRING of 480", Probe.column("'" + "a".repeat(478) + "'", 2), "0 0 480");
        EDGE.due("a PATTERN of 480", Probe.column("/" + "a".repeat(478) + "/", 2), "0 0 480");
        EDGE.wrong(1, 479, ";".repeat(479) + "#", ";".repeat(479) + "'", ";".repeat(479) + "/");
        EDGE.wrong(1, 478, ";".repeat(478) + "/*", ";".repeat(478) + "0x");
        EDGE.wrong(1, 0, "'" + "a".repeat(479), "/" + "a".repeat(479), "/*" + "a".repeat(478), "'" + "\\a".repeat(239) + "\\");
        EDGE.wrong(2, 479, ";".repeat(479) + ")");
        EDGE.wrong(2, 480, ";".repeat(479) + "(", ";".repeat(477) + "new", "a" + ".b".repeat(239) + ".");
        EDGE.fine("a||a&&a|a^a&a==a<a<<a+a*(".repeat(17) + "a" + ")".repeat(17));
        EDGE.fine("a" + "+b".repeat(239), "a" + "=b".repeat(18), "a" + ",b".repeat(239), "a" + "()".repeat(239), "a" + ".b".repeat(239));
    }

    private static void nodes(String text, int want) {
        ScriptFront front = new ScriptFront();
        EDGE.due("parse() of " + text, Probe.parsed(front, text), want);
        EDGE.due("the last node of " + text, Edge.node(front, want - 1, 0).equals("throws"), false);
        EDGE.due("behind the last node of " + text, Edge.node(front, want, 0), "throws");
    }

    private static void numberOfNodes() {
        EDGE.sentence("how many nodes its tree has");
        nodes("", 1);
        nodes(";", 2);
        nodes("a", 3);
        nodes("a,b", 5);
        nodes("for(;;);", 6);
        nodes("try{}finally{}", 5);
        nodes("[,]", 4);
        nodes("(function(){})", 4);
        nodes(";".repeat(480), 481);
    }

    private static void throwsOnAFault() {
        EDGE.sentence("IllegalArgumentException: it has a fault");
        for (String text : FAULTY) {
            EDGE.due("parse() of " + text, thrownBy(text), IllegalArgumentException.class.getName());
        }
        EDGE.due("parse() of a", thrownBy("a"), "nothing");
        EDGE.due("parse() of the empty text", thrownBy(""), "nothing");
        EDGE.due("parse() of the full text", thrownBy(";".repeat(480)), "nothing");
    }

    private static String thrownBy(String text) {
        ScriptFront front = new ScriptFront();
        Probe.typed(front, text);
        try {
            front.parse();
            return "nothing";
        } catch (RuntimeException e) {
            return e.getClass().getName();
        }
    }

    private static void treeBeforeStays() {
        EDGE.sentence("it has a fault; the tree before stays");
        String[] befores = {"", "a\nb=c", "'use strict';function f(a){return a}", ";".repeat(480), "{1..a}".repeat(80)};
        for (String before : befores) {
            ScriptFront front = new ScriptFront();
            Probe.parsed(front, before);
            String held = Edge.held(front);
            for (String text : FAULTY) {
                Probe.parsed(front, text);
                EDGE.due("what is held behind " + text, Edge.held(front), held);
            }
            Probe.parsed(front, ";".repeat(478) + "1=");
            Probe.parsed(front, ";".repeat(474) + "break;");
            EDGE.due("what is held behind long texts", Edge.held(front), held);
            Probe.parsed(front, "x");
            EDGE.due("a text without a fault replaces it", Probe.printed(front), "x;");
        }
        ScriptFront front = new ScriptFront();
        Probe.parsed(front, "a");
        Probe.parsed(front, "b b");
        EDGE.due("again() behind a fault", front.again(), true);
        EDGE.due("parse()", Probe.parsed(front), "3");
        EDGE.due("printed", Probe.printed(front), "a;");
    }

    private static void noTreeBeforeStaysNone() {
        EDGE.sentence("it has a fault; the tree before stays");
        String none = Edge.held(new ScriptFront());
        for (String text : FAULTY) {
            ScriptFront front = new ScriptFront();
            Probe.parsed(front, text);
            EDGE.due("what is held behind " + text + " alone", Edge.held(front), none);
            EDGE.due("again() behind " + text + " alone", front.again(), false);
        }
    }
}
