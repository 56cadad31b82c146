/** Promise 4, its own sentences, and FAULTS up to the first one of 1 to 3. DeepEdgeTest and TreeFaultEdgeTest have the others. */
final class FaultEdgeTest {
    private static final Edge EDGE = new Edge("FaultEdgeTest");

    public static void main(String[] args) {
        faultOfTheLatest();
        placeOfIt();
        semicolonsWithFaults();
        otherNumbers();
        onlyParseChangesIt();
        placesOfTokens();
        placesOfSyntax();
        endOfTheText();
        firstAsTokensAreRead();
        firstOfTheTextAheadOfTheTree();
        EDGE.end();
    }

    private static void latest(ScriptFront front, String text, int fault, int place, int semicolons) {
        Probe.parsed(front, text);
        EDGE.due("faults of " + text, front.fault(0) + " " + front.fault(1) + " " + front.fault(2), fault + " " + place + " " + semicolons);
    }

    private static void faultOfTheLatest() {
        EDGE.sentence("What 0: the fault of the latest parse() (0 for none)");
        ScriptFront front = new ScriptFront();
        latest(front, "", 0, -1, 0);
        latest(front, "#", 1, 0, 0);
        latest(front, "a", 0, -1, 1);
        latest(front, "(", 2, 1, 0);
        latest(front, "", 0, -1, 0);
        latest(front, "(".repeat(20), 3, 19, 0);
        latest(front, ";", 0, -1, 0);
        latest(front, "1=a", 4, 1, 1);
        latest(front, "a\nb", 0, -1, 2);
        latest(front, "'use strict';delete a;", 5, 13, 0);
        latest(front, "a;", 0, -1, 0);
        latest(front, "return;", 6, 0, 0);
        latest(front, "{a}", 0, -1, 1);
        latest(front, "return", 6, 0, 1);
        latest(front, "1=a;", 4, 1, 0);
        latest(front, "a b", 2, 2, 0);
        latest(front, " #", 1, 1, 0);
    }

    private static void placeOfIt() {
        EDGE.sentence("1: its place (NONE without one)");
        ScriptFront front = new ScriptFront();
        EDGE.due("fault(1) of a new object", front.fault(1), ScriptFront.NONE);
        latest(front, "a", 0, -1, 1);
        latest(front, "#", 1, 0, 0);
        latest(front, ")", 2, 0, 0);
        latest(front, "++1;", 4, 0, 0);
        latest(front, ";".repeat(479) + "(", 2, 480, 0);
        latest(front, ";".repeat(480), 0, -1, 0);
    }

    private static void semicolonsWithFaults() {
        EDGE.sentence("how many semicolons it put in (also of a text with a fault 4 to 6; 0 with 1 to 3)");
        ScriptFront front = new ScriptFront();
        latest(front, "a\nb\nc", 0, -1, 3);
        latest(front, "a\nb\nc#", 1, 5, 0);
        latest(front, "a\nb\nc d", 2, 6, 0);
        latest(front, "a\nb\n" + "(".repeat(20), 3, 23, 0);
        latest(front, "a\nb\n1=c\nd", 4, 5, 4);
        latest(front, "'use strict'\ndelete a\nb", 5, 13, 3);
        latest(front, "a\nbreak\nb", 6, 2, 3);
        latest(front, "1=a\nb c", 2, 6, 0);
        latest(front, "1=a;", 4, 1, 0);
        latest(front, "break;", 6, 0, 0);
        latest(front, "a\n".repeat(239) + "#", 1, 478, 0);
        latest(front, "a\n".repeat(240), 0, -1, 240);
        latest(front, "{a}".repeat(160), 0, -1, 160);
        latest(front, "a\n".repeat(237) + "break", 6, 474, 238);
    }

    private static void otherNumbers() {
        EDGE.sentence("NONE for another what");
        int[] others = {-1, 3, 4, 5, 6, -2, 256, Integer.MAX_VALUE, Integer.MIN_VALUE};
        String[] texts = {"", "a\nb", "#", "(", "(".repeat(20), "1=a", "'use strict';delete a", "break"};
        for (String text : texts) {
            ScriptFront front = new ScriptFront();
            Probe.parsed(front, text);
            for (int what : others) {
                EDGE.due("fault(" + what + ") behind " + text, front.fault(what), ScriptFront.NONE);
            }
            EDGE.due("fault(0) behind " + text, front.fault(0) != ScriptFront.NONE, true);
            EDGE.due("fault(2) behind " + text, front.fault(2) != ScriptFront.NONE, true);
        }
    }

    private static void onlyParseChangesIt() {
        EDGE.sentence("the fault of the latest parse()");
        ScriptFront front = new ScriptFront();
        Probe.parsed(front, "a\nb");
        latest(front, "c\nbreak", 6, 2, 2);
        front.type('#', 1);
        front.type(0, 1);
        front.again();
        Edge.held(front);
        Edge.node(front, -1, 0);
        EDGE.due("faults behind other calls", front.fault(0) + " " + front.fault(1) + " " + front.fault(2), "6 2 2");
        latest(front, "", 0, -1, 0);
    }

    private static void placesOfTokens() {
        EDGE.sentence("1 TOKEN: the place where the first token begins that is none");
        EDGE.wrong(1, 0, "#", "'a", "/a", "/*a", "1a", "01", "0x", "1e", "\"\n\"", "/a/gg");
        EDGE.wrong(1, 2, " \t#", "a='b", "a=/b", "a;/*", "a=1b", "a=01", "a=0x", "a=1e");
        EDGE.wrong(1, 6, "/*#*/ #", "'#' + @", "//##\n\t\\");
        EDGE.wrong(1, 2, "a # @ `");
    }

    private static void placesOfSyntax() {
        EDGE.sentence("2 SYNTAX: the first token that can't stand there");
        EDGE.wrong(2, 0, ")", "]", "}", ",", ":", "?", ".", "=", "*", "in", "else", "case", "catch", "finally", "default", "instanceof");
        EDGE.wrong(2, 2, "a b", "a ]", "a 'b'", "a }", "a ~b");
        EDGE.wrong(2, 1, "a]", "a)", "a}");
        EDGE.wrong(2, 4, "a\n  )", "(a  b)");
        EDGE.wrong(2, 2, "a b c d", "a b )");
    }

    private static void endOfTheText() {
        EDGE.sentence("the text's length, if the text ends too early");
        String[] early = {
            "(", "[", "{", "a(", "a[", "a.", "a,", "a=", "a+", "a?", "a?b", "a?b:", "!", "new", "typeof", "({", "({a", "({a:", "({a:b",
            "var", "var a,", "var a=", "if", "if(",
            "if(a", "if(a)", "if(a);else", "do", "do;", "do;while", "do;while(", "do;while(a", "while", "while(", "while(a", "while(a)",
            "for", "for(", "for(;", "for(;;",
            "for(;;)", "for(a", "for(a in", "for(a in b", "for(a in b)", "for(var", "for(var a", "switch", "switch(", "switch(a",
            "switch(a)", "switch(a){", "switch(a){case",
            "switch(a){case b", "switch(a){case b:", "switch(a){default", "switch(a){default:", "a:", "throw", "try", "try{", "try{}",
            "try{}catch", "try{}catch(", "try{}catch(a",
            "try{}catch(a)", "try{}catch(a){", "try{}finally", "try{}finally{", "function", "function f", "function f(", "function f(a",
            "function f(a,", "function f()",
            "function f(){", "(function", "(function(", "(function()", "(function(){", "(function(){}", "(function(){return", "a\n++",
            "a in", "a instanceof", "x" + ".y".repeat(200) + "["
        };
        for (String text : early) {
            EDGE.wrong(2, text.length(), text);
            EDGE.wrong(2, text.length() + 1, text + " ", text + "\n");
            EDGE.wrong(2, text.length() + 4, text + "/**/", text + " //b");
        }
        EDGE.fine("a", "a ", "a\n", "a//", "if(a);", "do;while(a)", "function f(){}", "try{}finally{}", "var a", "throw a");
    }

    private static void firstAsTokensAreRead() {
        EDGE.sentence("The first one of 1 to 3, as tokens are read");
        EDGE.wrong(2, 2, "a b #", "a b#", "a b '", "a b" + "(".repeat(20), "a b c");
        EDGE.wrong(1, 2, "a # b c", "a '\n", "a @" + "(".repeat(20));
        EDGE.wrong(3, 19, "(".repeat(20) + "#", "(".repeat(20) + ")", "(".repeat(19) + "a#", "(".repeat(19) + "a b");
        EDGE.wrong(2, 1, "()" + "(".repeat(20), "()#");
        EDGE.wrong(1, 0, "#" + "(".repeat(20), "#)");
        EDGE.wrong(2, 8, "for(a,b in #", "for(a=b in '", "for(a+b in " + "(".repeat(20));
        EDGE.wrong(2, 3, "a+b=#", "a+b='", "a++=#");
        EDGE.wrong(2, 5, "try{}a#", "try{};#");
        EDGE.wrong(2, 4, "var 1#", "new -#", "var if#");
        EDGE.wrong(2, 2, "a.'b'#", "a.;#");
        EDGE.wrong(1, 5, "a;b;c#");
        EDGE.sentence("at one token 1 ahead of 3, this ahead of 2");
        EDGE.wrong(1, 19, "(".repeat(19) + "#", "(".repeat(19) + "/a", "(".repeat(19) + "'", "(".repeat(19) + "01", "(".repeat(19) + "/*");
        EDGE.wrong(3, 19, "(".repeat(19) + ")", "(".repeat(19) + "]", "(".repeat(19) + "in", "(".repeat(19) + "/a/", "(".repeat(19) + "a");
        EDGE.wrong(2, 18, "(".repeat(18) + ")", "(".repeat(18) + "]", "(".repeat(18) + "in");
        EDGE.wrong(1, 18, "(".repeat(18) + "#", "(".repeat(18) + "/a");
        EDGE.wrong(3, 20, "{".repeat(20) + "function", "{".repeat(20) + "else", "{".repeat(20) + ")");
        EDGE.wrong(2, 19, "{".repeat(19) + "function");
        EDGE.wrong(1, 20, "{".repeat(20) + "#");
        EDGE.fine("{".repeat(20) + "}".repeat(20));
        EDGE.wrong(3, 25, "{".repeat(19) + "throw\na" + "}".repeat(19));
        EDGE.wrong(2, 24, "{".repeat(18) + "throw\na" + "}".repeat(18));
    }

    private static void firstOfTheTextAheadOfTheTree() {
        EDGE.sentence("Then, if there is none of these, the first one in the order of the tree");
        EDGE.wrong(1, 4, "1=a;#", "1=a\n'");
        EDGE.wrong(2, 4, "1=a;)", "1=a b", "1=a;]");
        EDGE.wrong(3, 23, "1=a;" + "(".repeat(20));
        EDGE.wrong(4, 1, "1=a;b", "1=a;2=b", "1=a;break");
        EDGE.wrong(1, 6, "break;#");
        EDGE.wrong(2, 6, "break;)");
        EDGE.wrong(2, 22, "'use strict';delete a;)");
        EDGE.wrong(6, 0, "break;1=a");
    }
}
