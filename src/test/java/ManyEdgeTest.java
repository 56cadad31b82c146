/** Promise 6, by its sentence. */
final class ManyEdgeTest {
    private static final Edge EDGE = new Edge("ManyEdgeTest");
    private static final int[] NO_KINDS = {Integer.MIN_VALUE, -2, -1, 24, 25, 29, 50, 51, 256, 480, Integer.MAX_VALUE};

    public static void main(String[] args) {
        EDGE.sentence("How many nodes of a KIND the tree has");
        noTree();
        kindsOfWhichThereIsNone();
        eachKind();
        fullTrees();
        staysWithAFault();
        EDGE.end();
    }

    private static void noTree() {
        ScriptFront front = new ScriptFront();
        for (int kind = -1; kind <= 50; kind++) {
            EDGE.due("many(" + kind + ") without a tree", front.many(kind), 0);
        }
        Probe.parsed(front, "a b");
        EDGE.due("many(0) behind a fault alone", front.many(0), 0);
        Probe.parsed(front, "1=a");
        EDGE.due("many(31) behind a fault of the tree alone", front.many(31), 0);
        Probe.parsed(front, "");
        EDGE.due("many(0) of the empty text", front.many(0), 1);
        for (int kind = 1; kind <= 50; kind++) {
            EDGE.due("many(" + kind + ") of the empty text", front.many(kind), 0);
        }
    }

    private static void kindsOfWhichThereIsNone() {
        ScriptFront front = new ScriptFront();
        Probe.parsed(front, "a=function(b){return[1,,'c']}");
        for (int kind : NO_KINDS) {
            EDGE.due("many(" + kind + ")", front.many(kind), 0);
        }
        int[] kinds = {0, 5, 48, 31, 39, 22, 23, 13, 36, 33, 21, 34};
        for (int kind = 0; kind < 50; kind++) {
            int due = 0;
            for (int one : kinds) {
                due += one == kind ? 1 : 0;
            }
            EDGE.due("many(" + kind + ")", front.many(kind), due);
        }
    }

    /** Each KIND with a text that has two nodes of it. */
    private static void eachKind() {
        String[] texts = {
            "1 {}{}", "2 var a;var b", "3 var a,b", "4 ;;", "5 a;b", "6 if(a)if(b);", "7 do do;while(a);while(b)", "8 while(a)while(b);",
            "9 for(;;)for(;;);",
            "10 for(a in b)for(c in d);", "11 for(;;){continue;continue}", "12 for(;;){break;break}", "13 function f(){return;return}",
            "14 switch(a){}switch(b){}",
            "15 switch(a){case b:default:}", "16 a:b:;", "17 throw a;throw b", "18 try{}finally{}try{}finally{}",
            "19 try{}catch(a){}try{}catch(b){}",
            "20 function f(){}function g(){}", "21 [,,]", "22 function f(a,b){}", "23 function f(){}function g(){}", "30 this+this",
            "31 a+b", "32 null+true", "33 1+2",
            "34 'a'+'b'", "35 /a/+/b/", "36 [[]]", "37 ({a:{}})", "38 ({a:1,b:2})", "39 (function(){}+function(){})", "40 a[b[c]]",
            "41 a.b.c", "42 new new a", "43 a(b())",
            "44 a++ +b++", "45 - -a", "46 a+b+c", "47 a?b:c?d:e", "48 a=b=c", "49 a,(b,c)"
        };
        for (String text : texts) {
            int blank = text.indexOf(' ');
            int kind = Integer.parseInt(text.substring(0, blank));
            ScriptFront front = new ScriptFront();
            Probe.parsed(front, text.substring(blank + 1));
            EDGE.due("many(" + kind + ") of " + text, front.many(kind), 2);
            EDGE.due("many(0) of " + text, front.many(0), 1);
        }
    }

    private static void fullTrees() {
        ScriptFront front = new ScriptFront();
        Probe.parsed(front, ";".repeat(480));
        EDGE.due("many(4) of 480 ;", front.many(4), 480);
        Probe.parsed(front, "[" + ",".repeat(478) + "]");
        EDGE.due("many(21) of 478 ,", front.many(21), 478);
        EDGE.due("many(4) behind it", front.many(4), 0);
    }

    private static void staysWithAFault() {
        ScriptFront front = new ScriptFront();
        Probe.parsed(front, "a;b;c");
        Probe.parsed(front, "d;e)");
        EDGE.due("many(31) behind a fault", front.many(31), 3);
        Probe.parsed(front, "1=d");
        EDGE.due("many(31) behind a fault of the tree", front.many(31), 3);
        EDGE.due("many(48) behind a fault of the tree", front.many(48), 0);
        Probe.parsed(front, "d");
        EDGE.due("many(31) of the next tree", front.many(31), 1);
    }
}
