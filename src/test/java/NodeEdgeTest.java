/** Promise 5, sentence by sentence, with PLACES of nodes and strict code. */
final class NodeEdgeTest {
    private static final Edge EDGE = new Edge("NodeEdgeTest");

    public static void main(String[] args) {
        firstAndLast();
        noneSuch();
        noneWithoutATree();
        numbersOfChildren();
        parents();
        placesWithLength();
        placesOfBracketsAndSigns();
        placesWithoutAName();
        placesOfFirstTokens();
        placesOfNothing();
        strictCode();
        strictFunctions();
        EDGE.end();
    }

    private static void firstAndLast() {
        EDGE.sentence("Node k of the tree, in its order, from 0 on");
        EDGE.due("a=b+c", Probe.column("a=b+c", 0), "0 5 48 31 46 31 31");
        EDGE.due("KINDS in order", Probe.column("if(a)b;else{c}", 0), "0 6 31 5 31 1 5 31");
        String[] texts = {"", ";", "a", ";".repeat(480), ";".repeat(479) + "a"};
        int[] sizes = {1, 2, 3, 481, 482};
        for (int i = 0; i < texts.length; i++) {
            ScriptFront front = new ScriptFront();
            Probe.parsed(front, texts[i]);
            for (int what = 0; what < 6; what++) {
                EDGE.due("node(0, " + what + ")", Edge.node(front, 0, what).equals("throws"), false);
                EDGE.due("the last node of " + sizes[i], Edge.node(front, sizes[i] - 1, what).equals("throws"), false);
                EDGE.due("behind the last node of " + sizes[i], Edge.node(front, sizes[i], what), "throws");
                EDGE.due("node(-1, " + what + ")", Edge.node(front, -1, what), "throws");
            }
        }
    }

    private static void noneSuch() {
        EDGE.sentence("IndexOutOfBoundsException: there is none such");
        ScriptFront front = new ScriptFront();
        Probe.parsed(front, "a");
        String before = Edge.state(front);
        int[] far = {Integer.MIN_VALUE, -2, -1, 3, 4, 511, 512, 513, Integer.MAX_VALUE};
        for (int k : far) {
            for (int what = 0; what < 6; what++) {
                EDGE.due("node(" + k + ", " + what + ")", Edge.node(front, k, what), "throws");
            }
        }
        int[] others = {Integer.MIN_VALUE, -2, -1, 6, 7, 256, Integer.MAX_VALUE};
        for (int what : others) {
            for (int k = -1; k < 4; k++) {
                EDGE.due("node(" + k + ", " + what + ")", Edge.node(front, k, what), "throws");
            }
        }
        EDGE.due("all answers behind it", Edge.state(front), before);
        Probe.parsed(front, "");
        EDGE.due("node(1, 0) behind a smaller tree", Edge.node(front, 1, 0), "throws");
        EDGE.due("node(0, 0) behind a smaller tree", Edge.node(front, 0, 0), "0");
    }

    private static void noneWithoutATree() {
        EDGE.sentence("IndexOutOfBoundsException: there is none such");
        ScriptFront front = new ScriptFront();
        EDGE.due("node(0, 0) of a new object", Edge.node(front, 0, 0), "throws");
        Probe.typed(front, "a");
        EDGE.due("node(0, 0) of a tape", Edge.node(front, 0, 0), "throws");
        Probe.parsed(front, " b");
        EDGE.due("node(0, 0) behind a fault", Edge.node(front, 0, 0), "throws");
        Probe.parsed(front, "1=a");
        EDGE.due("node(0, 0) behind a fault of the tree", Edge.node(front, 0, 0), "throws");
        Probe.parsed(front, "");
        EDGE.due("node(0, 0) of the empty text", Edge.node(front, 0, 0), "0");
    }

    private static void numbersOfChildren() {
        EDGE.sentence("3: how many children");
        EDGE.due("", Probe.column("", 3), "0");
        EDGE.due("480 ;", Probe.column(";".repeat(480), 3), "480" + " 0".repeat(480));
        EDGE.due("[ 478 , ]", Probe.column("[" + ",".repeat(478) + "]", 3), "1 1 478" + " 0".repeat(478));
        EDGE.due("a(b,c)", Probe.column("a(b,c)", 3), "1 1 3 0 0 0");
        EDGE.due("for(;;);", Probe.column("for(;;);", 3), "1 4 0 0 0 0");
        EDGE.due("a?b:c", Probe.column("a?b:c", 3), "1 1 3 0 0 0");
        EDGE.due("var a,b=c", Probe.column("var a,b=c", 3), "1 2 0 1 0");
    }

    private static void parents() {
        EDGE.sentence("4: its parent (NONE of node 0)");
        EDGE.due("", Probe.column("", 4), "-1");
        EDGE.due(";;", Probe.column(";;", 4), "-1 0 0");
        EDGE.due("a*b+c", Probe.column("a*b+c", 4), "-1 0 1 2 3 3 2");
        EDGE.due("{{{}}}", Probe.column("{{{}}}", 4), "-1 0 1 2");
        EDGE.due("480 ;", Probe.column(";".repeat(480), 4), "-1" + " 0".repeat(480));
        EDGE.due("a()()..", Probe.column("a" + "()".repeat(3), 4), "-1 0 1 2 3 4");
    }

    /** Whether node k has this KIND, place and LENGTH. */
    private static void is(String text, int k, String kindPlaceLength) {
        ScriptFront front = new ScriptFront();
        Probe.parsed(front, text);
        EDGE.due("node " + k + " of " + text, Edge.node(front, k, 0) + " " + Edge.node(front, k, 1) + " " + Edge.node(front, k, 2),
            kindPlaceLength);
    }

    private static void placesWithLength() {
        EDGE.sentence("of those with a NAME, sign, word or KEY of their own (..): that token's, with its LENGTH");
        is("var  abc=d", 2, "3 5 3");
        is(" abc :;", 1, "16 1 3");
        is("try{}catch( abc ){}", 3, "19 12 3");
        is(" function  abc(){}", 1, "20 11 3");
        is("function f(a, bcd){}", 3, "22 14 3");
        is(" abc", 2, "31 1 3");
        is(" null", 2, "32 1 4");
        is(" false", 2, "32 1 5");
        is(" 1.5e3", 2, "33 1 5");
        is(" 'a\\'b'", 2, "34 1 6");
        is(" ''", 2, "34 1 2");
        is(" /a/gim", 2, "35 1 6");
        is("({a:b, 'cd':e})", 5, "38 7 4");
        is("({ if:a})", 3, "38 3 2");
        is("( function  abc(){})", 2, "39 12 3");
        is("a . bcd", 2, "41 4 3");
        is("a\n. typeof", 2, "41 4 6");
        is("a --", 2, "44 2 2");
        is(" typeof a", 2, "45 1 6");
        is(" !a", 2, "45 1 1");
        is("a  instanceof b", 2, "46 3 10");
        is("a >>> b", 2, "46 2 3");
        is("a in b", 2, "46 2 2");
        is("a >>>= b", 2, "48 2 4");
        is("a = b", 2, "48 2 1");
        is("abc:for(;;)continue  abc", 6, "11 21 3");
        is("abc:for(;;)break  abc", 6, "12 18 3");
        is("a".repeat(480), 2, "31 0 480");
        is(";".repeat(479) + "a", 481, "31 479 1");
    }

    private static void placesOfBracketsAndSigns() {
        EDGE.sentence("of 40, 43 the bracket's, of 47 the ?, of 49 the first comma's");
        is("ab [c]", 2, "40 3 0");
        is("ab.c [d]", 2, "40 5 0");
        is("ab (c,d)", 2, "43 3 0");
        is("ab()()", 2, "43 4 0");
        is("ab()()", 3, "43 2 0");
        is("(ab ? c : d)", 2, "47 4 0");
        is("ab ,c,d", 2, "49 3 0");
        is("(ab ,c),d", 2, "49 7 0");
        is("(ab ,c),d", 3, "49 4 0");
    }

    private static void placesWithoutAName() {
        EDGE.sentence("of 39 without a name, 11, 12 without one: of their first token");
        is("( function(){})", 2, "39 2 0");
        is("a= function (b){}", 4, "39 3 0");
        is("for(;;) continue", 5, "11 8 0");
        is("for(;;) break;", 5, "12 8 0");
        is("a:for(;;){ break\na}", 7, "12 11 0");
        is("a:for(;;){ continue\na}", 7, "11 11 0");
    }

    private static void placesOfFirstTokens() {
        EDGE.sentence("of all others of the first token (of 0 and 21: 0); LENGTH 0 of all these");
        is(" {}", 1, "1 1 0");
        is(" var a", 1, "2 1 0");
        is(" ;", 1, "4 1 0");
        is(" a", 1, "5 1 0");
        is(" (a)", 1, "5 1 0");
        is(" ((a),b)", 1, "5 1 0");
        is(" a+b", 1, "5 1 0");
        is(" if(a);", 1, "6 1 0");
        is(" do;while(a)", 1, "7 1 0");
        is(" while(a);", 1, "8 1 0");
        is(" for(;;);", 1, "9 1 0");
        is(" for(a in b);", 1, "10 1 0");
        is(" for( var a in b);", 2, "2 6 0");
        is("function f(){ return a}", 3, "13 14 0");
        is(" switch(a){}", 1, "14 1 0");
        is("switch(a){ case b:}", 3, "15 11 0");
        is("switch(a){ default:}", 3, "15 11 0");
        is(" throw a", 1, "17 1 0");
        is(" try{}finally{}", 1, "18 1 0");
        is("try {}finally{}", 2, "1 4 0");
        is("try{}finally {}", 4, "1 13 0");
        is("try{}catch(a) {}", 4, "1 14 0");
        is("function f() {}", 2, "23 13 0");
        is(" this", 2, "30 1 0");
        is(" [a]", 2, "36 1 0");
        is("( {a:b})", 2, "37 2 0");
        is(" new a.b", 2, "42 1 0");
        is("-new a", 3, "42 1 0");
    }

    private static void placesOfNothing() {
        EDGE.sentence("(of 0 and 21: 0)");
        is("", 0, "0 0 0");
        is(" \n a", 0, "0 0 0");
        is(" [,a]", 3, "21 0 0");
        is(" for(;;);", 2, "21 0 0");
        is(" for(;;);", 4, "21 0 0");
        is(" try{}finally{}", 3, "21 0 0");
        is(" try{}catch(a){}", 5, "21 0 0");
        is(" switch(a){default:}", 4, "21 0 0");
    }

    private static void strict(String text, String want) {
        EDGE.due("strict code of " + text, Probe.column(text, 5), want);
    }

    private static void strictCode() {
        EDGE.sentence("5: 1 if it is in strict code");
        strict("", "0");
        strict("a", "0 0 0");
        strict("'use strict'", "1 1 1");
        strict("\"use strict\";a", "1 1 1 1 1");
        strict("'a';'use strict';b", "1 1 1 1 1 1 1");
        strict("a;'use strict'", "0 0 0 0 0");
        strict("('use strict')", "0 0 0");
        strict("'use strict'+a", "0 0 0 0 0");
        strict("{'use strict'}", "0 0 0 0");
        strict("'use strict';{[,]}", "1 1 1 1 1 1 1");
    }

    private static void strictFunctions() {
        EDGE.sentence("(20 and 39: the code around them; 22 and 23: the body)");
        strict("function f(a){'use strict'}", "0 0 1 1 1 1");
        strict("function f(a){}", "0 0 0 0");
        strict("function f(){'use strict'}a", "0 0 1 1 1 0 0");
        strict("(function(a,b){'use strict'})", "0 0 0 1 1 1 1 1");
        strict("(function(a,b){})", "0 0 0 0 0 0");
        strict("'use strict';function f(a){}", "1 1 1 1 1 1");
        strict("'use strict';(function(a){})", "1 1 1 1 1 1 1");
        strict("function f(){'use strict';function g(a){}}", "0 0 1 1 1 1 1 1");
        strict("function f(){function g(a){'use strict'}b}", "0 0 0 0 1 1 1 1 0 0");
        strict("function f(a){b;'use strict'}", "0 0 0 0 0 0 0 0");
    }
}
