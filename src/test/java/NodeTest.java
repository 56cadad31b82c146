/** Promise 5: node, with kinds, places, lengths, children, parents and strict code. */
final class NodeTest {
    private static final Probe PROBE = new Probe("NodeTest");

    public static void main(String[] args) {
        wrongNumbers();
        placesAndLengths();
        childrenAndParents();
        strictCode();
        staysWithAFault();
        PROBE.end();
    }

    private static void column(String text, int what, String want) {
        PROBE.due(text + " what " + what, Probe.column(text, what), want);
    }

    private static String node(ScriptFront front, int k, int what) {
        try {
            return String.valueOf(front.node(k, what));
        } catch (IndexOutOfBoundsException e) {
            return "throws";
        }
    }

    private static void wrongNumbers() {
        ScriptFront front = new ScriptFront();
        PROBE.due("node(0, 0) without a tree", node(front, 0, 0), "throws");
        Probe.parsed(front, "a b");
        PROBE.due("node(0, 0) behind a fault alone", node(front, 0, 0), "throws");
        Probe.parsed(front, "a");
        int[] wrong = {-1, 3, 4, 512, Integer.MAX_VALUE, Integer.MIN_VALUE};
        for (int k : wrong) {
            for (int what = 0; what < 6; what++) {
                PROBE.due("node(" + k + ", " + what + ")", node(front, k, what), "throws");
            }
        }
        int[] wrongWhat = {-1, 6, Integer.MAX_VALUE, Integer.MIN_VALUE};
        for (int what : wrongWhat) {
            PROBE.due("node(2, " + what + ")", node(front, 2, what), "throws");
        }
        PROBE.due("node(2, 0)", node(front, 2, 0), "31");
    }

    /** Places are told with their lengths, "place+length" for each node. */
    private static void places(String text, String want) {
        String[] places = Probe.column(text, 1).split(" ");
        String[] lengths = Probe.column(text, 2).split(" ");
        StringBuilder told = new StringBuilder();
        for (int i = 0; i < places.length; i++) {
            told.append(i == 0 ? "" : " ").append(places[i]).append('+').append(i < lengths.length ? lengths[i] : "");
        }
        PROBE.due("places of " + text, told, want);
    }

    private static void placesAndLengths() {
        places("", "0+0");
        places(" ab", "0+0 1+0 1+2");
        places(" (ab)", "0+0 1+0 2+2");
        places(" {;}", "0+0 1+0 2+0");
        places(" var ab,c =d", "0+0 1+0 5+2 8+1 11+1");
        places("if(a)b;else c", "0+0 0+0 3+1 5+0 5+1 12+0 12+1");
        places(" do;while(ab)", "0+0 1+0 3+0 10+2");
        places(" while(a);", "0+0 1+0 7+1 9+0");
        places(" for(;;);", "0+0 1+0 0+0 0+0 0+0 8+0");
        places(" for(var a in b);", "0+0 1+0 5+0 9+1 14+1 16+0");
        places(";for(;;)continue", "0+0 0+0 1+0 0+0 0+0 0+0 8+0");
        places("ab:for(;;)continue ab", "0+0 0+2 3+0 0+0 0+0 0+0 19+2");
        places("ab:for(;;)break  ab", "0+0 0+2 3+0 0+0 0+0 0+0 17+2");
        places("(function(){ return a})", "0+0 0+0 1+0 11+0 13+0 20+1");
        places(" switch(a){case b:c; default:}", "0+0 1+0 8+1 11+0 16+1 18+0 18+1 21+0 0+0");
        places(" throw ab", "0+0 1+0 7+2");
        places("try{}catch(ab){}", "0+0 0+0 3+0 11+2 14+0 0+0");
        places("try{}finally{}", "0+0 0+0 3+0 0+0 12+0");
        places("function ab(c,de){}", "0+0 9+2 12+1 14+2 17+0");
        places("(function ab(c){})", "0+0 0+0 10+2 13+1 15+0");
        places("a=function(){}", "0+0 0+0 1+1 0+1 2+0 12+0");
        places(" this", "0+0 1+0 1+0");
        places(" null", "0+0 1+0 1+4");
        places(" true+false", "0+0 1+0 5+1 1+4 6+5");
        places(" 1.5e3", "0+0 1+0 1+5");
        places(" 'a\\'b'", "0+0 1+0 1+6");
        places(" /a/gi", "0+0 1+0 1+5");
        places(" [a,,b]", "0+0 1+0 1+0 2+1 0+0 5+1");
        places("({ab:c, 'de':f})", "0+0 0+0 1+0 2+2 5+1 8+4 13+1");
        places("a[ b]", "0+0 0+0 1+0 0+1 3+1");
        places("a. bc", "0+0 0+0 3+2 0+1");
        places(" new a(b)", "0+0 1+0 1+0 5+1 7+1");
        places("ab (c)", "0+0 0+0 3+0 0+2 4+1");
        places("a ++", "0+0 0+0 2+2 0+1");
        places(" typeof a", "0+0 1+0 1+6 8+1");
        places("--a", "0+0 0+0 0+2 2+1");
        places("a instanceof b", "0+0 0+0 2+10 0+1 13+1");
        places("a>>>b*c", "0+0 0+0 1+3 0+1 5+1 4+1 6+1");
        places("a ? b:c", "0+0 0+0 2+0 0+1 4+1 6+1");
        places("a >>>= b", "0+0 0+0 2+4 0+1 7+1");
        places("a ,b,c", "0+0 0+0 2+0 0+1 3+1 5+1");
        places("/*x*/a//y\n;b", "0+0 5+0 5+1 11+0 11+1");
    }

    private static void childrenAndParents() {
        column("a=b+c*d;", 0, "0 5 48 31 46 31 46 31 31");
        column("a=b+c*d;", 3, "1 1 2 0 2 0 2 0 0");
        column("a=b+c*d;", 4, "-1 0 1 2 2 4 4 6 6");
        column("a*b+c", 4, "-1 0 1 2 3 3 2");
        column("if(a)b;else{c}d", 4, "-1 0 1 1 3 1 5 6 0 8");
        column("for(;;){}", 3, "1 4 0 0 0 0");
        column("f(a,b)", 3, "1 1 3 0 0 0");
        column("try{}catch(e){}", 4, "-1 0 1 1 3 1");
        column("", 3, "0");
        column("", 4, "-1");
        column(";".repeat(480), 4, "-1" + " 0".repeat(480));
    }

    private static void strictCode() {
        column("a", 5, "0 0 0");
        column("'use strict';a", 5, "1 1 1 1 1");
        column("a;'use strict'", 5, "0 0 0 0 0");
        column("('use strict');a", 5, "0 0 0 0 0");
        column("'a';\"use strict\"", 5, "1 1 1 1 1");
        column("function f(a){'use strict'}b", 5, "0 0 1 1 1 1 0 0");
        column("(function f(a){'use strict'})", 5, "0 0 0 1 1 1 1");
        column("function f(a){b}", 5, "0 0 0 0 0 0");
        column("'use strict';function f(a){b}", 5, "1 1 1 1 1 1 1 1");
        column("function f(){'use strict';(function(c){})}", 5, "0 0 1 1 1 1 1 1 1");
        column("function f(){(function(c){'use strict'});d}", 5, "0 0 0 0 0 1 1 1 1 0 0");
        column("function f(){{'use strict'}a}", 5, "0 0 0 0 0 0 0 0");
    }

    private static void staysWithAFault() {
        ScriptFront front = new ScriptFront();
        Probe.parsed(front, "a=1");
        String before = Probe.tree(front, 0) + Probe.tree(front, 1) + Probe.printed(front);
        String[] wrong = {"#", "(", "(".repeat(30), "1=2", "'use strict';delete a", "break", "b\nreturn\nc+d"};
        for (String text : wrong) {
            PROBE.due(text, Probe.parsed(front, text).startsWith("fault"), true);
            PROBE.due("tree behind " + text, Probe.tree(front, 0) + Probe.tree(front, 1) + Probe.printed(front), before);
            PROBE.due("many(31) behind " + text, front.many(31), 1);
        }
        PROBE.due("the tape is empty behind a fault", Probe.parsed(front), "1");
        PROBE.due("tree of the empty text", Probe.tree(front, 0), "0");
    }
}
