/** Promise 4, fault 3: what begins within 19 others and within 20 others, for each thing that is counted and for those that are not. */
final class DeepEdgeTest {
    private static final Edge EDGE = new Edge("DeepEdgeTest");

    public static void main(String[] args) {
        statements();
        everyX();
        operandsOfSigns();
        operandsOfNew();
        bodies();
        statementsOfOthers();
        thingsOfTheSameDepth();
        thingsThatAreNotCounted();
        EDGE.end();
    }

    private static String within(int blocks, String text) {
        return "{".repeat(blocks) + text + "}".repeat(blocks);
    }

    /**
     * The token behind ahead begins within level others of the text alone: with blocks around it within 19
     * and within 20. There a token that is none goes ahead of depth, depth ahead of a token that can't stand
     * there, and where the text ends nothing begins.
     */
    private static void begins(int level, String ahead, String token, String behind) {
        begins(level, ahead, token, behind, "*");
    }

    /** A function can't stand there either, but it does not ask for an x, which would be one deeper. */
    private static void statementBegins(int level, String ahead, String token, String behind) {
        begins(level, ahead, token, behind, "function");
    }

    private static void begins(int level, String ahead, String token, String behind, String misplaced) {
        int last = 19 - level;
        int place = last + ahead.length();
        EDGE.sentence("would begin within 20 others of these");
        EDGE.fine(within(last, ahead + token + behind));
        EDGE.wrong(3, place + 1, within(last + 1, ahead + token + behind));
        EDGE.sentence("at one token 1 ahead of 3, this ahead of 2");
        EDGE.wrong(1, place, within(last, ahead + "#"));
        EDGE.wrong(1, place + 1, within(last + 1, ahead + "#"));
        EDGE.wrong(2, place, within(last, ahead + misplaced + " " + behind));
        EDGE.wrong(3, place + 1, within(last + 1, ahead + misplaced + " " + behind));
        EDGE.sentence("the text's length, if the text ends too early");
        EDGE.wrong(2, place, "{".repeat(last) + ahead);
        EDGE.wrong(2, place + 1, "{".repeat(last + 1) + ahead);
    }

    private static void statements() {
        statementBegins(1, "{", ";", "}");
        statementBegins(1, "do ", ";", "while(a)");
        statementBegins(1, "for(;;)", ";", "");
        statementBegins(1, "for(;;)", "break", "");
        statementBegins(1, "a:", ";", "");
        statementBegins(2, "a:b:", ";", "");
        statementBegins(1, "try{", ";", "}finally{}");
        statementBegins(1, "try{}catch(a){", ";", "}");
        statementBegins(1, "try{}finally{", ";", "}");
        statementBegins(1, "try{}catch(a){}finally{", ";", "}");
        statementBegins(3, "do if(a){", ";", "}while(b)");
    }

    private static void everyX() {
        begins(1, "", "a", "");
        begins(1, "var a=", "b", "");
        begins(1, "var a,b=", "c", "");
        begins(1, "if(", "a", ");");
        begins(1, "while(", "a", ");");
        begins(1, "switch(", "a", "){}");
        begins(1, "throw ", "a", "");
        begins(1, "for(", "a", ";;);");
        begins(1, "for(", "a", " in b);");
        begins(1, "for(;", "a", ";);");
        begins(1, "for(;;", "a", ");");
        begins(1, "for(var a=", "b", ";;);");
        begins(1, "for(var a=", "b", " in c);");
        begins(1, "for(var a in ", "b", ");");
        begins(5, "a=function(){return ", "b", "}");
        begins(2, "(", "a", ")");
        begins(3, "((", "a", "))");
        begins(2, "[", "a", "]");
        begins(2, "[,", "a", "]");
        begins(2, "a(", "b", ")");
        begins(2, "a[", "b", "]");
        begins(2, "a.b[", "c", "]");
        begins(2, "a=", "b", "");
        begins(2, "a/=", "b", "");
        begins(3, "a=b=", "c", "");
        begins(2, "a?", "b", ":c");
        begins(3, "a={b:", "c", "}");
        begins(3, "a=[", "b", "]");
        begins(2, "1+(", "a", ")");
        begins(3, "new a[", "b", "]");
    }

    private static void operandsOfSigns() {
        for (String sign : "delete ,void ,typeof ,++,--,+,-,~,!".split(",")) {
            begins(2, sign, "a", "");
            begins(3, "~" + sign, "a", "");
            begins(2, "b*" + sign, "a", "");
            begins(4, "!(" + sign, "a", ")");
        }
    }

    private static void operandsOfNew() {
        begins(2, "new ", "a", "");
        begins(3, "new new ", "a", "");
        begins(3, "!new ", "a", "");
        begins(2, "b+new ", "a", "()");
    }

    private static void bodies() {
        EDGE.sentence("a body begins with its { alone");
        EDGE.fine(within(16, "a=function(){}"));
        EDGE.wrong(3, 29, within(17, "a=function(){}"));
        EDGE.wrong(2, 28, within(16, "a=function()*"), within(16, "a=function();"));
        EDGE.wrong(2, 29, within(17, "a=function()*"), within(17, "a=function();"), "{".repeat(17) + "a=function()");
        EDGE.wrong(1, 29, within(17, "a=function()#"));
        EDGE.wrong(2, 28, within(17, "a=function(*){}"), within(17, "a=function("));
        EDGE.fine("function f(){".repeat(10) + "}".repeat(10));
        EDGE.wrong(3, 130, "function f(){".repeat(10) + ";" + "}".repeat(10));
        EDGE.wrong(3, 130, "function f(){".repeat(11) + "}".repeat(11));
        EDGE.fine("function f(){".repeat(9) + "{;}" + "}".repeat(9));
        EDGE.wrong(3, 119, "function f(){".repeat(9) + "{{;}}" + "}".repeat(9));
        EDGE.fine("function f(){".repeat(9) + "function g(a,b){}" + "}".repeat(9));
        EDGE.fine(within(15, "a=function(){;}"));
        EDGE.wrong(3, 29, within(16, "a=function(){;}"));
        EDGE.fine(within(14, "a=function(){b}"));
        EDGE.wrong(3, 28, within(15, "a=function(){b}"));
    }

    /** The x ahead of such a statement stands within as many others as the statement, so its own depth shows one level deeper. */
    private static void statementsOfOthers() {
        EDGE.sentence("3 DEEP: the token with which a statement, an x, an operand of a sign ahead of it or of new, a body would begin");
        String[] heads = {"if(a)", "if(a);else ", "while(a)", "for(a in b)", "for(;;)", "for(a;b;c)", "c:"};
        for (String head : heads) {
            EDGE.fine(within(18, head + ";"), within(17, head + "{;}"), within(16, head + "{{;}}"), within(17, head + "a"));
            EDGE.wrong(3, 18 + head.length() + 1, within(18, head + "{;}"));
            EDGE.wrong(3, 18 + head.length(), within(18, head + "a"));
        }
        EDGE.fine(within(18, "switch(a){case b:;}"), within(17, "switch(a){case b:{;}}"), within(18, "switch(a){case b:default:;}"));
        EDGE.wrong(3, 36, within(18, "switch(a){case b:{;}}"));
        EDGE.wrong(3, 26, within(19, "switch(a){case b:;}"));
    }

    private static void thingsOfTheSameDepth() {
        EDGE.sentence("within 20 others of these");
        EDGE.fine(within(18, "a,b,c"), within(18, "a+b*c"), within(18, "a.b.c"), within(17, "a(b,c)(d)[e]"), within(17, "[a,b,,c]"),
            within(17, "new a(b)"));
        EDGE.fine(within(17, "a?b:c"), within(17, "a=b"), within(16, "a={b:c,d:e}"), within(17, "(a,b)"), within(18, "a++"), within(17,
            "++a"));
        EDGE.wrong(3, 20, within(18, "a?b:c"), within(18, "a=b"));
        EDGE.wrong(3, 20, within(18, "a(b,c)"), within(18, "a[e]"));
        EDGE.wrong(3, 19, within(18, "[a,b]"), within(18, "(a)"), within(18, "!a"), within(19, "a"));
        EDGE.wrong(3, 22, within(18, "new a"));
        EDGE.wrong(3, 21, within(17, "a=b=c"));
        EDGE.fine(within(19, ";"), within(19, "{}"), within(19, "var a,b"), within(19, "try{}finally{}"), within(20, ""));
        EDGE.fine("a:for(;;)" + within(17, "break a;"), "a:for(;;)" + within(17, "continue"));
    }

    private static void thingsThatAreNotCounted() {
        EDGE.sentence("within 20 others of these");
        EDGE.fine("a" + "+b".repeat(239), "a" + ".b".repeat(239), "a" + "[0]".repeat(159), "a" + "(b)".repeat(159), "a" + ",b".repeat(239));
        EDGE.fine("a:;".repeat(160), "{}".repeat(240), "(a);".repeat(120), "!a;".repeat(160), "new a;".repeat(80),
            "var a" + ",b=c".repeat(100));
        EDGE.fine("a||b&&c|d^e&f==g<h<<i+j*k;".repeat(18), "[" + "[],".repeat(150) + "]", "switch(a){" + "case b:".repeat(60) + "}");
        EDGE.fine("function f(){}".repeat(34), "if(a);else{}".repeat(40), "try{}catch(a){}".repeat(32), "a?b:c,".repeat(79) + "d",
            "a=b,".repeat(119) + "d");
        EDGE.fine(within(17, "a(" + "b,".repeat(200) + "c)"), within(18, "a" + "+b".repeat(200)));
        EDGE.sentence("within 20 others of these");
        EDGE.fine("(".repeat(18) + "a" + ")".repeat(18), "[".repeat(19) + "]".repeat(19), "!".repeat(18) + "a", "new ".repeat(18) + "a",
            "a=".repeat(18) + "b");
        EDGE.wrong(3, 19, "(".repeat(19) + "a" + ")".repeat(19), "[".repeat(20) + "]".repeat(20), "!".repeat(19) + "a", "(".repeat(480),
            "!".repeat(480));
        EDGE.wrong(3, 76, "new ".repeat(19) + "a");
        EDGE.wrong(3, 38, "a=".repeat(19) + "b");
        EDGE.wrong(3, 20, "{".repeat(21), "{".repeat(480));
        EDGE.wrong(3, 40, "a:".repeat(20) + ";", "b:".repeat(240));
    }
}
