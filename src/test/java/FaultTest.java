/** Promises 3 and 4: faults 3 to 6, which fault is the first one, and how many semicolons were put in. */
final class FaultTest {
    private static final Probe PROBE = new Probe("FaultTest");

    public static void main(String[] args) {
        answersOfFault();
        semicolons();
        depth();
        endWithinOthers();
        firstOfTokenSyntaxDepth();
        targets();
        strictCode();
        jumps();
        firstInTheTree();
        PROBE.end();
    }

    private static void fine(String... texts) {
        for (String text : texts) {
            PROBE.due(text, Probe.outcome(text), "fine");
        }
    }

    private static void wrong(int fault, int place, String text) {
        PROBE.due(text, Probe.outcome(text), "fault " + fault + " at " + place);
    }

    private static void answersOfFault() {
        ScriptFront front = new ScriptFront();
        PROBE.due("a\\nb", Probe.parsed(front, "a\nb"), "5");
        PROBE.due("fault(0)", front.fault(0), 0);
        PROBE.due("fault(1)", front.fault(1), -1);
        PROBE.due("fault(2)", front.fault(2), 2);
        PROBE.due("a\\nb#", Probe.parsed(front, "a\nb#"), "fault 1 at 3");
        PROBE.due("fault(2) with a fault 1", front.fault(2), 0);
        PROBE.due("a\\nb c", Probe.parsed(front, "a\nb c"), "fault 2 at 4");
        PROBE.due("fault(2) with a fault 2", front.fault(2), 0);
        PROBE.due("a\\n((", Probe.parsed(front, "a;b\n" + "(".repeat(30)), "fault 3 at 23");
        PROBE.due("fault(2) with a fault 3", front.fault(2), 0);
        PROBE.due("a\\n1=2", Probe.parsed(front, "a\n1=2"), "fault 4 at 3");
        PROBE.due("fault(2) with a fault 4", front.fault(2), 2);
        PROBE.due("strict", Probe.parsed(front, "'use strict'\ndelete a\nb"), "fault 5 at 13");
        PROBE.due("fault(2) with a fault 5", front.fault(2), 3);
        PROBE.due("a\\nbreak", Probe.parsed(front, "a\nbreak"), "fault 6 at 2");
        PROBE.due("fault(2) with a fault 6", front.fault(2), 2);
        for (int i = 0; i < 40; i++) {
            PROBE.due("a fault in the middle", Probe.parsed(front, "a||b&&c|d^e&f==g<h<<i+j*"), "fault 2 at 24");
        }
        PROBE.due("a text behind many faults", Probe.parsed(front, "a+b"), "5");
        PROBE.due("a\\nbreak", Probe.parsed(front, "a\nbreak"), "fault 6 at 2");
        int[] others = {3, 4, -1, Integer.MAX_VALUE, Integer.MIN_VALUE};
        for (int what : others) {
            PROBE.due("fault(" + what + ")", front.fault(what), -1);
        }
        PROBE.due("a text without fault", Probe.parsed(front, "a;"), "3");
        PROBE.due("fault(0)", front.fault(0), 0);
        PROBE.due("fault(1)", front.fault(1), -1);
        PROBE.due("fault(2)", front.fault(2), 0);
    }

    private static void put(int semicolons, String text) {
        ScriptFront front = new ScriptFront();
        String parsed = Probe.parsed(front, text);
        PROBE.due(text, parsed.startsWith("fault") ? parsed : front.fault(2), semicolons);
    }

    private static void semicolons() {
        put(0, "");
        put(0, "a;");
        put(1, "a");
        put(1, "a\n");
        put(1, "{a}");
        put(2, "a\nb");
        put(2, "a\rb");
        put(0, "a\n;");
        put(2, "a/*\n*/b");
        put(2, "a//\nb");
        put(1, "a\n+b");
        put(1, "a\n(b)");
        put(2, "var a\nvar b");
        put(1, "do;while(a)");
        put(2, "do;while(a)\nb");
        put(1, "{do;while(a)}");
        put(3, "for(;;){continue\nbreak}a");
        put(3, "a:for(;;){continue\na\nbreak a}");
        put(2, "function f(){return}a");
        put(2, "function f(){return\n1}");
        put(1, "throw a");
        put(2, "if(a)b\nelse c");
        put(0, "if(a);else{}");
        put(0, "function f(){}");
        put(1, "a=function(){}");
        put(0, "while(a){}");
        put(0, "a:{}");
        put(2, "a\n++b");
        wrong(2, 2, "a b");
        wrong(2, 3, "{a b}");
        wrong(2, 5, "do a b");
        wrong(2, 11, "do;while(a)b");
        wrong(2, 6, "var a b");
        wrong(2, 8, "throw a b");
        wrong(2, 16, "for(;;){break a b}");
    }

    private static void depth() {
        fine("(".repeat(18) + "a" + ")".repeat(18));
        wrong(3, 19, "(".repeat(19) + "a" + ")".repeat(19));
        wrong(3, 19, "(".repeat(40));
        fine("{".repeat(20) + "}".repeat(20));
        wrong(3, 20, "{".repeat(21) + "}".repeat(21));
        fine("[".repeat(19) + "]".repeat(19));
        wrong(3, 19, "[".repeat(20) + "]".repeat(20));
        fine("a(".repeat(19) + ")".repeat(19));
        wrong(3, 38, "a(".repeat(20) + ")".repeat(20));
        fine("!".repeat(18) + "a");
        wrong(3, 19, "!".repeat(19) + "a");
        fine("new ".repeat(18) + "a");
        wrong(3, 76, "new ".repeat(19) + "a");
        fine("a=".repeat(18) + "a");
        wrong(3, 38, "a=".repeat(19) + "a");
        fine("a?b:".repeat(18) + "a");
        wrong(3, 74, "a?b:".repeat(19) + "a");
        fine("a:;".repeat(100));
        fine("if(a)".repeat(18) + "b");
        fine("if(a)".repeat(18) + ";");
        wrong(3, 98, "if(a)".repeat(20) + ";");
        fine("function f(){".repeat(10) + "}".repeat(10));
        wrong(3, 130, "function f(){".repeat(11) + "}".repeat(11));
        fine("a+".repeat(200) + "a");
        fine("a,".repeat(200) + "a");
        fine("a" + ".b".repeat(200));
        fine("a" + "[0]".repeat(100));
        fine("a" + "()".repeat(100));
        fine("a" + "(b)".repeat(100));
        fine(";".repeat(480));
        fine("{".repeat(19) + ";" + "}".repeat(19));
        wrong(3, 19, "{".repeat(19) + "a" + "}".repeat(19));
        wrong(3, 20, "{".repeat(20) + ";" + "}".repeat(20));
        fine("{".repeat(16) + "a=function(){}" + "}".repeat(16));
        wrong(3, 29, "{".repeat(17) + "a=function(){}" + "}".repeat(17));
        wrong(3, 20, "{".repeat(18) + "a=function(){}" + "}".repeat(18));
        wrong(2, 29, "{".repeat(17) + "a=function()b" + "}".repeat(17));
        fine("{".repeat(17) + "new a(b)" + "}".repeat(17));
        wrong(3, 22, "{".repeat(18) + "new a(b)" + "}".repeat(18));
    }

    /** Fault 2 at the text's length where the text ends, and fault 3 at a token that stands there instead. */
    private static void endsTooEarly(String text, String token) {
        wrong(2, text.length(), text);
        wrong(2, text.length() + 1, text + "\n");
        wrong(2, text.length() + 5, text + " /**/");
        wrong(3, text.length(), text + token);
    }

    private static void neverDeepAtTheEnd(String text) {
        for (int n = 0; n <= text.length(); n++) {
            String part = text.substring(0, n);
            PROBE.due(part, Probe.outcome(part).equals("fault 3 at " + n), false);
        }
    }

    private static void endWithinOthers() {
        String[] tokens = {"a", ")", "}", "1", "/a/", "in", "*"};
        for (String token : tokens) {
            endsTooEarly("a:".repeat(20), token);
            endsTooEarly("(".repeat(19), token);
            endsTooEarly("!".repeat(19), token);
            endsTooEarly("new ".repeat(19), token);
        }
        endsTooEarly("do ".repeat(20), ";");
        endsTooEarly("for(;;)".repeat(20), ";");
        endsTooEarly("{".repeat(19) + "throw ", "a");
        endsTooEarly("{".repeat(19) + "if(", "a");
        endsTooEarly("{".repeat(19) + "for(;", "a");
        endsTooEarly("{".repeat(19) + "for(;;", "a");
        endsTooEarly("{".repeat(19) + "for(", "a");
        endsTooEarly("{".repeat(19) + "var a=", "b");
        endsTooEarly("{".repeat(19) + "switch(", "a");
        endsTooEarly("a=".repeat(19), "a");
        endsTooEarly("a?".repeat(19), "a");
        endsTooEarly("a[".repeat(19), "]");
        endsTooEarly("[".repeat(18) + "(", "a");
        endsTooEarly("{".repeat(18) + "a(", "b");
        endsTooEarly("typeof ".repeat(19), "a");
        endsTooEarly("{".repeat(18) + "new ", "a");
        wrong(2, 20, "{".repeat(20));
        wrong(2, 130, "function f(){".repeat(10));
        wrong(2, 29, "{".repeat(17) + "a=function()");
        wrong(2, 18, "(".repeat(18));
        wrong(2, 38, "a:".repeat(19));
        wrong(1, 19, "(".repeat(19) + "/*");
        String[] deep = {
            "{".repeat(18) + "a=new b(function(){c})", "if(a)do ".repeat(10) + "for(var b=c?d:e in[f,{g:-h}]);",
            "switch(a){case b:".repeat(18) + "c:throw typeof(d)", "try{}catch(a){".repeat(19) + "return b[c],d",
            "while(a)with:".repeat(10) + "b", "(function(){return ".repeat(9) + "a"
        };
        for (String text : deep) {
            neverDeepAtTheEnd(text);
        }
        ScriptFront front = new ScriptFront();
        PROBE.due("a\\nb;((", Probe.parsed(front, "a\nb;" + "(".repeat(19)), "fault 2 at 23");
        PROBE.due("fault(2) where the text ends within others", front.fault(2), 0);
    }

    private static void firstOfTokenSyntaxDepth() {
        wrong(2, 2, "a b #");
        wrong(1, 2, "a # b c");
        wrong(2, 1, "())" + "(".repeat(30));
        wrong(1, 19, "(".repeat(19) + "#");
        wrong(1, 19, "(".repeat(19) + "/a");
        wrong(3, 19, "(".repeat(19) + ")");
        wrong(3, 19, "(".repeat(19) + "/a/");
        wrong(1, 20, "{".repeat(20) + "'");
        wrong(1, 6, "throw\n/a");
        wrong(3, 25, "{".repeat(19) + "throw\na" + "}".repeat(19));
        wrong(2, 24, "{".repeat(18) + "throw\na" + "}".repeat(18));
        wrong(2, 4, "1=a b");
        wrong(1, 3, "1=a#b");
        wrong(2, 8, "break\na b");
        wrong(3, 24, "1=2;a=" + "(".repeat(30));
    }

    private static void targets() {
        fine("a=1", "a.b=1", "a[b]=1", "(a)=1", "(a.b)=1", "((a))=1", "f().a=1", "new f().a=1", "a++", "--a.b", "++(a)");
        fine("for(a in b);", "for(a.b in c);", "for((a)in b);", "for(f()[0]in b);");
        wrong(4, 1, "1=2");
        wrong(4, 3, "a()=2");
        wrong(4, 5, "new a+=2");
        wrong(4, 4, "this=1");
        wrong(4, 4, "null=1");
        wrong(4, 2, "[]=a");
        wrong(4, 5, "(a+b)=c");
        wrong(4, 5, "(a,b)/=c");
        wrong(4, 5, "(a=b)=c");
        wrong(4, 5, "(a++)=c");
        wrong(4, 1, "1++");
        wrong(4, 3, "a()--");
        wrong(4, 5, "(a+b)++");
        wrong(4, 0, "++1");
        wrong(4, 2, "a+--b()");
        wrong(4, 0, "++-a");
        wrong(4, 0, "--++a");
        wrong(4, 0, "++a++");
        wrong(4, 0, "for(1 in a);");
        wrong(4, 0, "for(a()in b);");
        wrong(4, 0, "for((a,b)in c);");
        wrong(4, 1, ";for((a=b)in c);");
        wrong(4, 4, "-a,1=2");
        fine("-1", "-a()", "typeof a()", "delete a()");
    }

    private static void strictCode() {
        String[] names = {"eval", "arguments"};
        for (String name : names) {
            String[] texts = {
                name + "=1", name + "+=1", name + "++", "--" + name, "for(" + name + " in a);", "(" + name + ")=1", "var " + name,
                "for(var " + name + " in a);", "try{}catch(" + name + "){}", "function " + name + "(){}", "a=function " + name + "(){}",
                "function a(" + name + "){}", "a=function(b," + name + "){}"
            };
            int size = name.length();
            int[] places = {size, size, size, 0, 0, size + 2, 4, 8, 11, 9, 11, 11, 13};
            for (int i = 0; i < texts.length; i++) {
                fine(texts[i], "('use strict');" + texts[i], "use;" + texts[i], "'use  strict';" + texts[i], "a;'use strict';" + texts[i]);
                wrong(5, 13 + places[i], "'use strict';" + texts[i]);
                wrong(5, 13 + places[i], "\"use strict\";" + texts[i]);
                wrong(5, 17 + places[i], "'a';'use strict';" + texts[i]);
                wrong(5, 26 + places[i], "function f(){'use strict';" + texts[i] + "}");
            }
            fine("'use strict';" + name, "'use strict';a." + name + "=1", "'use strict';" + name + ".a=1", "'use strict';" + name + "[0]++");
            fine("'use strict';({" + name + ":1})", "'use strict';" + name + ":;", "'use strict';delete a." + name, "'use strict';a." + name + "++");
            fine("function a(){'use strict'}" + name + "=1", "'use strict';x" + name + "=1", "'use strict';" + name + "x=1");
            wrong(5, 9, "function " + name + "(){'use strict'}");
            wrong(5, 10, "(function " + name + "(){'use strict'})");
            wrong(5, 11, "function f(" + name + "){'use strict'}");
            wrong(5, 35 + name.length(), "'use strict';function f(){return " + "a," + name + "=1}");
        }
        fine("delete a", "function f(a,a){}", "({a:1,a:2})", "'use strict';delete a.b", "'use strict';delete a[b]", "'use strict';delete a()");
        wrong(5, 13, "'use strict';delete a");
        wrong(5, 13, "'use strict';delete (a)");
        wrong(5, 14, "'use strict';-delete a");
        wrong(5, 26, "'use strict';function f(a,a){}");
        wrong(5, 13, "function f(a,a){'use strict'}");
        wrong(5, 15, "function f(a,b,a){'use strict'}");
        wrong(5, 19, "'use strict';({a:1,a:2})");
        wrong(5, 21, "'use strict';({'a':1,'a':2})");
        wrong(5, 23, "'use strict';({a:1,b:2,a:3})");
        fine("'use strict';({a:1,'a':2,\"a\":3})", "'use strict';({1:1,1.0:2,0x1:3})", "'use strict';({a:{a:1}})");
        fine("'use strict';({a:1});({a:2})", "'use strict';(function(a){})(function(a){})", "'use strict';({a:1,b:{a:1}})");
        wrong(5, 27, "'use strict';({1:1,b:{a:1},1:2})");
        fine("'use strict';({b:{a:1},a:2})", "'use strict';evil=1", "'use strict';argumentz=1", "'use strike';delete a");
        fine("'use strict';var evil", "'use strict';function argumentz(evil){}");
        fine("'use strict'.a;delete b", "'use strict'+a;delete b", "'use strict',a;delete b", "a:'use strict';delete b", "{'use strict'}delete b");
        fine("'use\\x20strict';delete b", "'use strict ';delete b", "('use strict');delete b", "1;'use strict';delete b", ";'use strict';delete b");
        fine("('a');'use strict';delete b", "var a;'use strict';delete b", "function f(){}'use strict';delete b", "if(a)'use strict';delete b");
        wrong(5, 17, "'x'\n'use strict'\ndelete a");
        wrong(5, 26, "'use strict';'use strict';delete a");
        wrong(5, 13, "'use strict'\n++eval");
        fine("(function(){'use strict'});delete a", "function f(){'use strict';a}delete a");
        wrong(5, 39, "function f(){'use strict';function g(){delete a}}");
    }

    private static void jumps() {
        fine("switch(a){default:}", "switch(a){default:switch(b){default:}}", "switch(a){case b:case b:}");
        fine("switch(a){case b:switch(c){default:}default:}", "switch(a){case b:switch(c){default:}case d:default:}");
        wrong(6, 18, "switch(a){default:default:}");
        wrong(6, 37, "switch(a){default:;switch(b){case c:}default:}");
        wrong(6, 25, "switch(a){default:case b:default:case c:}");
        wrong(6, 0, "return");
        wrong(6, 1, "{return a}");
        wrong(6, 15, "function f(){} return");
        fine("function f(){return}", "(function(){return})", "function f(){for(;;){return}}", "a=function(){if(b)return c}");
        wrong(6, 2, "a:a:;");
        wrong(6, 3, "a:{a:;}");
        wrong(6, 4, "a:b:a:;");
        wrong(6, 15, "a:for(;;){if(b)a:;}");
        fine("a:;a:;", "a:b:;", "a:{b:;}", "a:(function(){a:;})", "{a:;}{a:;}", "a:aa:;");
        wrong(6, 0, "break");
        wrong(6, 5, "if(a)break");
        wrong(6, 2, "a:break");
        wrong(6, 3, "a:{break}");
        wrong(6, 0, "continue");
        wrong(6, 17, "switch(a){case b:continue}");
        wrong(6, 20, "for(;;)a=function(){break}");
        wrong(6, 20, "for(;;)a=function(){continue}");
        fine("for(;;)break", "while(a)break", "do break;while(a)", "for(a in b)break", "switch(a){case b:break}", "switch(a){default:break}");
        fine("for(;;)continue", "while(a)continue", "do continue;while(a)", "for(a in b)continue", "for(;;)switch(a){case b:continue}");
        fine("for(;;){if(a)break;else continue}", "for(;;)try{break}finally{continue}", "for(;;)a:break", "for(;;)a:{continue}");
        wrong(6, 8, "for(;;);break");
        fine("a:break a", "a:{break a}", "a:b:break a", "a:b:break b", "a:if(b)break a", "a:for(;;)break a", "a:switch(b){case c:break a}");
        fine("a:for(;;)continue a", "a:b:for(;;)continue a", "a:b:for(;;)continue b", "a:for(;;)b:for(;;)continue a", "a:while(b)continue a");
        fine("a:do continue a;while(b)", "a:for(b in c)continue a");
        wrong(6, 6, "break a");
        wrong(6, 13, "for(;;)break a");
        wrong(6, 8, "a:break b");
        wrong(6, 9, "a:;break a");
        wrong(6, 9, "continue a");
        wrong(6, 12, "a:{continue a}");
        wrong(6, 11, "a:continue a");
        wrong(6, 35, "a:switch(b){case c:for(;;)continue a}");
        wrong(6, 19, "a:{for(;;)continue a}");
        wrong(6, 16, "for(;;)continue a");
        wrong(6, 28, "a:for(;;)b=function(){break a}");
        wrong(6, 21, "a:b:{for(;;)continue b}");
    }

    private static void firstInTheTree() {
        wrong(6, 0, "break\n1=2");
        wrong(4, 1, "1=2\nbreak");
        wrong(4, 5, "a=1,3=4,1=2");
        wrong(5, 13, "'use strict';delete a;1=2");
        wrong(4, 14, "'use strict';1=eval=2");
        wrong(4, 13, "'use strict';++eval++");
        wrong(5, 9, "function eval(eval){'use strict'}");
        wrong(5, 11, "function f(eval){'use strict';1=2}");
        wrong(4, 22, "function f(a){'x';a\n;1=2;break}");
        wrong(6, 25, "switch(a){default:case b:default:1=2}");
        wrong(4, 19, "switch(a){default:1=2;default:}");
        wrong(4, 0, "for(1 in a)break b");
    }
}
