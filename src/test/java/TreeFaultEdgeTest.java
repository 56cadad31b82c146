/** Promise 4, faults 4 to 6, sentence by sentence, and which of them is the first one. */
final class TreeFaultEdgeTest {
    private static final Edge EDGE = new Edge("TreeFaultEdgeTest");
    private static final String STRICT = "'use strict';";

    public static void main(String[] args) {
        targets();
        guardedTargets();
        guardedNames();
        deletedNames();
        repeatedParameters();
        repeatedKeys();
        firstStatements();
        whatIsAround();
        parametersAndName();
        secondDefault();
        returns();
        labelsWithinLabels();
        breaksWithoutAName();
        continuesWithoutAName();
        jumpsWithAName();
        continuesOfLoopsAlone();
        functionsBeginAnew();
        orderOfTheTree();
        EDGE.end();
    }

    private static void strictly(int place, String text) {
        EDGE.fine(text);
        EDGE.wrong(5, 13 + place, STRICT + text);
    }

    private static void targets() {
        EDGE.sentence("4 TARGET: of 44, 45 with ++ or --, 48, 10 (not var) it must be 31, 40 or 41: the node's place");
        for (String target : "a (a) a.b a[b] (a.b) ((a[b])) a().b new(a)().b this.a 'a'.b [].a".split(" ")) {
            EDGE.fine(target + "++", target + "--", "++" + target, "--" + target, target + "=c", target + ">>>=c",
                "for(" + target + " in c);");
        }
        for (String other : "1 'a' /a/ this null true a() (a,b) (a+b) (-a) (a=b) (a++) (a?b:c) [] [a] new(a) new(a)() (function(){})".split(" ")) {
            EDGE.wrong(4, other.length(), other + "++", other + "--", other + "=c", other + "/=c");
            EDGE.wrong(4, 0, "++" + other, "--" + other, "for(" + other + " in c);");
            EDGE.fine("-" + other, "typeof " + other, "delete " + other, "~" + other, "void " + other);
        }
        EDGE.wrong(4, 0, "++-a", "--!a", "++a++", "-- --a", "++typeof a");
        EDGE.wrong(4, 3, "({}=1)");
        EDGE.fine("for(var a in b);", "for(var a=1 in b);");
    }

    private static void guardedTargets() {
        EDGE.sentence("5 STRICT, in strict code: eval or arguments as TARGET (of the same four)");
        for (String name : "eval arguments".split(" ")) {
            strictly(name.length(), name + "++");
            strictly(name.length(), name + "--");
            strictly(0, "++" + name);
            strictly(0, "--" + name);
            strictly(name.length(), name + "=1");
            strictly(name.length(), name + "*=1");
            strictly(name.length() + 2, "(" + name + ")=1");
            strictly(0, "for(" + name + " in a);");
            EDGE.fine(STRICT + name, STRICT + "-" + name, STRICT + name + "()", STRICT + "a=" + name, STRICT + name + ".a=1",
                STRICT + name + "[0]++", STRICT + "a." + name + "=1");
            EDGE.fine(STRICT + "for(a in " + name + ");", STRICT + name + ":;", STRICT + "({" + name + ":1})", STRICT + "typeof " + name,
                STRICT + "for(" + name + ".a in b);");
        }
        EDGE.fine(STRICT + "eva=1", STRICT + "evals=1", STRICT + "Eval=1", STRICT + "argument=1", STRICT + "argumentss=1",
            STRICT + "evam=1", STRICT + "argumentz=1");
    }

    private static void guardedNames() {
        EDGE.sentence("as name of 3, 22, 19, 20, 39");
        for (String name : "eval arguments".split(" ")) {
            strictly(4, "var " + name);
            strictly(6, "var a," + name + "=1");
            strictly(8, "for(var " + name + " in a);");
            strictly(8, "for(var " + name + ";;);");
            strictly(11, "function f(" + name + "){}");
            strictly(13, "function f(a," + name + "){}");
            strictly(10, "(function(" + name + "){})");
            strictly(11, "try{}catch(" + name + "){}");
            strictly(9, "function " + name + "(){}");
            strictly(10, "(function " + name + "(){})");
        }
        EDGE.fine(STRICT + "var evals", STRICT + "function eva(argument){}", STRICT + "try{}catch(evil){}",
            STRICT + "(function argumentz(){})");
    }

    private static void deletedNames() {
        EDGE.sentence("delete of (31)");
        strictly(0, "delete a");
        strictly(0, "delete(a)");
        strictly(1, "!delete a");
        EDGE.fine(STRICT + "delete a.b", STRICT + "delete a[b]", STRICT + "delete a()", STRICT + "delete 1", STRICT + "delete this",
            STRICT + "delete(a,b)", STRICT + "delete-a");
        EDGE.fine(STRICT + "typeof a", STRICT + "void a", STRICT + "!a", STRICT + "++a");
    }

    private static void repeatedParameters() {
        EDGE.sentence("a 22 or a 38 with the same KEY as an earlier one of its parent");
        strictly(13, "function f(a,a){}");
        strictly(15, "function f(a,b,a){}");
        strictly(15, "function f(a,b,b,a){}");
        strictly(12, "(function(a,a){})");
        EDGE.fine(STRICT + "function f(a,b){}", STRICT + "function f(a,A){}", STRICT + "function f(a,aa){}",
            STRICT + "function f(aa,a){}", STRICT + "function f(a){}function g(a){}");
        EDGE.fine(STRICT + "function f(f){}", STRICT + "function f(a){function g(a){}}", STRICT + "function f(a){var a}");
    }

    private static void repeatedKeys() {
        EDGE.sentence("with the same KEY as an earlier one of its parent (as their characters stand)");
        strictly(6, "({a:1,a:2})");
        strictly(10, "({a:1,b:2,a:3})");
        strictly(8, "({'a':1,'a':2})");
        strictly(6, "({1:1,1:2})");
        strictly(7, "({if:1,if:2})");
        strictly(10, "({a:{b:1},a:1})");
        strictly(9, "({a:{b:1,b:2},a:1})");
        EDGE.fine(STRICT + "({a:1,'a':2})", STRICT + "({'a':1,\"a\":2})", STRICT + "({1:1,1.0:2})", STRICT + "({1:1,0x1:2})",
            STRICT + "({1:1,'1':2})", STRICT + "({a:1,aa:2})");
        EDGE.fine(STRICT + "({a:{a:1}})", STRICT + "({a:1});({a:1})", STRICT + "({a:{b:1},b:2})", STRICT + "[{a:1},{a:1}]",
            STRICT + "({a:1,b:{a:1}})", STRICT + "({a:1,A:2})");
    }

    private static void firstStatements() {
        EDGE.sentence("or if one of its first statements, which are all (5 [34]) not in brackets, is 'use strict' or \"use strict\"");
        String wrong = "delete x";
        String[] strict = {
            "'use strict';", "\"use strict\";", "'use strict'\n", " 'use strict' ;", "'a';'use strict';", "'a'\n\"b\"\n'use strict'\n",
            "'use strict';'a';", "'';'use strict';",
            "'Use Strict';'use strict';", "/**/'use strict';", "'a';".repeat(80) + "'use strict';", "'use\\x20strict';'use strict';"
        };
        for (String ahead : strict) {
            EDGE.wrong(5, ahead.length(), ahead + wrong);
            EDGE.wrong(5, 13 + ahead.length(), "function f(){" + ahead + wrong + "}");
            EDGE.fine(ahead + "delete x.y", "function f(){" + ahead + "}" + wrong);
        }
        String[] sloppy = {
            "", "('use strict');", "(('use strict'));", "a;'use strict';", ";'use strict';", "{'use strict'}", "'use strict'.a;",
            "'use strict'+a;", "'use strict',a;", "-'use strict';",
            "a='use strict';", "a:'use strict';", "if(a)'use strict';", "var a;'use strict';", "function f(){}'use strict';",
            "('a');'use strict';", "1;'use strict';", "'use  strict';",
            "'use strict ';", "' use strict';", "'Use strict';", "'use\\x20strict';", "'use strict\\\n';", "'use strick';",
            "'use stric';", "'use\tstrict';", "'a'+b;'use strict';", "'use strict'();",
            "'use strict'[a];", "'use strict'?a:b;", "['use strict'];", "throw'use strict';"
        };
        for (String ahead : sloppy) {
            EDGE.fine(ahead + wrong);
            EDGE.fine("function f(){" + ahead + wrong + "}");
        }
    }

    private static void whatIsAround() {
        EDGE.sentence("CODE is STRICT: a text or a body, if what is around it is");
        EDGE.wrong(5, 26, STRICT + "function f(){delete a}");
        EDGE.wrong(5, 26, STRICT + "b=function(){delete a}");
        EDGE.wrong(5, 39, STRICT + "function f(){function g(){delete a}}");
        EDGE.wrong(5, 39, "function f(){" + STRICT + "function g(){delete a}}");
        EDGE.wrong(5, 14, STRICT + "{delete a}");
        EDGE.fine("function f(){" + STRICT + "}delete a", "function f(){" + STRICT + "}function g(){delete a}",
            "(function(){" + STRICT + "},delete a)");
        EDGE.fine("function f(){function g(){" + STRICT + "}delete a}");
    }

    private static void parametersAndName() {
        EDGE.sentence("A function's parameters and name are looked at with its body.");
        EDGE.wrong(5, 9, "function eval(){" + STRICT + "}");
        EDGE.wrong(5, 10, "(function arguments(){" + STRICT + "})");
        EDGE.wrong(5, 11, "function f(eval){" + STRICT + "}");
        EDGE.wrong(5, 13, "function f(a,a){" + STRICT + "}");
        EDGE.wrong(5, 9, "function eval(eval){" + STRICT + "delete a}");
        EDGE.fine("function eval(){}", "function f(eval){}", "function f(a,a){}", "function eval(a,a){function g(){" + STRICT + "}}",
            "function f(a,a){b;" + STRICT + "}");
    }

    private static void secondDefault() {
        EDGE.sentence("6 JUMP: a second default in a 14: that");
        EDGE.fine("switch(a){}", "switch(a){default:}", "switch(a){case b:default:case c:}", "switch(a){case b:case b:}");
        EDGE.wrong(6, 18, "switch(a){default:default:}", "switch(a){default:default:default:}");
        EDGE.wrong(6, 25, "switch(a){default:case b:default:}");
        EDGE.fine("switch(a){default:switch(b){default:}}", "switch(a){default:}switch(b){default:}",
            "switch(a){case b:switch(c){default:}default:}");
        EDGE.wrong(6, 37, "switch(a){default:switch(b){default:}default:}");
    }

    private static void returns() {
        EDGE.sentence("13 outside a function");
        EDGE.wrong(6, 0, "return", "return a", "return;");
        EDGE.wrong(6, 1, "{return}");
        EDGE.wrong(6, 7, "for(;;)return");
        EDGE.wrong(6, 14, "function f(){}return");
        EDGE.wrong(6, 16, "(function(){}); return");
        EDGE.fine("function f(){return}", "(function(){return a})", "function f(){{return}}", "function f(){for(;;)return}",
            "function f(){function g(){}return}");
    }

    private static void labelsWithinLabels() {
        EDGE.sentence("16 within one of the same NAME");
        EDGE.wrong(6, 2, "a:a:;");
        EDGE.wrong(6, 3, "a:{a:;}");
        EDGE.wrong(6, 4, "a:b:a:;");
        EDGE.wrong(6, 9, "a:for(;;)a:;");
        EDGE.wrong(6, 19, "a:switch(b){case c:a:;}");
        EDGE.wrong(6, 4, "ab: ab:;");
        EDGE.fine("a:;a:;", "a:b:;", "a:{b:;}", "{a:;}{a:;}", "a:aa:;", "aa:a:;", "a:A:;", "a:a;", "a:{}a:;");
    }

    private static void breaksWithoutAName() {
        EDGE.sentence("12 without a name, with no 7, 8, 9, 10, 14 around it");
        EDGE.fine("do break;while(a)", "while(a)break", "for(;;)break", "for(a in b)break", "switch(a){case b:break}",
            "switch(a){default:break}");
        EDGE.fine("for(;;){{if(a)break}}", "for(;;)a:break", "for(;;)try{}finally{break}", "while(a){b;break}");
        EDGE.wrong(6, 0, "break");
        EDGE.wrong(6, 1, "{break}");
        EDGE.wrong(6, 2, "a:break");
        EDGE.wrong(6, 5, "if(a)break");
        EDGE.wrong(6, 4, "try{break}finally{}");
        EDGE.wrong(6, 8, "for(;;);break");
        EDGE.wrong(6, 11, "switch(a){}break");
    }

    private static void continuesWithoutAName() {
        EDGE.sentence("11 without one, with no 7 to 10");
        EDGE.fine("do continue;while(a)", "while(a)continue", "for(;;)continue", "for(a in b)continue",
            "for(;;)switch(a){case b:continue}", "for(;;)a:{continue}");
        EDGE.wrong(6, 0, "continue");
        EDGE.wrong(6, 17, "switch(a){case b:continue}");
        EDGE.wrong(6, 5, "if(a)continue");
        EDGE.wrong(6, 2, "a:continue");
        EDGE.wrong(6, 25, "for(;;);switch(a){case b:continue}");
    }

    private static void jumpsWithAName() {
        EDGE.sentence("11, 12 with a name that no 16 around it has");
        EDGE.fine("a:break a", "a:{break a}", "a:b:break a", "a:b:break b", "a:if(b)break a", "a:for(;;)break a", "a:for(;;)continue a",
            "a:{b:;break a}");
        EDGE.wrong(6, 6, "break a");
        EDGE.wrong(6, 8, "a:break b", "a:break aa", "a:break A");
        EDGE.wrong(6, 9, "a:;break a", "aa:break a");
        EDGE.wrong(6, 13, "for(;;)break a");
        EDGE.wrong(6, 16, "for(;;)continue a");
        EDGE.wrong(6, 18, "a:for(;;)continue b");
        EDGE.wrong(6, 12, "a:{b:;break b}");
    }

    private static void continuesOfLoopsAlone() {
        EDGE.sentence("11 with one whose 16 does not have 7 to 10 as its statement (perhaps behind further labels)");
        EDGE.fine("a:for(;;)continue a", "a:while(b)continue a", "a:do continue a;while(b)", "a:for(b in c)continue a",
            "a:b:for(;;)continue a", "a:b:c:for(;;)continue b");
        EDGE.fine("a:for(;;)b:for(;;)continue a", "a:for(;;){switch(b){case c:continue a}}", "a:for(;;){b:{continue a}}");
        EDGE.wrong(6, 11, "a:continue a");
        EDGE.wrong(6, 12, "a:{continue a}");
        EDGE.wrong(6, 19, "a:{for(;;)continue a}");
        EDGE.wrong(6, 28, "a:switch(b){case c:continue a}");
        EDGE.wrong(6, 23, "for(;;)a:if(b)continue a");
        EDGE.wrong(6, 18, "for(;;)a:continue a");
        EDGE.wrong(6, 21, "a:b:{for(;;)continue a}");
        EDGE.wrong(6, 23, "a:try{for(;;){continue a}}finally{}");
    }

    private static void functionsBeginAnew() {
        EDGE.sentence("(Functions begin anew.)");
        EDGE.wrong(6, 20, "for(;;)a=function(){break}", "for(;;)a=function(){continue}");
        EDGE.wrong(6, 28, "a:for(;;)b=function(){break a}");
        EDGE.wrong(6, 31, "a:for(;;)b=function(){continue a}");
        EDGE.fine("a:b=function(){a:;}", "for(;;)a=function(){for(;;)break}", "a:for(;;)b=function(){a:for(;;)continue a}");
        EDGE.wrong(6, 30, "function f(){a:b=function(){a:a:;}}");
    }

    private static void orderOfTheTree() {
        EDGE.sentence("the first one in the order of the tree (a node ahead of its children, these in order), for one node in the order told");
        EDGE.wrong(4, 1, "1=2;3=4");
        EDGE.wrong(4, 1, "1=(2=3)");
        EDGE.wrong(4, 5, "(1=2)=3");
        EDGE.wrong(4, 3, "a+1+++(3=4)");
        EDGE.wrong(4, 0, "for(1 in(2=3))break a", "++1++");
        EDGE.wrong(6, 0, "break;1=2");
        EDGE.wrong(4, 1, "1=2;break");
        EDGE.wrong(5, 13, STRICT + "delete a;1=2");
        EDGE.wrong(4, 14, STRICT + "1=2;delete a");
        EDGE.wrong(4, 14, STRICT + "1=eval=2");
        EDGE.wrong(5, 17, STRICT + "eval=1=2");
        EDGE.wrong(5, 9, "function eval(a,a){" + STRICT + "1=2}");
        EDGE.wrong(5, 13, "function f(a,a){" + STRICT + "1=2}");
        EDGE.wrong(6, 2, "a:a:1=2");
        EDGE.wrong(4, 19, "switch(a){default:1=2;default:}");
        EDGE.wrong(6, 18, "switch(a){default:default:1=2}");
        EDGE.wrong(4, 8, "switch(1=2){default:default:}");
        EDGE.wrong(5, 17, STRICT + "var eval=1=2");
    }
}
