/** Promise 3, STATEMENTS and SEMICOLONS, sentence by sentence. */
final class StatementEdgeTest {
    private static final Edge EDGE = new Edge("StatementEdgeTest");

    public static void main(String[] args) {
        blocks();
        variables();
        firstTokens();
        conditions();
        loops();
        partsOfAFor();
        targetsOfAFor();
        jumps();
        returns();
        switches();
        labels();
        throwsStatements();
        tries();
        declarations();
        semicolonsPutIn();
        semicolonsNotPutIn();
        nothingIsNoStatement();
        EDGE.end();
    }

    private static void blocks() {
        EDGE.sentence("{ .. } (1 [..])");
        EDGE.tree("{}", "0[1]");
        EDGE.tree("{;}", "0[1[4]]");
        EDGE.tree("{a;{}b}", "0[1[5[31] 1 5[31]]]");
        EDGE.wrong(2, 1, "{", "{)");
        EDGE.wrong(2, 2, "{}}", "{;");
        EDGE.wrong(2, 0, "}");
        EDGE.sentence("The whole: (0 [..])");
        EDGE.tree("", "0");
        EDGE.tree(";", "0[4]");
        EDGE.tree(";".repeat(480), "0[4" + " 4".repeat(479) + "]");
    }

    private static void variables() {
        EDGE.sentence("var NAME, NAME = x, .. ; (2 [(3 [x or none]), ..])");
        EDGE.tree("var a;", "0[2[3]]");
        EDGE.tree("var a=b;", "0[2[3[31]]]");
        EDGE.tree("var a,b=c,d;", "0[2[3 3[31] 3]]");
        EDGE.tree("var a=b=c;", "0[2[3[48[31 31]]]]");
        EDGE.tree("var\na", "0[2[3]]");
        EDGE.wrong(2, 3, "var", "var;");
        EDGE.wrong(2, 4, "var 1", "var 'a'", "var if", "var (a)", "var ,a", "var =a");
        EDGE.wrong(2, 5, "var a.b", "var a+=b", "var a==b", "var a:b", "var a[0]");
        EDGE.wrong(2, 6, "var a,", "var a,;", "var a=", "var a=;", "var a b");
        EDGE.wrong(2, 9, "var a=b+c=d");
    }

    private static void firstTokens() {
        EDGE.sentence("X ; but not with { or function first (5 [X])");
        EDGE.tree("{}", "0[1]");
        EDGE.tree("({})", "0[5[37]]");
        EDGE.tree("-{}", "0[5[45[37]]]");
        EDGE.tree("function a(){}", "0[20[23]]");
        EDGE.tree("(function a(){})", "0[5[39[23]]]");
        EDGE.tree("!function a(){}", "0[5[45[39[23]]]]");
        EDGE.wrong(2, 2, "{}.a", "{}=a");
        EDGE.wrong(2, 3, "{a,}", "{a:,b}");
        EDGE.wrong(2, 6, "{a:1,b:2}");
        EDGE.wrong(2, 5, "if(a)function b(){}");
        EDGE.wrong(2, 8, "function(){}");
        EDGE.wrong(2, 14, "function a(){}.b", "function a(){}=b");
        EDGE.wrong(2, 15, "function a(){}()");
        EDGE.sentence("; (4)");
        EDGE.tree(";;", "0[4 4]");
        EDGE.tree("a;;", "0[5[31] 4]");
    }

    private static void conditions() {
        EDGE.sentence("if ( X ) s, perhaps else s (6 [X, s, s])");
        EDGE.tree("if(a);", "0[6[31 4]]");
        EDGE.tree("if(a);else;", "0[6[31 4 4]]");
        EDGE.tree("if(a)if(b);else;", "0[6[31 6[31 4 4]]]");
        EDGE.tree("if(a)if(b);else;else;", "0[6[31 6[31 4 4] 4]]");
        EDGE.tree("if(a,b){}else if(c);", "0[6[49[31 31] 1 6[31 4]]]");
        EDGE.wrong(2, 2, "if", "if;");
        EDGE.wrong(2, 3, "if()a", "if a", "if(");
        EDGE.wrong(2, 4, "if(a", "if(a;");
        EDGE.wrong(2, 5, "if(a)", "if(a)else;", "if(a)}");
        EDGE.wrong(2, 10, "if(a);else", "if(a);else}");
        EDGE.wrong(2, 11, "if(a);else;else;");
        EDGE.wrong(2, 0, "else;");
    }

    private static void loops() {
        EDGE.sentence("do s while ( X ) ; (7 [s, X])");
        EDGE.tree("do;while(a);", "0[7[4 31]]");
        EDGE.tree("do{}while(a,b);", "0[7[1 49[31 31]]]");
        EDGE.tree("do do;while(a)\nwhile(b)", "0[7[7[4 31] 31]]");
        EDGE.wrong(2, 2, "do");
        EDGE.wrong(2, 3, "do;", "do;a", "do }", "do;until(a)");
        EDGE.wrong(2, 8, "do;while", "do;while;");
        EDGE.wrong(2, 9, "do;while()", "do;while(", "do;while a");
        EDGE.wrong(2, 5, "do a while(b)");
        EDGE.wrong(2, 13, "do a;while(b)c");
        EDGE.sentence("while ( X ) s (8 [X, s])");
        EDGE.tree("while(a);", "0[8[31 4]]");
        EDGE.tree("while(a,b)while(c);", "0[8[49[31 31] 8[31 4]]]");
        EDGE.wrong(2, 5, "while", "while;");
        EDGE.wrong(2, 6, "while()", "while(");
        EDGE.wrong(2, 8, "while(a)", "while(a)}");
    }

    private static void partsOfAFor() {
        EDGE.sentence("for ( X or var .. or nothing ; X or nothing ; X or nothing ) s (9 [.., .., .., s], NOTHING for each that is not there)");
        String[] firsts = {"", "a", "a,b", "var a", "var a=b,c"};
        String[] firstTrees = {"21", "31", "49[31 31]", "2[3]", "2[3[31] 3]"};
        String[] others = {"", "a", "a,b"};
        String[] otherTrees = {"21", "31", "49[31 31]"};
        for (int i = 0; i < firsts.length; i++) {
            for (int j = 0; j < others.length; j++) {
                for (int k = 0; k < others.length; k++) {
                    EDGE.tree("for(" + firsts[i] + ";" + others[j] + ";" + others[k] + ");",
                        "0[9[" + firstTrees[i] + " " + otherTrees[j] + " " + otherTrees[k] + " 4]]");
                }
            }
        }
        EDGE.wrong(2, 3, "for", "for;");
        EDGE.wrong(2, 4, "for(", "for()", "for(,;;);");
        EDGE.wrong(2, 5, "for(;", "for(;)", "for(a)", "for(a", "for(;var a;);");
        EDGE.wrong(2, 6, "for(;;", "for(;;;);", "for(;a)", "for(a\nb;c);", "for(;;var a);");
        EDGE.wrong(2, 7, "for(;;)", "for(;;)}", "for(var;;);", "for(;;a", "for(;;a;);");
    }

    private static void targetsOfAFor() {
        EDGE.sentence("for ( LEFT or var NAME, perhaps = x, in X ) s (10 [LEFT or (2), X, s])");
        EDGE.tree("for(a in b);", "0[10[31 31 4]]");
        EDGE.tree("for(a.b in c,d);", "0[10[41[31] 49[31 31] 4]]");
        EDGE.tree("for((a)in b);", "0[10[31 31 4]]");
        EDGE.tree("for(new a().b in c);", "0[10[41[42[31]] 31 4]]");
        EDGE.tree("for(var a in b);", "0[10[2[3] 31 4]]");
        EDGE.tree("for(var a=b in c);", "0[10[2[3[31]] 31 4]]");
        EDGE.tree("for(var a=b=c in d);", "0[10[2[3[48[31 31]]] 31 4]]");
        EDGE.wrong(2, 4, "for(in a);");
        EDGE.wrong(2, 8, "for(a in);", "for(a in", "for(var in a);");
        EDGE.wrong(2, 10, "for(a in b;;);", "for(a in b");
        EDGE.wrong(2, 11, "for(a in b)", "for(a in b)}");
        EDGE.sentence("a target of in of a for that is no LEFT: the in");
        EDGE.wrong(2, 8, "for(a,b in c);", "for(a=b in c);", "for(a+b in c);", "for(++a in b);", "for(a++ in b);");
        EDGE.wrong(2, 7, "for(-a in b);");
        EDGE.wrong(2, 10, "for(a?b:c in d);");
        EDGE.wrong(2, 12, "for(var a,b in c);");
        EDGE.wrong(2, 16, "for(var a=b,c=d in e);");
        EDGE.wrong(4, 0, "for((a,b)in c);", "for((a=b)in c);", "for(a()in b);", "for(1 in b);");
    }

    private static void jumps() {
        EDGE.sentence("continue, break, perhaps a NAME in the same line ; (11, 12)");
        String[] words = {"continue", "break"};
        for (int i = 0; i < 2; i++) {
            String kind = String.valueOf(11 + i);
            EDGE.tree("for(;;)" + words[i] + ";", "0[9[21 21 21 " + kind + "]]");
            EDGE.tree("a:for(;;)" + words[i] + " a;", "0[16[9[21 21 21 " + kind + "]]]");
            EDGE.tree("a:for(;;){" + words[i] + "\na;}", "0[16[9[21 21 21 1[" + kind + " 5[31]]]]]");
            EDGE.tree("a:for(;;){" + words[i] + "/*\r*/a;}", "0[16[9[21 21 21 1[" + kind + " 5[31]]]]]");
            EDGE.tree("a:for(;;){" + words[i] + "/**/a\n}", "0[16[9[21 21 21 1[" + kind + "]]]]");
            int behind = 8 + words[i].length();
            EDGE.wrong(2, behind, "for(;;)" + words[i] + " 1", "for(;;)" + words[i] + " if", "for(;;)" + words[i] + " 'a'",
                "for(;;)" + words[i] + " (a)");
            EDGE.wrong(2, behind + 2, "for(;;)" + words[i] + " a b");
            EDGE.wrong(2, behind + 1, "for(;;)" + words[i] + " a.b", "for(;;)" + words[i] + " a,b");
        }
    }

    private static void returns() {
        EDGE.sentence("return, perhaps X beginning in the same line ; (13 [X or none])");
        String[] texts = {"return;", "return", "return a", "return a,b;", "return\na", "return/*\n*/a", "return/**/a", "return(\na)",
            "return a\n+b", "return\n;"};
        String[] trees = {"13", "13", "13[31]", "13[49[31 31]]", "13 5[31]", "13 5[31]", "13[31]", "13[31]", "13[46[31 31]]", "13"};
        for (int i = 0; i < texts.length; i++) {
            EDGE.tree("function f(){" + texts[i] + "}", "0[20[23[" + trees[i] + "]]]");
        }
        EDGE.wrong(2, 20, "function f(){return )}", "function f(){return ,a}", "function f(){return :}");
        EDGE.wrong(2, 22, "function f(){return a b}");
    }

    private static void switches() {
        EDGE.sentence("switch ( X ) { case X : .. default : .. } (14 [X, (15 [X, or NOTHING for default, statements]), ..])");
        EDGE.tree("switch(a){}", "0[14[31]]");
        EDGE.tree("switch(a,b){case c:}", "0[14[49[31 31] 15[31]]]");
        EDGE.tree("switch(a){default:}", "0[14[31 15[21]]]");
        EDGE.tree("switch(a){case b,c:d;e\ncase f:default:;case g:}", "0[14[31 15[49[31 31] 5[31] 5[31]] 15[31] 15[21 4] 15[31]]]");
        EDGE.wrong(2, 6, "switch", "switch;");
        EDGE.wrong(2, 7, "switch()", "switch(", "switch a");
        EDGE.wrong(2, 9, "switch(a)", "switch(a)b");
        EDGE.wrong(2, 10, "switch(a){", "switch(a){b}", "switch(a){;}");
        EDGE.wrong(2, 14, "switch(a){case:}", "switch(a){case");
        EDGE.wrong(2, 16, "switch(a){case b}", "switch(a){case b;}");
        EDGE.wrong(2, 17, "switch(a){case b:", "switch(a){default}", "switch(a){default");
        EDGE.wrong(2, 18, "switch(a){default b:}", "switch(a){default:");
        EDGE.wrong(2, 0, "case a:", "default:");
        EDGE.wrong(2, 18, "switch(a){case b:{case c:}}");
    }

    private static void labels() {
        EDGE.sentence("A STATEMENT that begins with a NAME and has : behind it is a LABEL.");
        EDGE.tree("a:;", "0[16[4]]");
        EDGE.tree("a:b:;", "0[16[16[4]]]");
        EDGE.tree("a\n:\n;", "0[16[4]]");
        EDGE.tree("a/**/:b", "0[16[5[31]]]");
        EDGE.tree("{a:b}", "0[1[16[5[31]]]]");
        EDGE.tree("switch(a){case b:c:;}", "0[14[31 15[31 16[4]]]]");
        EDGE.tree("a?b:c", "0[5[47[31 31 31]]]");
        EDGE.wrong(2, 1, "1:a");
        EDGE.wrong(2, 3, "(a):b", "'a':b", "a.b:c", "a,b:c", "a:1:b");
        EDGE.wrong(2, 4, "this:a");
        EDGE.wrong(2, 2, "if:a", "a:", "a:}");
    }

    private static void throwsStatements() {
        EDGE.sentence("throw X, beginning in the same line ; (17 [X])");
        EDGE.tree("throw a;", "0[17[31]]");
        EDGE.tree("throw a,b", "0[17[49[31 31]]]");
        EDGE.tree("throw/**/a", "0[17[31]]");
        EDGE.tree("throw(\na)", "0[17[31]]");
        EDGE.tree("throw a\n+b", "0[17[46[31 31]]]");
        EDGE.wrong(2, 5, "throw", "throw;", "throw}");
        EDGE.wrong(2, 6, "throw\na", "throw\ra", "throw\n;", "throw\n");
        EDGE.wrong(2, 10, "throw/*\n*/a");
    }

    private static void tries() {
        EDGE.sentence("try { } catch ( NAME ) { } finally { }, one of both at least (18 [(1), (19 [(1)]) or NOTHING, (1) or NOTHING])");
        EDGE.tree("try{}catch(a){}", "0[18[1 19[1] 21]]");
        EDGE.tree("try{}finally{}", "0[18[1 21 1]]");
        EDGE.tree("try{}catch(a){}finally{}", "0[18[1 19[1] 1]]");
        EDGE.tree("try{a}catch(b){c}finally{d;e}", "0[18[1[5[31]] 19[1[5[31]]] 1[5[31] 5[31]]]]");
        EDGE.wrong(2, 3, "try", "try;");
        EDGE.wrong(2, 4, "try a", "try{", "try a:{}");
        EDGE.wrong(2, 10, "try{}catch", "try{}catch{}");
        EDGE.wrong(2, 11, "try{}catch(", "try{}catch()", "try{}catch(1)", "try{}catch(if)", "try{}catch((a))");
        EDGE.wrong(2, 12, "try{}catch(a", "try{}catch(a,b)", "try{}catch(a=b)", "try{}finally", "try{}finally;");
        EDGE.wrong(2, 13, "try{}catch(a)", "try{}catch(a)b");
        EDGE.wrong(2, 14, "try{}finally{}finally{}", "try{}finally{}catch(a){}");
        EDGE.wrong(2, 15, "try{}catch(a){}catch(b){}");
        EDGE.sentence("a try without both: the token behind it");
        EDGE.wrong(2, 5, "try{}", "try{};", "try{}a", "try{}}");
        EDGE.wrong(2, 6, "try{}\na", "try{} ");
    }

    private static void declarations() {
        EDGE.sentence("In the text and in bodies of functions, not within other statements: function NAME ( NAMES ) { .. } (20, as 39)");
        EDGE.tree("function a(){}", "0[20[23]]");
        EDGE.tree("function a(b,c){d}", "0[20[22 22 23[5[31]]]]");
        EDGE.tree(";function a(){}function b(){}", "0[4 20[23] 20[23]]");
        EDGE.tree("function a(){;function b(){}}", "0[20[23[4 20[23]]]]");
        EDGE.tree("(function(){function a(){}})", "0[5[39[23[20[23]]]]]");
        EDGE.wrong(2, 1, "{function a(){}}");
        EDGE.wrong(2, 2, "a:function a(){}");
        EDGE.wrong(2, 3, "do function a(){}while(b)");
        EDGE.wrong(2, 5, "if(a)function b(){}");
        EDGE.wrong(2, 7, "for(;;)function b(){}");
        EDGE.wrong(2, 8, "while(a)function b(){}");
        EDGE.wrong(2, 11, "if(a);else function b(){}", "for(a in b)function c(){}");
        EDGE.wrong(2, 17, "switch(a){case b:function c(){}}");
        EDGE.wrong(2, 4, "try{function a(){}}finally{}");
        EDGE.wrong(2, 14, "try{}catch(a){function b(){}}");
        EDGE.wrong(2, 14, "function a(){{function b(){}}}");
        EDGE.wrong(2, 8, "function", "function(){}");
        EDGE.wrong(2, 9, "function if(){}", "function 1(){}");
        EDGE.wrong(2, 11, "function a(,){}", "function a(1){}");
        EDGE.wrong(2, 13, "function a(b,){}", "function a(b c){}", "function a(){", "function a(){)");
        EDGE.wrong(2, 12, "function a()", "function a();");
    }

    /** Statements that a ; must end, each as it stands within a loop that is within a function. */
    private static final String[] ENDED = {"a", "var a", "do;while(a)", "continue", "break", "continue x", "break x", "return",
        "return a", "throw a"};

    private static void semicolonsPutIn() {
        EDGE.sentence("where a ; must end a statement (5, 2, 7, 11, 12, 13, 17) and another token is next, it is put in");
        for (String ended : ENDED) {
            String ahead = "function f(){x:for(;;){" + ended;
            EDGE.put(0, ahead + ";}}", ahead + " ;}}", ahead + "\n;}}");
            EDGE.put(1, ahead + "}}", ahead + " }}", ahead + "\n}}", ahead + "/**/}}");
            EDGE.put(1, ahead + "\nvar b;}}", ahead + "\rvar b;}}", ahead + "/*\n*/var b;}}", ahead + "//\nvar b;}}", ahead + "\n{}}}");
            EDGE.put(2, ahead + "\nb}}", ahead + "\nb\n}}");
            EDGE.put(3, ahead + "\nb\nc}}");
            EDGE.wrong(2, ahead.length() + 1, ahead + " var b;}}", ahead + "\tvar b;}}");
            EDGE.wrong(2, ahead.length() + 4, ahead + "/**/var b;}}");
        }
        EDGE.sentence("or the text ends");
        EDGE.put(1, "a", "a ", "a\n", "a//b", "a/**/", "var a", "do;while(a)", "throw a");
        EDGE.put(0, "a;", "var a;", "do;while(a);", "throw a;");
    }

    private static void semicolonsNotPutIn() {
        EDGE.sentence("and another token is next, it is put in, if a line end lies ahead of that token, or it is }, or the text ends");
        EDGE.put(0, "", ";", "{}", "if(a);", "if(a){}else{}", "while(a){}", "for(;;){}", "for(a in b){}", "switch(a){}", "a:{}",
            "try{}finally{}", "function f(){}");
        EDGE.put(1, "a\n+b", "a\n(b)", "a\n[b]", "a\n.b", "a\n,b", "a\n=b", "a\n?b\n:c", "a\nin b", "a\n/b/c", "a\n*b", "var a\n=b",
            "var a\n,b");
        EDGE.put(2, "a\n!b", "a\n~b", "a\n++b", "a\n{}b", "a\nthis", "a\n'b'", "a\n1", "if(a)b\nelse c");
        EDGE.wrong(2, 2, "a b", "a 1", "a 'b'", "a {}", "a !b", "a if(b);");
        EDGE.wrong(2, 7, "if(a)b else c");
        EDGE.wrong(2, 2, "a\n)", "a\n]", "a\nelse");
    }

    private static void nothingIsNoStatement() {
        EDGE.sentence("where a ; must end a statement");
        EDGE.wrong(2, 6, "for(a\nb;c);");
        EDGE.wrong(2, 8, "for(a;b\n)c", "while(a)");
        EDGE.wrong(2, 6, "if(a)\n", "if(a)\n}");
        EDGE.wrong(2, 7, "{if(a)\n}");
        EDGE.wrong(2, 12, "if(a)b\nelse\n");
        EDGE.wrong(2, 3, "a:\n", "do\n");
    }
}
