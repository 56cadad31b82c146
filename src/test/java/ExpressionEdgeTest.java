/** Promise 3, EXPRESSIONS, sentence by sentence: what may stand there, what may be left out, and what not. */
final class ExpressionEdgeTest {
    private static final Edge EDGE = new Edge("ExpressionEdgeTest");

    public static void main(String[] args) {
        oneOrSeveral();
        assignments();
        choices();
        linesOfSigns();
        signsAhead();
        signsBehind();
        creations();
        partsBehind();
        membersBehindNew();
        arrays();
        objects();
        functions();
        brackets();
        inOfAFor();
        EDGE.end();
    }

    private static void oneOrSeveral() {
        EDGE.sentence("X: one or, with , between, several x (49 [x, x, ..] then)");
        EDGE.x("a", "31");
        EDGE.x("a,b", "49[31 31]");
        EDGE.x("a,b,c", "49[31 31 31]");
        EDGE.x("(a,b),c", "49[49[31 31] 31]");
        EDGE.x("a" + ",b".repeat(239), "49[31" + " 31".repeat(239) + "]");
        EDGE.wrong(2, 0, ",", ",a");
        EDGE.wrong(2, 2, "a,", "a,,b", "a,)");
    }

    private static void assignments() {
        EDGE.sentence("or LEFT, a sign = or one with = behind");
        for (String sign : "= += -= *= /= %= <<= >>= >>>= &= |= ^=".split(" ")) {
            EDGE.x("a " + sign + " b", "48[31 31]");
            EDGE.x("a " + sign + " b " + sign + " c", "48[31 48[31 31]]");
            EDGE.x("a " + sign + " b ? c : d", "48[31 47[31 31 31]]");
            EDGE.wrong(2, 2 + sign.length(), "a " + sign);
            EDGE.wrong(sign.equals("/=") ? 1 : 2, 0, sign + " a");
        }
        for (String sign : "== != === !== <= >=".split(" ")) {
            EDGE.x("a " + sign + " b", "46[31 31]");
        }
        EDGE.sentence("the = or sign behind what is no LEFT");
        for (String sign : "= += /= >>>=".split(" ")) {
            EDGE.wrong(2, 4, "a+b " + sign + " c", "a++ " + sign + " c", "++a " + sign + " c", "!ab " + sign + " c");
            EDGE.wrong(2, 6, "a?b:-c" + sign + "d", "a=b*c " + sign + "d");
            EDGE.x("(a).b" + sign + "c", "48[41[31] 31]");
            EDGE.x("a?b:c" + sign + "d", "47[31 31 48[31 31]]");
            EDGE.wrong(4, 5, "(a+b)" + sign + "c", "(a,b)" + sign + "c");
            EDGE.wrong(2, 4, "a+b\n" + sign + "c/g", "a++\n" + sign + "c/g", "!ab\n" + sign + "c/g");
        }
        EDGE.tree("var a\n/=c/g", "0[2[3] 5[35]]");
    }

    private static void choices() {
        EDGE.sentence("CHOICE: BINARY, perhaps ? x : x");
        EDGE.x("a", "31");
        EDGE.x("a?b:c", "47[31 31 31]");
        EDGE.x("a?b=c:d=e", "47[31 48[31 31] 48[31 31]]");
        EDGE.x("a?b?c:d:e?f:g", "47[31 47[31 31 31] 47[31 31 31]]");
        EDGE.x("a||b?c:d", "47[46[31 31] 31 31]");
        EDGE.x("a?b:c,d", "49[47[31 31 31] 31]");
        EDGE.wrong(2, 2, "a?", "a?:b");
        EDGE.wrong(2, 3, "a?b", "a?b;", "a?b,c:d", "a?b)");
        EDGE.wrong(2, 4, "a?b:", "a?b:;");
        EDGE.wrong(2, 5, "a?b:c:d");
    }

    private static void linesOfSigns() {
        EDGE.sentence("the strongest first, of one line from the left");
        String[] lines = {"* / %", "+ -", "<< >> >>>", "< > <= >= instanceof in", "== != === !==", "&", "^", "|", "&&", "||"};
        for (int strong = 0; strong < lines.length; strong++) {
            for (String sign : lines[strong].split(" ")) {
                for (String other : lines[strong].split(" ")) {
                    EDGE.x("a " + sign + " b " + other + " c", "46[46[31 31] 31]");
                }
                if (strong + 1 < lines.length) {
                    for (String weak : lines[strong + 1].split(" ")) {
                        EDGE.x("a " + sign + " b " + weak + " c", "46[46[31 31] 31]");
                        EDGE.x("a " + weak + " b " + sign + " c", "46[31 46[31 31]]");
                    }
                }
                EDGE.wrong(2, 3 + sign.length(), "a " + sign + " ");
                EDGE.wrong(2, 2 + sign.length(), "a " + sign + ")");
            }
        }
    }

    private static void signsAhead() {
        EDGE.sentence("UNARY: one of delete void typeof ++ -- + - ~ ! and UNARY");
        for (String sign : "delete void typeof ++ -- + - ~ !".split(" ")) {
            EDGE.x(sign + " a.b", "45[41[31]]");
            EDGE.x(sign + "\na.b", "45[41[31]]");
            EDGE.x("! " + sign + " a.b", "45[45[41[31]]]");
            EDGE.x(sign + " a.b * c", "46[45[41[31]] 31]");
            EDGE.wrong(2, sign.length(), sign, sign + ";", sign + ")");
        }
        for (String sign : "* % & | ^ && ? in instanceof".split(" ")) {
            EDGE.wrong(2, 0, sign + " a");
        }
    }

    private static void signsBehind() {
        EDGE.sentence("or LEFT, perhaps ++ or -- with no line end ahead of it");
        for (String sign : "++ --".split(" ")) {
            EDGE.x("a" + sign, "44[31]");
            EDGE.x("a \t/**/" + sign, "44[31]");
            EDGE.x("a" + sign + "\n", "44[31]");
            EDGE.tree("a" + sign + "\nb", "0[5[44[31]] 5[31]]");
            EDGE.tree("a\n" + sign + "b", "0[5[31] 5[45[31]]]");
            EDGE.tree("a\r" + sign + "b", "0[5[31] 5[45[31]]]");
            EDGE.tree("a//\n" + sign + "\nb", "0[5[31] 5[45[31]]]");
            EDGE.wrong(2, 4, "a\n" + sign);
            EDGE.wrong(2, 3, "a" + sign + sign, "a" + sign + "b", "a" + sign + "(b)", "a" + sign + ".b");
            EDGE.x("-a" + sign, "45[44[31]]");
            EDGE.wrong(2, 3, "(a\n" + sign + ")");
            EDGE.x("(a" + sign + ")", "44[31]");
        }
    }

    private static void creations() {
        EDGE.sentence("or new, a MEMBER and perhaps ( ) with x, .. in it (42 [MEMBER, x, ..])");
        EDGE.x("new a", "42[31]");
        EDGE.x("new a()", "42[31]");
        EDGE.x("new a(b)", "42[31 31]");
        EDGE.x("new a(b,c=d)", "42[31 31 48[31 31]]");
        EDGE.x("new a()()", "43[42[31]]");
        EDGE.x("new a\n(b)", "42[31 31]");
        EDGE.x("new\na", "42[31]");
        EDGE.wrong(2, 3, "new", "new;", "new)");
        EDGE.wrong(2, 4, "new -a", "new !a", "new ++a", "new typeof a");
        EDGE.wrong(2, 6, "new a(,b)");
        EDGE.wrong(2, 8, "new a(b,)", "new a(b,");
    }

    private static void partsBehind() {
        EDGE.sentence("behind it any of . and a NAME or word (41 [..]), [ X ] (40 [.., X]), ( ) with x, .. in it (43 [.., x, ..])");
        EDGE.x("a.b", "41[31]");
        EDGE.x("a.if", "41[31]");
        EDGE.x("a\n.\nb", "41[31]");
        EDGE.x("a[b]", "40[31 31]");
        EDGE.x("a[b,c]", "40[31 49[31 31]]");
        EDGE.x("a\n[b]", "40[31 31]");
        EDGE.x("a()", "43[31]");
        EDGE.x("a(b)", "43[31 31]");
        EDGE.x("a((b,c))", "43[31 49[31 31]]");
        EDGE.x("a(b,c)", "43[31 31 31]");
        EDGE.x("a\n(b)", "43[31 31]");
        EDGE.x("a" + "()".repeat(239), "43[".repeat(239) + "31" + "]".repeat(239));
        EDGE.wrong(2, 2, "a.", "a.'b'", "a.(b)", "a.;", "a[]", "a(,b)", "a[;]");
        EDGE.wrong(2, 3, "a[b", "a[b)", "a(b", "a(b]", "a[b;]");
        EDGE.wrong(2, 4, "a(b,)", "a(b,");
    }

    private static void membersBehindNew() {
        EDGE.sentence("MEMBER (behind new): an OPERAND or new as told, behind it any of . and [ ]");
        EDGE.x("new a.b", "42[41[31]]");
        EDGE.x("new a[b]", "42[40[31 31]]");
        EDGE.x("new a.b[c].d(e)", "42[41[40[41[31] 31]] 31]");
        EDGE.x("new a().b", "41[42[31]]");
        EDGE.x("new a()[b]", "40[42[31] 31]");
        EDGE.x("new new a", "42[42[31]]");
        EDGE.x("new new a()", "42[42[31]]");
        EDGE.x("new new a()()", "42[42[31]]");
        EDGE.x("new new a()()()", "43[42[42[31]]]");
        EDGE.x("new new a().b(c)", "42[41[42[31]] 31]");
        EDGE.x("new (a())", "42[43[31]]");
        EDGE.x("new function(){}", "42[39[23]]");
        EDGE.x("new this", "42[30]");
    }

    private static void arrays() {
        EDGE.sentence("[ ] with x or nothing between , (36 [x or NOTHING, ..]; a , at the end adds nothing)");
        EDGE.x("[]", "36");
        EDGE.x("[a]", "36[31]");
        EDGE.x("[a,]", "36[31]");
        EDGE.x("[a,,]", "36[31 21]");
        EDGE.x("[,]", "36[21]");
        EDGE.x("[,,]", "36[21 21]");
        EDGE.x("[,a]", "36[21 31]");
        EDGE.x("[,a,]", "36[21 31]");
        EDGE.x("[a,,b]", "36[31 21 31]");
        EDGE.x("[a,b]", "36[31 31]");
        EDGE.x("[(a,b)]", "36[49[31 31]]");
        EDGE.x("[" + ",".repeat(478) + "]", "36[21" + " 21".repeat(477) + "]");
        EDGE.wrong(2, 1, "[", "[)", "[;]");
        EDGE.wrong(2, 2, "[a", "[a)", "[,");
        EDGE.wrong(2, 3, "[a b]", "[a,", "[a,)");
    }

    private static void objects() {
        EDGE.sentence("{ } with KEY : x, .., perhaps a , at the end");
        EDGE.x("({})", "37");
        EDGE.x("({a:b})", "37[38[31]]");
        EDGE.x("({a:b,})", "37[38[31]]");
        EDGE.x("({a:b,c:d})", "37[38[31] 38[31]]");
        EDGE.x("({a:b,c:d,})", "37[38[31] 38[31]]");
        EDGE.wrong(2, 2, "({,})", "({", "({:a})", "({;})");
        EDGE.wrong(2, 3, "({a})", "({a,b})", "({a", "({a(){}})");
        EDGE.wrong(2, 4, "({a:})", "({a:,})", "({a:", "({a b:c})");
        EDGE.wrong(2, 5, "({a:b", "({a:b)", "({a:b;})");
        EDGE.wrong(2, 6, "({a:b,,})", "({a:b,", "({a:b c:d})");
        EDGE.sentence("KEY: NAME, word, STRING, NUMBER");
        for (String key : "a $ if in null 'a' \"\" 1 .5 0x1 1e5".split(" ")) {
            EDGE.x("({" + key + ":a})", "37[38[31]]");
        }
        EDGE.wrong(2, 2, "({[a]:b})", "({-1:b})", "({/a/:b})", "({(a):b})", "({{}:b})", "({+:b})");
    }

    private static void functions() {
        EDGE.sentence("function, perhaps a NAME, ( NAMES ) { statements } (39 [(22), .., (23 [statements])])");
        EDGE.x("(function(){})", "39[23]");
        EDGE.x("(function a(){})", "39[23]");
        EDGE.x("(function(a){})", "39[22 23]");
        EDGE.x("(function(a,b){c;d})", "39[22 22 23[5[31] 5[31]]]");
        EDGE.wrong(2, 9, "(function", "(function)", "(function{})");
        EDGE.wrong(2, 10, "(function if(){})", "(function 1(){})", "(function(,){})", "(function('a'){})", "(function(if){})",
            "(function(");
        EDGE.wrong(2, 11, "(function a)", "(function(a", "(function()", "(function()a)", "(function();)");
        EDGE.wrong(2, 12, "(function(a,){})", "(function(a b){})", "(function(){", "(function(){)");
        EDGE.wrong(2, 12, "(function(a,");
    }

    private static void brackets() {
        EDGE.sentence("( X )");
        EDGE.x("(a)", "31");
        EDGE.x("((a))", "31");
        EDGE.x("(a,b)", "49[31 31]");
        EDGE.wrong(2, 1, "()", "(", "(;)");
        EDGE.wrong(2, 2, "(a", "(a;)", "(a]", "(a}");
        EDGE.wrong(2, 3, "(a))", "(a b)");
        EDGE.wrong(2, 3, "(a,)");
    }

    private static void inOfAFor() {
        EDGE.sentence("In the first part of a for, not in any brackets, in is no sign.");
        EDGE.tree("for(a in b);", "0[10[31 31 4]]");
        EDGE.tree("for(var a=b in c);", "0[10[2[3[31]] 31 4]]");
        EDGE.wrong(2, 10, "for(a in b;;);");
        EDGE.wrong(2, 16, "for(var a=b in c;;);");
        EDGE.wrong(2, 8, "for(a?b in c:d;;);", "for(a,b in c;;);", "for(a=b in c;;);", "for(a+b in c;;);");
        EDGE.wrong(2, 10, "for(a?b:c in d;;);");
        EDGE.wrong(2, 7, "for(-a in b;;);");
        EDGE.fine("for((a in b);;);", "for([a in b];;);", "for(a[b in c];;);", "for(a(b in c);;);", "for(new a(b in c);;);",
            "for({a:b in c};;);");
        EDGE.fine("for(a=function(){b in c};;);", "for(var a=(b in c);;);", "for(var a=(b in c)in d);", "for(a?(b in c):d;;);",
            "for((a,b in c);;);");
        EDGE.fine("for(;a in b;);", "for(;;a in b);", "for(a in b in c);", "for(;;)a in b", "for(a in b)c in d", "if(a in b);",
            "var a=b in c");
        EDGE.fine("throw a in b", "while(a in b);", "do;while(a in b)", "switch(a in b){case c in d:}", "function f(){return a in b}",
            "a?b in c:d in e", "a=b in c", "a[b in c]");
        EDGE.tree("for(a instanceof b;;);", "0[9[46[31 31] 21 21 4]]");
        EDGE.tree("for(var a=function(){for(b in c);}in d);", "0[10[2[3[39[23[10[31 31 4]]]]] 31 4]]");
    }
}
