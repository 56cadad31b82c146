/** Promises 3, 5 and 6: the trees of expressions and statements, and what is SYNTAX (fault 2) in them. */
final class TreeTest {
    private static final Probe PROBE = new Probe("TreeTest");

    public static void main(String[] args) {
        operands();
        lefts();
        signs();
        assignmentsAndChoices();
        functions();
        simpleStatements();
        loops();
        otherStatements();
        wrongSyntax();
        PROBE.end();
    }

    private static void tree(String text, String tree) {
        PROBE.due(text, Probe.tree(text), tree);
    }

    /** The tree of a text that is one expression. */
    private static void x(String text, String tree) {
        PROBE.due(text, Probe.tree(text), "0[5[" + tree + "]]");
    }

    private static void wrong(String text, int place) {
        PROBE.due(text, Probe.outcome(text), "fault 2 at " + place);
    }

    private static void operands() {
        x("this", "30");
        x("a", "31");
        x("null", "32");
        x("true", "32");
        x("false", "32");
        x("1", "33");
        x("'a'", "34");
        x("/a/", "35");
        x("[]", "36");
        x("[,]", "36[21]");
        x("[,,]", "36[21 21]");
        x("[a]", "36[31]");
        x("[a,]", "36[31]");
        x("[a,,]", "36[31 21]");
        x("[,a]", "36[21 31]");
        x("[a,,b]", "36[31 21 31]");
        x("[a=b,c?d:e]", "36[48[31 31] 47[31 31 31]]");
        x("({})", "37");
        x("({a:b})", "37[38[31]]");
        x("({a:b,})", "37[38[31]]");
        x("({a:b,'c':d,1:e,if:f})", "37[38[31] 38[31] 38[31] 38[31]]");
        x("({a:b=c})", "37[38[48[31 31]]]");
        x("(a)", "31");
        x("((a,b))", "49[31 31]");
        x("a,b,c", "49[31 31 31]");
        x("(a,b),c", "49[49[31 31] 31]");
    }

    private static void lefts() {
        x("a.b", "41[31]");
        x("a.b.c", "41[41[31]]");
        x("a[b]", "40[31 31]");
        x("a[b,c]", "40[31 49[31 31]]");
        x("a()", "43[31]");
        x("a(b,c)", "43[31 31 31]");
        x("a(b)(c)[d].e", "41[40[43[43[31 31] 31] 31]]");
        x("new a", "42[31]");
        x("new a()", "42[31]");
        x("new a(b,c)", "42[31 31 31]");
        x("new a.b", "42[41[31]]");
        x("new a.b()", "42[41[31]]");
        x("new a[b](c)", "42[40[31 31] 31]");
        x("new a().b", "41[42[31]]");
        x("new a()()", "43[42[31]]");
        x("new a()(b)", "43[42[31] 31]");
        x("new new a", "42[42[31]]");
        x("new new a()", "42[42[31]]");
        x("new new a(b)(c)", "42[42[31 31] 31]");
        x("new new a(b)(c)(d)", "43[42[42[31 31] 31] 31]");
        x("new (a())", "42[43[31]]");
        x("new (a().b)(c)", "42[41[43[31]] 31]");
        x("new function(){}", "42[39[23]]");
        x("new this.a", "42[41[30]]");
        x("new a\n(b)", "42[31 31]");
        x("a\n(b)", "43[31 31]");
        x("a\n[b]", "40[31 31]");
        x("a\n.b", "41[31]");
        x("a.\nb", "41[31]");
    }

    private static void signs() {
        String[] lines = {"||", "&&", "|", "^", "&", "== != === !==", "< > <= >= instanceof in", "<< >> >>>", "+ -", "* / %"};
        for (int weak = 0; weak < lines.length; weak++) {
            for (String first : lines[weak].split(" ")) {
                for (String second : lines[weak].split(" ")) {
                    x("a " + first + " b " + second + " c", "46[46[31 31] 31]");
                }
                for (int strong = weak + 1; strong < lines.length; strong++) {
                    for (String second : lines[strong].split(" ")) {
                        x("a " + first + " b " + second + " c", "46[31 46[31 31]]");
                        x("a " + second + " b " + first + " c", "46[46[31 31] 31]");
                    }
                }
            }
        }
        x("a||b&&c|d^e&f==g<h<<i+j*k", "46[31 46[31 46[31 46[31 46[31 46[31 46[31 46[31 46[31 46[31 31]]]]]]]]]]");
        x("a*b+c<<d<e==f&g^h|i&&j||k", "46[46[46[46[46[46[46[46[46[46[31 31] 31] 31] 31] 31] 31] 31] 31] 31] 31]");
        x("a*(b+c)", "46[31 46[31 31]]");
        String[] prefixes = {"delete ", "void ", "typeof ", "++", "--", "+", "-", "~", "!"};
        for (String prefix : prefixes) {
            x(prefix + "a", "45[31]");
            x(prefix + "a.b*c", "46[45[41[31]] 31]");
            x("a*" + prefix + "b", "46[31 45[31]]");
        }
        x("- -a", "45[45[31]]");
        x("!typeof-a", "45[45[45[31]]]");
        x("-a++", "45[44[31]]");
        x("a++", "44[31]");
        x("a--", "44[31]");
        x("a.b++", "44[41[31]]");
        x("(a)++", "44[31]");
        x("a+ ++b", "46[31 45[31]]");
        tree("a\n++b", "0[5[31] 5[45[31]]]");
        tree("a\n--\nb", "0[5[31] 5[45[31]]]");
        tree("a/*\n*/++b", "0[5[31] 5[45[31]]]");
        wrong("a\n++", 4);
        wrong("a++b", 3);
        wrong("a++++", 3);
    }

    private static void assignmentsAndChoices() {
        String[] signs = {"=", "+=", "-=", "*=", "/=", "%=", "<<=", ">>=", ">>>=", "&=", "|=", "^="};
        for (String sign : signs) {
            x("a" + sign + "b", "48[31 31]");
            x("a.b" + sign + "c" + sign + "d", "48[41[31] 48[31 31]]");
            wrong("a+b" + sign + "c", 3);
            wrong("a?b:c+d" + sign + "e", 7);
            wrong("-a" + sign + "c", 2);
            wrong("a++" + sign + "c", 3);
        }
        x("a=b,c", "49[48[31 31] 31]");
        x("a?b:c", "47[31 31 31]");
        x("a?b:c?d:e", "47[31 31 47[31 31 31]]");
        x("a?b?c:d:e", "47[31 47[31 31 31] 31]");
        x("a?b=c:d=e", "47[31 48[31 31] 48[31 31]]");
        x("a=b?c:d", "48[31 47[31 31 31]]");
        x("a||b?c:d", "47[46[31 31] 31 31]");
        wrong("a?b,c:d", 3);
        wrong("a?b", 3);
        wrong("a?b:", 4);
        wrong("a?:b", 2);
        wrong("a=", 2);
        wrong("=a", 0);
    }

    private static void functions() {
        x("(function(){})", "39[23]");
        x("(function f(){})", "39[23]");
        x("(function(a,b){c})", "39[22 22 23[5[31]]]");
        x("a=function f(a){return a}", "48[31 39[22 23[13[31]]]]");
        x("(function(){function g(){}})", "39[23[20[23]]]");
        tree("function f(){}", "0[20[23]]");
        tree("function f(a,b){c;d}", "0[20[22 22 23[5[31] 5[31]]]]");
        tree("a\nfunction f(){}\nb", "0[5[31] 20[23] 5[31]]");
        tree("function f(){function g(){}}", "0[20[23[20[23]]]]");
        wrong("function(){}", 8);
        wrong("function f{}", 10);
        wrong("function f(a,){}", 13);
        wrong("function f(,){}", 11);
        wrong("function f(a b){}", 13);
        wrong("function f(1){}", 11);
        wrong("function f(if){}", 11);
        wrong("function if(){}", 9);
        wrong("(function if(){})", 10);
        wrong("function f()a", 12);
        wrong("function f(){", 13);
        wrong("{function f(){}}", 1);
        wrong("if(a)function f(){}", 5);
        wrong("a:function f(){}", 2);
        wrong("while(a)function(){}", 8);
        wrong("switch(a){case b:function f(){}}", 17);
        wrong("try{function f(){}}finally{}", 4);
        wrong("function f(){{function g(){}}}", 14);
        wrong("function f(){}()", 15);
    }

    private static void simpleStatements() {
        tree("", "0");
        tree(" \t\r\n", "0");
        tree("//a", "0");
        tree(";", "0[4]");
        tree(";;", "0[4 4]");
        tree("{}", "0[1]");
        tree("{{};a}", "0[1[1 4 5[31]]]");
        tree("var a", "0[2[3]]");
        tree("var a,b=c,d", "0[2[3 3[31] 3]]");
        tree("var a=b=c,d", "0[2[3[48[31 31]] 3]]");
        tree("var a=(b,c)", "0[2[3[49[31 31]]]]");
        tree("{a:b}", "0[1[16[5[31]]]]");
        tree("a:b:c", "0[16[16[5[31]]]]");
        tree("a\n:\nb", "0[16[5[31]]]");
        tree("a/**/:{}", "0[16[1]]");
        tree("throw a,b", "0[17[49[31 31]]]");
        tree("(function(){return})", "0[5[39[23[13]]]]");
        tree("(function(){return a,b})", "0[5[39[23[13[49[31 31]]]]]]");
        tree("(function(){return a in b})", "0[5[39[23[13[46[31 31]]]]]]");
        tree("throw a in b", "0[17[46[31 31]]]");
        tree("if(a in b);", "0[6[46[31 31] 4]]");
        tree("var a=b in c", "0[2[3[46[31 31]]]]");
        tree("switch(a in b){case c in d:}", "0[14[46[31 31] 15[46[31 31]]]]");
        tree("(function(){return\na})", "0[5[39[23[13 5[31]]]]]");
        tree("(function(){return/a/})", "0[5[39[23[13[35]]]]]");
        wrong("var", 3);
        wrong("var a,", 6);
        wrong("var a=", 6);
        wrong("var a.b", 5);
        wrong("var a+=b", 5);
        wrong("var a=b=c+d=e", 11);
        wrong("var (a)", 4);
        wrong("throw", 5);
        wrong("throw\na", 6);
        wrong("throw;", 5);
        wrong("throw/*\n*/a", 10);
        wrong("a:", 2);
        wrong("a:}", 2);
        wrong("(a):b", 3);
        wrong("1:b", 1);
        wrong("if:b", 2);
    }

    private static void loops() {
        tree("do a;while(b)", "0[7[5[31] 31]]");
        tree("do{}while(b,c);", "0[7[1 49[31 31]]]");
        tree("while(a)b", "0[8[31 5[31]]]");
        tree("for(;;);", "0[9[21 21 21 4]]");
        tree("for(a;b;c)d", "0[9[31 31 31 5[31]]]");
        tree("for(a,b;c,d;e,f);", "0[9[49[31 31] 49[31 31] 49[31 31] 4]]");
        tree("for(var a;;);", "0[9[2[3] 21 21 4]]");
        tree("for(var a=1,b;a<b;)c", "0[9[2[3[33] 3] 46[31 31] 21 5[31]]]");
        tree("for(a in b)c", "0[10[31 31 5[31]]]");
        tree("for(a in b,c);", "0[10[31 49[31 31] 4]]");
        tree("for(a.b in c);", "0[10[41[31] 31 4]]");
        tree("for(a[b in c]in d);", "0[10[40[31 46[31 31]] 31 4]]");
        tree("for((a)in b);", "0[10[31 31 4]]");
        tree("for((a in b)in c);", "fault 4 at 0");
        tree("for(var a in b);", "0[10[2[3] 31 4]]");
        tree("for(var a=b in c);", "0[10[2[3[31]] 31 4]]");
        tree("for(var a=(b in c)in d);", "0[10[2[3[46[31 31]]] 31 4]]");
        tree("for(var a=[b in c],d;;);", "0[9[2[3[36[46[31 31]]] 3] 21 21 4]]");
        tree("for(a(b in c);;);", "0[9[43[31 46[31 31]] 21 21 4]]");
        tree("for(a=function(){b in c};;);", "0[9[48[31 39[23[5[46[31 31]]]]] 21 21 4]]");
        tree("for(a={b:c in d};;);", "0[9[48[31 37[38[46[31 31]]]] 21 21 4]]");
        tree("for(;a in b;c in d);", "0[9[21 46[31 31] 46[31 31] 4]]");
        tree("for(a in b in c);", "0[10[31 46[31 31] 4]]");
        tree("for(a instanceof b;;);", "0[9[46[31 31] 21 21 4]]");
        wrong("for(a+b in c);", 8);
        wrong("for(-a in b);", 7);
        wrong("for(a++in b);", 7);
        wrong("for(a=b in c);", 8);
        wrong("for(a,b in c);", 8);
        wrong("for(a?b:c in d);", 10);
        wrong("for(a?b in c:d;;);", 8);
        wrong("for(var a,b in c);", 12);
        wrong("for(var a=1,b in c);", 14);
        wrong("for(var a=b in c;;);", 16);
        wrong("for(a in b;;);", 10);
        wrong("for(in b);", 4);
        wrong("for(a in);", 8);
        wrong("for(;);", 5);
        wrong("for(;;;);", 6);
        wrong("for(a);", 5);
        wrong("for();", 4);
        wrong("for(a\nb;c);", 6);
        wrong("for(a;b\n)c", 8);
        wrong("for(var;;);", 7);
        wrong("for a", 4);
        wrong("for(;;)", 7);
        wrong("for(a in", 8);
        wrong("do a while(b)", 5);
        wrong("do a\nwhile(b)c", 13);
        wrong("do;while b", 9);
        wrong("do;", 3);
        wrong("while()a", 6);
        wrong("while(a", 7);
    }

    private static void otherStatements() {
        tree("if(a)b", "0[6[31 5[31]]]");
        tree("if(a,b);else;", "0[6[49[31 31] 4 4]]");
        tree("if(a)if(b)c;else d", "0[6[31 6[31 5[31] 5[31]]]]");
        tree("if(a){if(b)c}else d", "0[6[31 1[6[31 5[31]]] 5[31]]]");
        tree("if(a)b\nelse c", "0[6[31 5[31] 5[31]]]");
        tree("if(a)b;else if(c)d;else e", "0[6[31 5[31] 6[31 5[31] 5[31]]]]");
        tree("for(;;)continue", "0[9[21 21 21 11]]");
        tree("for(;;)break", "0[9[21 21 21 12]]");
        tree("a:for(;;){break\na}", "0[16[9[21 21 21 1[12 5[31]]]]]");
        tree("a:for(;;){continue a}", "0[16[9[21 21 21 1[11]]]]");
        tree("switch(a){}", "0[14[31]]");
        tree("switch(a,b){case c,d:}", "0[14[49[31 31] 15[49[31 31]]]]");
        tree("switch(a){case b:c;d\ncase e:default:;}", "0[14[31 15[31 5[31] 5[31]] 15[31] 15[21 4]]]");
        tree("switch(a){default:b;case c:}", "0[14[31 15[21 5[31]] 15[31]]]");
        tree("try{}catch(a){}", "0[18[1 19[1] 21]]");
        tree("try{}finally{}", "0[18[1 21 1]]");
        tree("try{a}catch(b){c}finally{d}", "0[18[1[5[31]] 19[1[5[31]]] 1[5[31]]]]");
        wrong("if(a)b else c", 7);
        wrong("if(a)", 5);
        wrong("if a", 3);
        wrong("if(a)else b", 5);
        wrong("else", 0);
        wrong("if(a);else", 10);
        wrong("switch(a)b", 9);
        wrong("switch(a){b}", 10);
        wrong("switch(a){case:}", 14);
        wrong("switch(a){case b}", 16);
        wrong("switch(a){default b:}", 18);
        wrong("switch(a){case b:", 17);
        wrong("switch(a){/b/}", 10);
        wrong("switch(){}", 7);
        wrong("case a:", 0);
        wrong("try{}", 5);
        wrong("try{}a", 5);
        wrong("try a", 4);
        wrong("try{}catch{}", 10);
        wrong("try{}catch(){}", 11);
        wrong("try{}catch(1){}", 11);
        wrong("try{}catch(a,b){}", 12);
        wrong("try{}catch(a)b", 13);
        wrong("try{}finally b", 13);
        wrong("try{}finally{}catch(a){}", 14);
        wrong("catch(a){}", 0);
    }

    private static void wrongSyntax() {
        wrong("}", 0);
        wrong("{", 1);
        wrong("{ ", 2);
        wrong("{}}", 2);
        wrong("(", 1);
        wrong(")", 0);
        wrong("()", 1);
        wrong("(a", 2);
        wrong("(a;", 2);
        wrong("[a", 2);
        wrong("[a b]", 3);
        wrong("[a;]", 2);
        wrong("a[]", 2);
        wrong("a[b", 3);
        wrong("a(b", 3);
        wrong("a(b,)", 4);
        wrong("a(,)", 2);
        wrong("a(b c)", 4);
        wrong("new", 3);
        wrong("new;", 3);
        wrong("new -a", 4);
        wrong("new a(b", 7);
        wrong("a.", 2);
        wrong("a.1", 1);
        wrong("a.'b'", 2);
        wrong("a..b", 2);
        wrong("a,", 2);
        wrong(",a", 0);
        wrong("a+", 2);
        wrong("a b", 2);
        wrong("a 1", 2);
        wrong("'a''b'", 3);
        wrong("({a})", 3);
        wrong("({a:})", 4);
        wrong("({,})", 2);
        wrong("({a:b,,})", 6);
        wrong("({a:b c})", 6);
        wrong("({[a]:b})", 2);
        wrong("({-1:b})", 2);
        wrong("({a:b", 5);
        wrong("typeof", 6);
        wrong("delete;", 6);
        wrong("in a", 0);
        wrong("a in", 4);
        wrong("a instanceof", 12);
        wrong("a\n)", 2);
        wrong("{a:1,b:2}", 6);
    }
}
