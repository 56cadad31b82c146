/** Promise 7: printed. */
final class PrintedTest {
    private static final Probe PROBE = new Probe("PrintedTest");

    public static void main(String[] args) {
        answers();
        semicolonsAndCreations();
        blanks();
        bracketsOfOperands();
        bracketsOfNew();
        bracketsOfFor();
        bracketsOfStatements();
        statements();
        PROBE.end();
    }

    private static void prints(String text, String want) {
        PROBE.due(text, Probe.printed(text), want);
    }

    private static void same(String... texts) {
        for (String text : texts) {
            prints(text, text);
        }
    }

    private static void answers() {
        ScriptFront front = new ScriptFront();
        PROBE.due("printed(-1) without a tree", front.printed(-1), 0);
        PROBE.due("printed(0) without a tree", front.printed(0), -1);
        Probe.parsed(front, " a + b ");
        int[] due = {4, 'a', '+', 'b', ';', -1, -1};
        for (int i = -1; i < due.length - 1; i++) {
            PROBE.due("printed(" + i + ")", front.printed(i), due[i + 1]);
        }
        int[] none = {-2, 480, 512, 1024, Integer.MAX_VALUE, Integer.MIN_VALUE};
        for (int i : none) {
            PROBE.due("printed(" + i + ")", front.printed(i), -1);
        }
        Probe.parsed(front, "a b");
        PROBE.due("printed behind a fault", Probe.printed(front), "a+b;");
        Probe.parsed(front, "");
        PROBE.due("printed(-1) of the empty text", front.printed(-1), 0);
        PROBE.due("printed(0) of the empty text", front.printed(0), -1);
        Probe.parsed(front, "{1..a}".repeat(80));
        PROBE.due("a long one", Probe.printed(front), "{(1.).a;}".repeat(80));
    }

    private static void semicolonsAndCreations() {
        prints("a\nb", "a;b;");
        prints("{a}", "{a;}");
        prints("var a\nvar b=1", "var a;var b=1;");
        prints("do a\nwhile(b)", "do a;while(b);");
        prints("for(;;){continue\nbreak}", "for(;;){continue;break;}");
        prints("function f(){return}", "function f(){return;}");
        prints("throw a", "throw a;");
        prints("if(a)b\nelse c", "if(a)b;else c;");
        same(";", ";;", "{;}", "if(a);", "for(;;);");
        prints("new a", "new a();");
        prints("new a.b", "new a.b();");
        prints("new new a", "new new a()();");
        prints("new new a(b)", "new new a(b)();");
        prints("new a().b", "new a().b;");
        prints("(new a).b", "new a().b;");
        prints("new (new a).b", "new new a().b();");
        prints("(new a)(b)", "new a()(b);");
    }

    private static void blanks() {
        same("a in b;", "'a'in b;", "a in'b';", "a instanceof b;", "[]in[];", "1 in a;", "/a/ in b;", "/a/g in b;");
        prints("1. in a", "1. in a;");
        prints("1.5 in a", "1.5 in a;");
        prints("a in .5", "a in.5;");
        prints("typeof (a)", "typeof a;");
        same("typeof'a';", "typeof[];", "typeof-a;", "void 0;", "delete a.b;", "typeof typeof a;", "!a;", "!!a;", "~-a;", "-!a;");
        prints("a + +b", "a+ +b;");
        prints("a + ++b", "a+ ++b;");
        prints("a++ + b", "a++ +b;");
        prints("a++ + ++b", "a++ + ++b;");
        prints("a - -b", "a- -b;");
        prints("a-- - --b", "a-- - --b;");
        prints("- -a", "- -a;");
        prints("- --a", "- --a;");
        prints("+ +a", "+ +a;");
        prints("+-a", "+-a;");
        prints("a + -b", "a+-b;");
        prints("a - +b", "a-+b;");
        prints("a / /b/", "a/ /b/;");
        prints("/a/ / b", "/a/ /b;");
        prints("/a/g / b", "/a/g/b;");
        prints("/a/ / /b/", "/a/ / /b/;");
        prints("a = /=/", "a=/=/;");
        prints("a /= b", "a/=b;");
        prints("a / b / c", "a/b/c;");
        prints("a < !--b", "a<!--b;");
        prints("a-- > b", "a-->b;");
        prints("a && b", "a&&b;");
        same("throw/a/;", "throw'a';", "throw a;", "do;while(a);", "do a;while(b);", "do{}while(a);", "else_;", "if(a);else b;", "if(a);else{}");
        same("function f(){return'a';}", "function f(){return a;}", "function f(){return/a/;}", "function f(){return-1;}", "var a=/b/;");
        same("switch(a){case 1:case'b':case/c/:default:}", "switch(a){case b:}", "a:for(;;)continue a;", "a:break a;", "/a/.b;", "'a'.b;");
        prints("for(var a in/b/);", "for(var a in/b/);");
        prints("for(var a=/b/ in c);", "for(var a=/b/ in c);");
        prints("for(var a=1 in c);", "for(var a=1 in c);");
        prints("for(a[0] in b);", "for(a[0]in b);");
        same("({1:a,b:2,'c':3,if:4});", "a.if.in;", "[a,,b];", "[,];", "[,,];", "[a,,];", "[];", "a?b:c;", "a?.5:1;", "a=b=c;");
        prints("[a,]", "[a];");
        prints("({a:b,})", "({a:b});");
        prints("a /*b*/ . c // d", "a.c;");
    }

    private static void bracketsOfOperands() {
        prints("(a)", "a;");
        prints("((a+b))", "a+b;");
        prints("(a*b)+c", "a*b+c;");
        same("(a+b)*c;", "a*(b+c);", "a-(b-c);", "a-b-c;", "a*(b/c);", "a+(b+c);", "(a||b)&&c;", "a||b&&c;", "a<b<c;", "a<(b<c);");
        prints("(a-b)-c", "a-b-c;");
        prints("a||(b&&c)", "a||b&&c;");
        same("(a,b),c;", "a,(b,c);", "a=(b,c);", "f((a,b));", "[(a,b)];", "({a:(b,c)});", "var a=(b,c);", "a?(b,c):(d,e);", "(a,b)?c:d;");
        prints("f((a),(b=c))", "f(a,b=c);");
        prints("a[(b,c)]", "a[b,c];");
        prints("if((a,b))c", "if(a,b)c;");
        same("(a=b)+c;", "a+(b=c);", "(a=b)?c:d;", "(a=b).c;", "(a=b)[c];", "(a=b)();", "-(a=b);", "a||(b=c);");
        same("var a=b=c;", "[a=b];", "({a:b=c});", "a=b,c;", "f(a=b,c=d);", "a[b=c];");
        prints("a=(b=c)", "a=b=c;");
        prints("a?(b=c):(d=e)", "a?b=c:d=e;");
        same("(a?b:c)?d:e;", "(a?b:c)+d;", "a+(b?c:d);", "(a?b:c).d;", "!(a?b:c);");
        prints("a?(b?c:d):(e?f:g)", "a?b?c:d:e?f:g;");
        prints("(a||b)?c:d", "a||b?c:d;");
        same("-(a+b);", "(-a).b;", "(-a)[b];", "(-a)();", "(a++).b;", "-a++;", "!(a,b);", "typeof(a+b);", "(typeof a).b;", "(typeof a)();");
        prints("-(-a)", "- -a;");
        prints("-(a.b)", "-a.b;");
        prints("(-a)+b", "-a+b;");
        prints("(a)++", "a++;");
        prints("(a.b)=c", "a.b=c;");
        prints("((a).b).c", "a.b.c;");
        same("(1).a;", "(1.).a;", "(1.5).a;", "(0x1).a;", "(1e5).a;", "1[a];", "1();", "(1).a.b;", "-(1).a;");
        prints("1..a", "(1.).a;");
        prints("1.5.a", "(1.5).a;");
        prints("(1)[a]", "1[a];");
        same("a in b in c;", "a in(b in c);", "new(a,b)();", "new(a+b)(c);");
    }

    private static void bracketsOfNew() {
        same("new(a())();", "new(a().b)();", "new(a()[b])(c);", "new(a.b())();", "new(a()())();", "new a.b.c();", "new a[b()]();", "new(-a)();");
        prints("new (a.b)", "new a.b();");
        prints("new (a[b()])", "new a[b()]();");
        prints("new (a())", "new(a())();");
        prints("new (a().b.c)(d)", "new(a().b.c)(d);");
        prints("new (new a())", "new new a()();");
        prints("new (new a().b())", "new(new a().b())();");
        prints("new (function(){a()})", "new function(){a();}();");
        prints("new (function(){}())", "new(function(){}())();");
        prints("new ((a()+b).c)", "new(a()+b).c();");
        prints("new ([a()])", "new[a()]();");
        prints("new 1..a", "new(1.).a();");
        prints("new (1)", "new 1();");
        prints("new (a)(b)(c)", "new a(b)(c);");
    }

    private static void bracketsOfFor() {
        same("for(var a=(b in c);;);", "for(a=(b in c);;);", "for((a in b);;);", "for(var a=(b in c)in d);", "for(a?(b in c):(d in e);;);");
        same("for(-(a in b);;);", "for(a,(b in c);;);", "for(var a=1+(b in c);;);", "for((a in b)+c;;);", "for(a||(b in c);;);");
        prints("for(var a=((b in c)||d);;);", "for(var a=(b in c)||d;;);");
        prints("for((a in b in c);;);", "for((a in b in c);;);");
        prints("for(a[(b in c)];;);", "for(a[b in c];;);");
        prints("for(a((b in c));;);", "for(a(b in c);;);");
        prints("for(new a((b in c));;);", "for(new a(b in c);;);");
        prints("for([(a in b)];;);", "for([a in b];;);");
        prints("for(({a:(b in c)});;);", "for({a:b in c};;);");
        prints("for(a=function(){(b in c);for(;(d in e););};;);", "for(a=function(){b in c;for(;d in e;);};;);");
        prints("for((a,(b in c)).d;;);", "for((a,b in c).d;;);");
        prints("for(((a in b)+c)*d;;);", "for(((a in b)+c)*d;;);");
        prints("for(;(a in b);(c in d));", "for(;a in b;c in d);");
        prints("for(a in(b in c));", "for(a in b in c);");
        prints("for(var a in(b in c))(d in e)", "for(var a in b in c)d in e;");
        prints("for((a instanceof b);;);", "for(a instanceof b;;);");
        prints("for((a)in b);", "for(a in b);");
    }

    private static void bracketsOfStatements() {
        same("({});", "({a:b});", "({}.a);", "(function(){});", "(function(){}());", "({}+a);", "({},a);", "({}?a:b);");
        prints("({}).a", "({}.a);");
        prints("(function(){})()", "(function(){}());");
        prints("(function(){}).a=b", "(function(){}.a=b);");
        prints("({a:b}).a++", "({a:b}.a++);");
        prints("({})[a](b).c,d", "({}[a](b).c,d);");
        prints("(function(){},a)", "(function(){},a);");
        prints("(({}),a).b", "({},a).b;");
        prints("(({}+a)*b)", "({}+a)*b;");
        prints("-{}", "-{};");
        prints("!function(){}()", "!function(){}();");
        prints("new {}", "new{}();");
        prints("a={}", "a={};");
        prints("[{}]", "[{}];");
        prints("if(a)({})", "if(a)({});");
        prints("a:({}.b)", "a:({}.b);");
        prints("throw{}", "throw{};");
        prints("for({};;)({})", "for({};;)({});");
        prints("if({})a", "if({})a;");
        same("('a');", "'a';", "('use strict');", "'use strict';", "'a'+b;", "'a'.b;", "{('a');}", "a:('b');", "'a';('b');'c';");
        prints("(('a'))", "('a');");
        prints("('a')+b", "'a'+b;");
        prints("('a').b", "'a'.b;");
        prints("('a'),b", "'a',b;");
        prints("(a)", "a;");
        prints("(1)", "1;");
        prints("(/a/)", "/a/;");
        prints("throw('a')", "throw'a';");
    }

    private static void statements() {
        same("", "{}", "{a;b;}", "var a,b=c;", "if(a)b;else c;", "if(a)if(b)c;else d;", "if(a){if(b)c;}else d;", "while(a)b;", "do{a;}while(b);");
        same("for(;;);", "for(a;b;c)d;", "for(var a=1,b;;);", "for(a in b)c;", "for(var a in b);", "for(var a=b in c);", "for(a,b;c,d;e,f){}");
        same("a:b:c;", "switch(a){}", "switch(a){case b:c;d;case e:default:f;}", "switch(a){default:}", "try{}catch(a){}", "try{}finally{}");
        same("try{a;}catch(b){c;}finally{d;}", "function f(){}", "function f(a,b){c;}", "function f(){function g(){}}", "a=function(){};", "a=function f(b){};");
        same("for(;;)break;", "for(;;)continue;", "a:{break a;}", "for(;;)var a=1;", "if(a)var b;", "this;", "this.a;", "null;", "true;", "false;");
        same("'\\\n';", "a>>>=b;", "a===b;", "a!==b;", "f(a)(b)[c].d;", "for(;;)for(var a;;);");
    }
}
