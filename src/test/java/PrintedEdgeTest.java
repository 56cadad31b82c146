/** Promise 7, sentence by sentence, with PRINTED. */
final class PrintedEdgeTest {
    private static final Edge EDGE = new Edge("PrintedEdgeTest");

    public static void main(String[] args) {
        firstAndLast();
        nothingPrinted();
        longestPrinted();
        withoutBlanks();
        nameBehindName();
        nameBehindNumberOrPattern();
        plusMinusSlash();
        allSemicolons();
        everyNew();
        operandsThatBindLess();
        oneLineOnTheRight();
        everyPlaceOfAnX();
        membersOfNew();
        inOfAFor();
        numbersAheadOfADot();
        firstTokenOfAStatement();
        stringsInBrackets();
        EDGE.end();
    }

    private static void firstAndLast() {
        EDGE.sentence("Character i of the printed tree, from 0 on; for i = -1 how many it has; NONE if there is none");
        ScriptFront front = new ScriptFront();
        Probe.parsed(front, " ab ");
        int[] numbers = {-1, 0, 1, 2, 3, 4, -2, 480, 1023, 1024, Integer.MAX_VALUE, Integer.MIN_VALUE};
        int[] due = {3, 'a', 'b', ';', -1, -1, -1, -1, -1, -1, -1, -1};
        for (int i = 0; i < numbers.length; i++) {
            EDGE.due("printed(" + numbers[i] + ")", front.printed(numbers[i]), due[i]);
        }
        Probe.parsed(front, ";");
        EDGE.due("printed(-1) of ;", front.printed(-1), 1);
        EDGE.due("printed(0) of ;", front.printed(0), (int) ';');
        EDGE.due("printed(1) of ;", front.printed(1), ScriptFront.NONE);
    }

    private static void nothingPrinted() {
        EDGE.sentence("for i = -1 how many it has; NONE if there is none");
        ScriptFront front = new ScriptFront();
        EDGE.due("printed(-1) without a tree", front.printed(-1), 0);
        EDGE.due("printed(0) without a tree", front.printed(0), ScriptFront.NONE);
        Probe.parsed(front, "a b");
        EDGE.due("printed(-1) behind a fault alone", front.printed(-1), 0);
        EDGE.due("printed(0) behind a fault alone", front.printed(0), ScriptFront.NONE);
        Probe.parsed(front, "a");
        Probe.parsed(front, "");
        EDGE.due("printed(-1) of the empty text", front.printed(-1), 0);
        EDGE.due("printed(0) of the empty text", front.printed(0), ScriptFront.NONE);
        Probe.parsed(front, "ab");
        Probe.parsed(front, "c d");
        EDGE.due("printed behind a fault", Probe.printed(front), "ab;");
        Probe.typed(front, "e");
        EDGE.due("printed behind type", Probe.printed(front), "ab;");
    }

    private static void longestPrinted() {
        EDGE.sentence("for i = -1 how many it has");
        EDGE.prints(";".repeat(480), ";".repeat(480));
        EDGE.prints("a".repeat(480), "a".repeat(480) + ";");
        EDGE.prints("a\n".repeat(240), "a;".repeat(240));
        EDGE.prints("{a}".repeat(160), "{a;}".repeat(160));
        EDGE.prints("{1..a}".repeat(80), "{(1.).a;}".repeat(80));
        EDGE.prints("{new a}".repeat(68), "{new a();}".repeat(68));
        ScriptFront front = new ScriptFront();
        Probe.parsed(front, "{1..a}".repeat(80));
        EDGE.due("printed(-1)", front.printed(-1), 720);
        EDGE.due("printed(719)", front.printed(719), (int) '}');
        EDGE.due("printed(720)", front.printed(720), ScriptFront.NONE);
    }

    private static void withoutBlanks() {
        EDGE.sentence("PRINTED: tokens without blanks");
        EDGE.prints(" a = b + c ; ", "a=b+c;");
        EDGE.prints("if ( a ) b ; else { c ; }", "if(a)b;else{c;}");
        EDGE.prints("for ( var a = 1 , b ; a < b ; a ++ ) { }", "for(var a=1,b;a<b;a++){}");
        EDGE.prints("a /*b*/ ( c ) [ d ] . e // f", "a(c)[d].e;");
        EDGE.prints("switch ( a ) { case 'b' : default : }", "switch(a){case'b':default:}");
        EDGE.prints("try { } catch ( a ) { } finally { }", "try{}catch(a){}finally{}");
        EDGE.prints("function f ( a , b ) { return ( a ) ; }", "function f(a,b){return a;}");
        EDGE.prints("a = function ( ) { }", "a=function(){};");
        EDGE.prints("a ? b : c", "a?b:c;");
        EDGE.prints("[ a , , b , ]", "[a,,b];");
        EDGE.prints("( { a : b , 'c' : d , } )", "({a:b,'c':d});");
        EDGE.prints("do ; while ( a )", "do;while(a);");
        EDGE.prints("a : for ( b in [ ] ) break a", "a:for(b in[])break a;");
        EDGE.prints("'a b' + \"c  d\" + / e /", "'a b'+\"c  d\"+/ e /;");
    }

    private static void nameBehindName() {
        EDGE.sentence("but one between two, if the second one begins with a name character and the first one ends with one");
        EDGE.same("a in b;", "a instanceof b;", "typeof a;", "void 0;", "delete a.b;", "new a();", "throw a;", "var a;", "do a;while(b);",
            "if(a);else b;", "if(a);else if(b);");
        EDGE.same("a:for(;;)break a;", "a:for(;;)continue a;", "switch(a){case b:case 1:}", "function f(){return a;}",
            "(function f(){});", "typeof typeof a;", "a in typeof b;");
        EDGE.same("'a'in b;", "a in'b';", "[]in a;", "typeof'a';", "typeof-a;", "typeof[];", "typeof{};", "throw-a;", "case_;",
            "if(a);else;", "if(a);else{}", "do;while(a);", "do{}while(a);");
        EDGE.prints("return_ in $a", "return_ in $a;");
        EDGE.prints("a in .5", "a in.5;");
        EDGE.prints("function f(){return .5}", "function f(){return.5;}");
        EDGE.prints("typeof (a,b)", "typeof(a,b);");
        EDGE.prints("new (a,b)", "new(a,b)();");
        EDGE.prints("a++ in b", "a++in b;");
        EDGE.prints("a in ++b", "a in++b;");
        EDGE.prints("f() in b", "f()in b;");
        EDGE.prints("for(var a in b);", "for(var a in b);");
        EDGE.prints("for(a[0] in b);", "for(a[0]in b);");
    }

    private static void nameBehindNumberOrPattern() {
        EDGE.sentence("or is a NUMBER or PATTERN");
        EDGE.same("1 in a;", "1. in a;", ".5 in a;", "1e5 in a;", "0x1 in a;", "1. instanceof a;", "/a/ in b;", "/a/g in b;",
            "/a/ instanceof b;", "for(var a=1. in b);", "for(var a=/b/ in c);");
        EDGE.same("'a'in b;", "1.+a;", "/a/+b;", "/a/.b;", "1.[a];", "[1.]in a;", "[/a/]in b;", "a?1.:b;", "a?/b/:c;", "({1:a});",
            "({1.:a});");
        EDGE.prints("(1.,2)", "1.,2;");
        EDGE.prints("if(1.)a", "if(1.)a;");
        EDGE.prints("if(/a/)b", "if(/a/)b;");
    }

    private static void plusMinusSlash() {
        EDGE.sentence("if one ends and the other begins with +, or both with -, or both with /");
        EDGE.same("a+ +b;", "a+ ++b;", "a++ +b;", "a++ + ++b;", "+ +a;", "+ ++a;", "a+ + +b;");
        EDGE.same("a- -b;", "a- --b;", "a-- -b;", "a-- - --b;", "- -a;", "- --a;", "a- - -b;");
        EDGE.same("a+-b;", "a-+b;", "a+--b;", "a-++b;", "a++-b;", "a--+b;", "+-a;", "-+a;", "-++a;", "+--a;", "~-a;", "!+a;", "!--a;");
        EDGE.same("a/ /b/;", "/a/ /b;", "/a/ / /b/;", "a/ /=/;", "/a/g/b;", "/a/g/ /b/;", "a*/b/;", "/a/*b;", "a=/b/;", "a/b/c;", "a/=b;",
            "a/=/b/;");
        EDGE.same("a<!--b;", "a-->b;", "a*+b;", "a%-b;", "a&&b;", "a&b;", "a<b;", "a=-b;", "a=+b;", "a+=+b;", "a-=-b;", "a=!b;", "a==!b;",
            "a+(b+c);", "a-(-b-c);", "'+'+'+';");
    }

    private static void allSemicolons() {
        EDGE.sentence("All semicolons are there (behind 5, 2, 7, 11, 12, 13, 17, and 4)");
        EDGE.prints("a", "a;");
        EDGE.prints("var a", "var a;");
        EDGE.prints("do;while(a)", "do;while(a);");
        EDGE.prints("for(;;)continue", "for(;;)continue;");
        EDGE.prints("for(;;)break", "for(;;)break;");
        EDGE.prints("a:for(;;)continue a", "a:for(;;)continue a;");
        EDGE.prints("function f(){return}", "function f(){return;}");
        EDGE.prints("throw a", "throw a;");
        EDGE.same(";", ";;", "{;}", "for(;;);", "a:;");
        EDGE.same("{}", "if(a){}", "while(a){}", "for(;;){}", "for(a in b){}", "switch(a){}", "a:{}", "try{}finally{}", "function f(){}",
            "for(var a;;){}", "for(var a in b){}");
        EDGE.prints("{a}b", "{a;}b;");
        EDGE.prints("if(a)b\nelse c", "if(a)b;else c;");
        EDGE.prints("for(;;)var a", "for(;;)var a;");
        EDGE.prints("for(var a in b)var c", "for(var a in b)var c;");
    }

    private static void everyNew() {
        EDGE.sentence("Each new has its ( )");
        EDGE.prints("new a", "new a();");
        EDGE.prints("new a()", "new a();");
        EDGE.prints("new a(b)", "new a(b);");
        EDGE.prints("new new a", "new new a()();");
        EDGE.prints("new new a(b)", "new new a(b)();");
        EDGE.prints("new a.b[c]", "new a.b[c]();");
        EDGE.prints("(new a).b", "new a().b;");
        EDGE.prints("(new a)()", "new a()();");
        EDGE.prints("new a+b", "new a()+b;");
        EDGE.prints("new (new a().b)", "new new a().b();");
    }

    /** Each sign between operands with the signs of the next line that binds less, and the other way round. */
    private static void operandsThatBindLess() {
        EDGE.sentence("an operand that binds less than its sign");
        String[] lines = {"* / %", "+ -", "<< >> >>>", "< > <= >=", "== != === !==", "&", "^", "|", "&&", "||"};
        for (int strong = 0; strong + 1 < lines.length; strong++) {
            for (String sign : lines[strong].split(" ")) {
                for (String weak : lines[strong + 1].split(" ")) {
                    EDGE.same("(a" + weak + "b)" + sign + "c;", "a" + sign + "(b" + weak + "c);");
                    EDGE.prints("(a" + sign + "b)" + weak + "c", "a" + sign + "b" + weak + "c;");
                    EDGE.prints("a" + weak + "(b" + sign + "c)", "a" + weak + "b" + sign + "c;");
                }
            }
        }
        EDGE.same("(a||b)*c;", "a*(b||c);", "(a?b:c)||d;", "a||(b?c:d);", "(a=b)||c;", "a||(b=c);", "(a,b)||c;", "a||(b,c);");
        EDGE.same("-(a*b);", "!(a||b);", "!(a?b:c);", "!(a=b);", "!(a,b);", "typeof(a+b);", "(a?b:c)?d:e;", "(a=b)?c:d;", "(a,b)?c:d;");
        EDGE.same("(-a).b;", "(-a)[b];", "(-a)();", "(a++).b;", "(a*b).c;", "(a?b:c).d;", "(a=b).c;", "(a,b).c;", "(a,b)[c];",
            "(a,b)(c);", "(!a)();", "(a++)();");
        EDGE.prints("(a||b)?c:d", "a||b?c:d;");
        EDGE.prints("a?(b||c):(d||e)", "a?b||c:d||e;");
        EDGE.prints("a=(b||c)", "a=b||c;");
        EDGE.prints("(-a)*b", "-a*b;");
        EDGE.prints("-(-a)", "- -a;");
        EDGE.prints("-(a++)", "-a++;");
        EDGE.prints("-(a.b)", "-a.b;");
        EDGE.prints("(a.b).c", "a.b.c;");
        EDGE.prints("(a())()", "a()();");
        EDGE.prints("(a)", "a;");
        EDGE.prints("(a).b", "a.b;");
        EDGE.prints("(a)=b", "a=b;");
        EDGE.prints("((a))++", "a++;");
        EDGE.prints("(this).a", "this.a;");
        EDGE.prints("(a[b])(c)", "a[b](c);");
    }

    private static void oneLineOnTheRight() {
        EDGE.sentence("of one line on the right");
        for (String line : "* / %,+ -,<< >> >>>,< > <= >=,== != === !==,&,^,|,&&,||".split(",")) {
            for (String sign : line.split(" ")) {
                for (String other : line.split(" ")) {
                    EDGE.same("a" + sign + "(b" + other + "c);", "a" + sign + "b" + other + "c;");
                    EDGE.prints("(a" + sign + "b)" + other + "c", "a" + sign + "b" + other + "c;");
                }
            }
        }
        EDGE.same("a in(b in c);", "a in b in c;", "a instanceof(b in c);");
        EDGE.prints("a=(b=c)", "a=b=c;");
        EDGE.prints("a?b:(c?d:e)", "a?b:c?d:e;");
    }

    private static void everyPlaceOfAnX() {
        EDGE.sentence("Brackets stand round a node where it would not be read so without (..); nowhere else");
        EDGE.same("a=(b,c);", "var a=(b,c);", "a((b,c));", "a(b,(c,d));", "new a((b,c));", "[(a,b)];", "[a,(b,c)];", "({a:(b,c)});",
            "a?(b,c):d;", "a?b:(c,d);", "(a,b),c;", "a,(b,c);");
        EDGE.same("a,b;", "a[b,c];", "if(a,b);", "while(a,b);", "do;while(a,b);", "for(a,b;c,d;e,f);", "for(a in b,c);",
            "switch(a,b){case c,d:}", "throw a,b;", "function f(){return a,b;}");
        EDGE.same("a=b?c:d;", "var a=b=c;", "a(b=c);", "a(b?c:d);", "[a=b];", "({a:b=c});", "a?b=c:d=e;", "a=b,c=d;", "a[b=c];",
            "if(a=b);", "throw a=b;");
        EDGE.prints("if((a,b))c", "if(a,b)c;");
        EDGE.prints("a[(b,c)]", "a[b,c];");
        EDGE.prints("throw(a,b)", "throw a,b;");
        EDGE.prints("a((b))", "a(b);");
        EDGE.prints("var a=(b=c)", "var a=b=c;");
        EDGE.prints("a?(b=c):(d)", "a?b=c:d;");
        EDGE.prints("while((a));", "while(a);");
        EDGE.prints("switch((a)){case(b):}", "switch(a){case b:}");
    }

    private static void membersOfNew() {
        EDGE.sentence("the MEMBER of new, if it has a call outside brackets");
        EDGE.same("new(a())();", "new(a().b)();", "new(a()[b])();", "new(a.b())();", "new(a()())();", "new(a().b.c)(d);",
            "new(new a().b())();", "new(function(){}())();");
        EDGE.same("new a[b()]();", "new a[b()].c();", "new[a()]();", "new function(){a();}();", "new(a()+b)();", "new(a()+b).c();",
            "new(-a())();", "new a(b());", "new(a,b())();");
        EDGE.prints("new (a())[b]", "new(a()[b])();");
        EDGE.prints("new (a()).b", "new(a().b)();");
        EDGE.prints("new (a.b)", "new a.b();");
        EDGE.prints("new (a[b()])", "new a[b()]();");
        EDGE.prints("new (new a())", "new new a()();");
        EDGE.prints("new ({a:b()})", "new{a:b()}();");
        EDGE.same("new(-a)();", "new(a+b)();", "new(a=b)();", "new(a,b)();", "new(a?b:c)();", "new(a++)();");
    }

    private static void inOfAFor() {
        EDGE.sentence("in in the first part of a for, round that 46");
        EDGE.same("for((a in b);;);", "for(a=(b in c);;);", "for(var a=(b in c);;);", "for(var a=(b in c)in d);", "for(a,(b in c);;);",
            "for(a?(b in c):(d in e);;);", "for(a||(b in c);;);");
        EDGE.same("for(-(a in b);;);", "for((a in b)==c;;);", "for(a==(b in c);;);", "for((a in b).c;;);", "for((a in b in c);;);",
            "for(var a,b=(c in d);;);");
        EDGE.same("for(a[b in c];;);", "for(a(b in c);;);", "for(new a(b in c);;);", "for([a in b];;);", "for({a:b in c};;);",
            "for(a=function(){b in c;};;);", "for((a,b in c).d;;);", "for(a[b in c]in d);");
        EDGE.same("for(;a in b;);", "for(;;a in b);", "for(a in b in c);", "for(;;)a in b;", "for(var a in b)c in d;", "a in b;",
            "for(a instanceof b;;);", "for(a<b;;);");
        EDGE.prints("for(;(a in b););", "for(;a in b;);");
        EDGE.prints("for(a[(b in c)];;);", "for(a[b in c];;);");
        EDGE.prints("for((a instanceof b);;);", "for(a instanceof b;;);");
        EDGE.prints("for(a in(b in c));", "for(a in b in c);");
        EDGE.prints("for(((a in b)in c);;);", "for((a in b in c);;);");
        EDGE.prints("for((a in(b in c));;);", "for((a in(b in c));;);");
    }

    private static void numbersAheadOfADot() {
        EDGE.sentence("a NUMBER ahead of .");
        EDGE.same("(1).a;", "(1.).a;", "(.5).a;", "(1e5).a;", "(0x1).a;", "(1).a.b;", "(1).a();", "-(1).a;", "new(1).a();");
        EDGE.same("1[a];", "1();", "1+a;", "-1;", "1,a;", "[1];", "'1'.a;", "/1/.a;", "[1].a;", "a[1].b;", "(-1).a;");
        EDGE.prints("1..a", "(1.).a;");
        EDGE.prints("1.5.a", "(1.5).a;");
        EDGE.prints("1 .a", "(1).a;");
        EDGE.prints("0x1.a", "(0x1).a;");
        EDGE.prints("(1)[a]", "1[a];");
        EDGE.prints("(1)", "1;");
    }

    private static void firstTokenOfAStatement() {
        EDGE.sentence("round the X of a 5 whose first token would be { or function");
        EDGE.same("({});", "({a:b});", "(function(){});", "(function f(){});", "({}.a);", "({}[a]);", "({}());", "({}+a);", "({}?a:b);",
            "({},a);", "({}.a=b);", "({}.a++);", "(function(){}());");
        EDGE.prints("(function(){})()", "(function(){}());");
        EDGE.prints("({}).a", "({}.a);");
        EDGE.prints("({}),a", "({},a);");
        EDGE.prints("(({})+a)*b", "({}+a)*b;");
        EDGE.prints("({},a).b", "({},a).b;");
        EDGE.same("{({});}", "if(a)({});", "a:({});", "for(;;)({});", "switch(a){case b:({});}", "function f(){({});}");
        EDGE.same("-{};", "!function(){};", "a={};", "[{}];", "a({});", "new{}();", "typeof{};", "a=function(){};", "a,{};", "a+{};",
            "throw{};", "var a={};", "if({});", "for({};;);", "function f(){return{};}");
        EDGE.same("for(function(){};;);", "while({});", "switch({}){case{}:}", "for(a in{});", "[function(){}];");
    }

    private static void stringsInBrackets() {
        EDGE.sentence("and round a STRING alone in a 5 that had brackets; nowhere else");
        EDGE.same("('a');", "'a';", "('use strict');", "'use strict';", "'a';('b');'c';", "{('a');}", "a:('b');",
            "function f(){('a');'b';}", "a;('b');");
        EDGE.prints("(('a'))", "('a');");
        EDGE.prints("( \"a\" )", "(\"a\");");
        EDGE.prints("('a')+b", "'a'+b;");
        EDGE.prints("('a').b", "'a'.b;");
        EDGE.prints("('a'),b", "'a',b;");
        EDGE.prints("('a'+b)", "'a'+b;");
        EDGE.prints("a=('b')", "a='b';");
        EDGE.prints("throw('a')", "throw'a';");
        EDGE.prints("if(('a'))b", "if('a')b;");
        EDGE.prints("(1)", "1;");
        EDGE.prints("(/a/)", "/a/;");
        EDGE.prints("(null)", "null;");
        EDGE.prints("(a)", "a;");
    }
}
