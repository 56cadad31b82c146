/** Promise 3, PATTERNS, sentence by sentence. */
final class PatternEdgeTest {
    private static final Edge EDGE = new Edge("PatternEdgeTest");

    public static void main(String[] args) {
        whereAnOperandIsDue();
        whereASignIsDue();
        whereNeitherIsDue();
        upToTheNextSlash();
        betweenBrackets();
        noLineEnd();
        firstCharacter();
        letters();
        nothingOfANameBehind();
        EDGE.end();
    }

    /** A pattern without an end is fault 1 at its begin; a sign there would be another fault, or none. */
    private static void whereAnOperandIsDue() {
        EDGE.sentence("PATTERNS: where an operand is due and a / or /= would be next");
        String[] ahead = {
            "", ";", "{}", "{", "a;", "a:", "(", "[", "[a,", "[,", "a(", "a(b,", "a[", "a=", "a/=", "a,", "a+", "a/ ", "a&&", "a?",
            "a?b:", "!",
            "typeof ", "++", "a\n++", "new ", "({a:", "var a=", "if(", "if(a)", "if(a);else ", "do ", "do;while(", "do;while(a)\n",
            "do;while(a);",
            "while(", "while(a)", "for(", "for(;", "for(;;", "for(;;)", "for(var a=", "for(a in ", "for(a in b)", "switch(",
            "switch(a){case ",
            "switch(a){case b:", "switch(a){default:", "throw ", "try{", "try{}catch(e){", "try{}finally{", "try{}finally{}",
            "function f(){",
            "function f(){}", "(function(){return ", "(function(){return\n", "a in ", "a instanceof ", "if(a){}", "var a\n", "break\n",
            "continue a\n"
        };
        for (String text : ahead) {
            EDGE.wrong(1, text.length(), text + "/b", text + "/=b", text + "/b\n/", text + "/=\n/");
        }
        EDGE.x("/b/", "35");
        EDGE.x("/=/", "35");
        EDGE.x("/=b/g", "35");
        EDGE.x("a=/=/", "48[31 35]");
        EDGE.x("!/=/", "45[35]");
    }

    private static void whereASignIsDue() {
        EDGE.sentence("PATTERNS: where an operand is due and a / or /= would be next");
        String[] operands = {
            "a", "this", "null", "1", "'a'", "/a/g", "[]", "({})", "(a)", "a()", "a[b]", "a.b", "a.if", "new a", "new a()", "a\n",
            "(a)\n", "a/**/", "(function(){})"
        };
        for (String text : operands) {
            String signed = Probe.tree(text + "+b+g");
            EDGE.due(text + "/b/g", Probe.tree(text + "/b/g"), signed);
            EDGE.due(text + "/b", Probe.tree(text + "/b"), Probe.tree(text + "+b"));
            EDGE.due(text + "/=b", Probe.tree(text + "/=b"), Probe.tree(text + "*=b"));
        }
        EDGE.x("a++/b/g", "46[46[44[31] 31] 31]");
        EDGE.x("a++\n/b/g", "46[46[44[31] 31] 31]");
        EDGE.x("({}/b/g)", "46[46[37 31] 31]");
        EDGE.x("(function(){}/b/g)", "46[46[39[23] 31] 31]");
        EDGE.x("a/=/=/", "48[31 35]");
    }

    private static void whereNeitherIsDue() {
        EDGE.sentence("2 SYNTAX: the first token that can't stand there");
        String[] ahead = {
            "var ", "break ", "for(;;)continue ", "a.", "({", "({a:b,", "function ", "function f(", "try ", "try{}", "try{}catch(",
            "switch(a){", "switch(a)", "for", "if",
            "do;while(a)", "var a", "function f()", "throw a;try{}catch(e)"
        };
        for (String text : ahead) {
            EDGE.wrong(2, text.length(), text + "/", text + "/b", text + "/b/", text + "/=");
        }
    }

    private static void lengths(int length, String... texts) {
        for (String text : texts) {
            EDGE.due("LENGTH of " + text, Probe.column(text, 2), "0 0 " + length);
        }
    }

    private static void upToTheNextSlash() {
        EDGE.sentence("from / to the next / that is not behind a \\");
        lengths(3, "/a/", "/=/", "/'/", "/\"/", "/(/", "/]/", "/ /", "/\t/");
        lengths(4, "/\\//", "/\\a/", "/\\\\/", "/\\[/", "/a*/", "/\\]/");
        lengths(6, "/a\\/b/", "/\\/\\//");
        EDGE.wrong(1, 0, "/", "/a", "/\\/", "/a\\/", "/\\\\\\/", "/\\");
        EDGE.x("/a/ /b/g", "46[46[35 31] 31]");
        EDGE.x("/a/*b", "46[35 31]");
    }

    private static void betweenBrackets() {
        EDGE.sentence("nor between [ and ]");
        lengths(5, "/[/]/", "/[[]/", "/[a]/", "/[*]/");
        lengths(7, "/[//]a/", "/[\\]/]/", "/[/[/]/", "/[/a]]/", "/[a]\\//");
        EDGE.wrong(1, 0, "/[/", "/[a/", "/[\\]/", "/[/]", "/[/[/", "/[]a[/");
        EDGE.x("/]/", "35");
        EDGE.x("/\\[/", "35");
        EDGE.x("/[]/", "35");
        EDGE.x("/a]/", "35");
    }

    private static void noLineEnd() {
        EDGE.sentence("no line end in it");
        EDGE.wrong(1, 0, "/\n/", "/\r/", "/a\n/", "/a\r/", "/\\\n/", "/\\\r/", "/[\n]/", "/[\r]/", "/[\\\n]/", "/=\n/");
        EDGE.fine("/\t/", "/ /", "/a/\n", "/\\n/");
    }

    private static void firstCharacter() {
        EDGE.sentence("the first character neither / nor *");
        EDGE.tree("//", "0");
        EDGE.tree("//g", "0");
        EDGE.tree("/**/", "0");
        EDGE.wrong(1, 0, "/*/", "/*/g");
        EDGE.wrong(2, 5, "a=//g", "a=//*");
        EDGE.fine("/+/", "/[*]/", "/[/]/", "/\\//", "/\\*/", "/a*/", "/=*/");
    }

    private static void letters() {
        EDGE.sentence("then any of g, i, m, each once at most");
        for (String letters : ",g,i,m,gi,ig,gm,mg,im,mi,gim,gmi,igm,img,mgi,mig".split(",")) {
            EDGE.due("LENGTH of /a/" + letters, Probe.column("/a/" + letters, 2), "0 0 " + (3 + letters.length()));
        }
        for (String letters : "gg,ii,mm,gig,iggi,gimg,gimi,gimm,mim,ggi,gii,G,I,M,y,s,u,h,j,l,n,f".split(",")) {
            EDGE.wrong(1, 0, "/a/" + letters);
        }
    }

    private static void nothingOfANameBehind() {
        EDGE.sentence("no name character behind it");
        for (String behind : "a z A Z 0 9 $ _ in if".split(" ")) {
            EDGE.wrong(1, 0, "/a/" + behind, "/a/gim" + behind);
            EDGE.wrong(1, 2, "b=/a/" + behind);
        }
        EDGE.fine("/a/.b", "/a/[b]", "/a/()", "/a/ in b", "/a/g in b", "/a/\nb", "/a/;b", "/a/+b", "/a/g,b");
        EDGE.wrong(2, 4, "/a/ b");
    }
}
