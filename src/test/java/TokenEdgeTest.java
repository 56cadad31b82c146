/** Promise 3, the terms up to WORDS, sentence by sentence: which characters are which token, and which are none. */
final class TokenEdgeTest {
    private static final Edge EDGE = new Edge("TokenEdgeTest");
    private static final String ALL = "\t\n\r !\"#$%&'()*+,-./0123456789:;<=>?@ABCDEFGHIJKLMNOPQRSTUVWXYZ[\\]^_`abcdefghijklmnopqrstuvwxyz{|}~";

    public static void main(String[] args) {
        lineEndsAndBlanks();
        lineComments();
        otherComments();
        commentsWithALineEnd();
        longestTokens();
        names();
        hexadecimalNumbers();
        decimalNumbers();
        zeroAhead();
        exponents();
        behindNumbers();
        quotes();
        escapes();
        lineEndsInStrings();
        signs();
        words();
        EDGE.end();
    }

    private static void lineEndsAndBlanks() {
        EDGE.sentence("LINE ENDS are 10 and 13; BLANKS are 9, 32 and these");
        EDGE.put(2, "a\nb", "a\rb", "a\r\nb", "a\n\rb", "a \t\n \tb");
        EDGE.wrong(2, 2, "a b", "a\tb");
        EDGE.wrong(2, 3, "a \tb");
        EDGE.tree("\t\n\r a\t\n\r =\t\n\r b\t\n\r ;\t\n\r ", "0[5[48[31 31]]]");
        EDGE.due("places between blanks", Probe.column("\t\n\r a\t\n\r =\t\n\r b\t\n\r ;\t\n\r ", 1), "0 4 9 4 14");
    }

    private static void lineComments() {
        EDGE.sentence("// up to a line end");
        EDGE.tree("//a\nb", "0[5[31]]");
        EDGE.tree("//a\rb", "0[5[31]]");
        EDGE.tree("//a b ' # /*", "0");
        EDGE.tree("//", "0");
        EDGE.tree("//\n//\r//", "0");
        EDGE.tree("//*\na", "0[5[31]]");
        EDGE.put(2, "a//\nb", "a//\rb", "a//c\n//d\nb");
        EDGE.put(1, "a//b", "a//");
        EDGE.tree("a/ /b/", "0[5[46[31 35]]]");
        EDGE.due("place behind a comment", Probe.column("//a\nb", 1), "0 4 4");
    }

    private static void otherComments() {
        EDGE.sentence("/ * up to the next * / (without blanks)");
        EDGE.tree("/**/a", "0[5[31]]");
        EDGE.tree("/***/a", "0[5[31]]");
        EDGE.tree("/*/*/a", "0[5[31]]");
        EDGE.tree("/*a/b*c//d/*e*/a", "0[5[31]]");
        EDGE.tree("/*'*/a", "0[5[31]]");
        EDGE.wrong(1, 0, "/*", "/*/", "/* *", "/* * /", "/*a", "/*\n", "/*//\n");
        EDGE.wrong(1, 1, "a/*", "a/*/", "a/*b* /");
        EDGE.wrong(1, 4, "/**//*", "/**//*/");
        EDGE.wrong(1, 6, "/**/a*/");
        EDGE.wrong(2, 3, "a/ *b*/c");
        EDGE.wrong(2, 5, "a/**/b");
        EDGE.tree("a/*b*//c", "0[5[46[31 31]]]");
    }

    private static void commentsWithALineEnd() {
        EDGE.sentence("with a line end in it, it counts as one");
        EDGE.put(2, "a/*\n*/b", "a/*\r*/b", "a/*c\nd*/b", "a/**//*\n*/b", "a/*\n*//**/b", "a /*\n*/ b");
        EDGE.wrong(2, 5, "a/**/b");
        EDGE.wrong(2, 7, "a/* \t*/b");
        EDGE.wrong(2, 9, "a/**//**/b");
        EDGE.tree("a/*\n*/++b", "0[5[31] 5[45[31]]]");
        EDGE.tree("a/**/++", "0[5[44[31]]]");
        EDGE.tree("(function(){return/*\n*/a})", "0[5[39[23[13 5[31]]]]]");
        EDGE.tree("(function(){return/**/a})", "0[5[39[23[13[31]]]]]");
        EDGE.wrong(2, 10, "throw/*\n*/a");
        EDGE.fine("throw/**/a");
    }

    private static void length(String text, int node, int want) {
        ScriptFront front = new ScriptFront();
        Probe.parsed(front, text);
        EDGE.due("LENGTH of node " + node + " of " + text, Edge.node(front, node, 2), want);
    }

    private static void longestTokens() {
        EDGE.sentence("TOKENS, the longest ones");
        String between = "< > <= >= == != === !== + - * % << >> >>> & | ^ && || /";
        for (String sign : between.split(" ")) {
            EDGE.x("a" + sign + "b", "46[31 31]");
            length("a" + sign + "b", 2, sign.length());
        }
        for (String sign : "= += -= *= %= <<= >>= >>>= &= |= ^= /=".split(" ")) {
            EDGE.x("a" + sign + "b", "48[31 31]");
            length("a" + sign + "b", 2, sign.length());
        }
        for (String sign : "++ -- + - ~ !".split(" ")) {
            EDGE.x(sign + "a", "45[31]");
            length(sign + "a", 2, sign.length());
        }
        EDGE.x("a+++b", "46[44[31] 31]");
        EDGE.x("a+ ++b", "46[31 45[31]]");
        EDGE.x("a---b", "46[44[31] 31]");
        EDGE.x("a- --b", "46[31 45[31]]");
        EDGE.x("- -a", "45[45[31]]");
        EDGE.x("--a", "45[31]");
        EDGE.wrong(2, 1, "a! =b");
        EDGE.wrong(2, 2, "a**b", "a=>b");
        EDGE.wrong(2, 3, "a= =b", "a> >b", "a& &b", "a> >>b");
        EDGE.wrong(2, 4, "a====b", "a>>>>b", "a!===b", "a++ ++");
        EDGE.wrong(2, 3, "a&&&b", "a|||b", "a<<<b", "a&&=b", "a++b");
        EDGE.x("ab1", "31");
        EDGE.wrong(2, 2, "a b1");
    }

    private static void names() {
        EDGE.sentence("NAMES: letters, $, _, digits, not a digit first");
        for (int i = 0; i < ALL.length(); i++) {
            char c = ALL.charAt(i);
            boolean letter = c >= 'a' && c <= 'z' || c >= 'A' && c <= 'Z' || c == '$' || c == '_';
            boolean digit = c >= '0' && c <= '9';
            EDGE.due("var " + c, Probe.outcome("var " + c).equals("fine"), letter);
            EDGE.due("LENGTH of a" + c + "a", Probe.column("a" + c + "a", 2).equals("0 0 3"), letter || digit);
        }
        EDGE.wrong(1, 4, "var 0a", "var 9a");
        EDGE.wrong(2, 4, "var 0", "var 9");
        EDGE.fine("var a0", "var $", "var _", "var $0", "var _9", "var Zz");
    }

    private static void hexadecimalNumbers() {
        EDGE.sentence("0x or 0X and hexadecimal digits");
        for (String digit : "0 9 a f A F".split(" ")) {
            EDGE.due("0x" + digit, Probe.column("0x" + digit, 2), "0 0 3");
            EDGE.due("0X0" + digit, Probe.column("0X0" + digit, 2), "0 0 4");
        }
        EDGE.wrong(1, 0, "0x", "0X", "0xg", "0xG", "0x0g", "0xx", "0x.", "0x-1", "0x_", "1x0", "00x0");
        EDGE.wrong(2, 3, "0x0:", "0x0.5", "0x0'a'");
        EDGE.x("0x1e+1", "46[33 33]");
        EDGE.x("0x0.a", "41[33]");
    }

    private static void decimalNumbers() {
        EDGE.sentence("decimal digits, perhaps . and digits (digits on one side at least");
        for (String number : "0 5 9 10 1. 0. .0 .5 1.5 0.5 10.05".split(" ")) {
            EDGE.due(number, Probe.column(number, 2), "0 0 " + number.length());
        }
        EDGE.wrong(2, 0, ".", ". 5", ".a");
        EDGE.wrong(2, 2, "1 5", "1 .5", "1..5");
        EDGE.wrong(2, 3, "1.5.5");
        EDGE.wrong(2, 4, "0.5.");
        EDGE.x("1..a", "41[33]");
        EDGE.x("1.5.a", "41[33]");
        EDGE.x(".5.a", "41[33]");
        EDGE.x("1 .a", "41[33]");
    }

    private static void zeroAhead() {
        EDGE.sentence("a 0 with a digit directly behind it is wrong");
        EDGE.wrong(1, 0, "00", "01", "09", "07.5", "00.5", "01e5", "000");
        EDGE.wrong(1, 2, "a=00", "a+01");
        EDGE.fine("0", "0.0", "0.05", "10", "100", "1.00", ".00", "0e00", "1e01", "0x00", "0x01", "1001");
    }

    private static void exponents() {
        EDGE.sentence("perhaps e or E, perhaps + or -, digits");
        for (String number : "1e1 1E1 1e+1 1e-1 1E+10 1E-01 0e0 1.e1 .1e1 1.5e-5".split(" ")) {
            EDGE.due(number, Probe.column(number, 2), "0 0 " + number.length());
        }
        EDGE.wrong(1, 0, "1e", "1E", "1e+", "1e-", "1e+-1", "1e--1", "1e.5", "1e +1", "1ea", "1e1e1", ".5e", "1.e", "1.e+");
        EDGE.wrong(2, 3, "1e5.5");
        EDGE.x("1e5.a", "41[33]");
        EDGE.x("1e5+1", "46[33 33]");
    }

    private static void behindNumbers() {
        EDGE.sentence("no name character may stand behind a number");
        for (int i = 0; i < ALL.length(); i++) {
            char c = ALL.charAt(i);
            boolean name = c >= 'a' && c <= 'z' || c >= 'A' && c <= 'Z' || c >= '0' && c <= '9' || c == '$' || c == '_';
            for (String number : "1.5 1e1 0xf .5".split(" ")) {
                String text = number + c + "z";
                EDGE.due(text, Probe.outcome(text).equals("fault 1 at 0"), name);
            }
        }
        EDGE.wrong(1, 0, "1a", "1$", "1_", "1A", "1Z", "1.a", "1.$", "1in a", "1.5in a", "0x1in a");
        EDGE.fine("1 in a", "1.5 in a", "1\nin a", "1/**/in a", "1+a", "1[a]", "1\na");
    }

    private static void quotes() {
        EDGE.sentence("STRINGS: ' or \" to the same one");
        EDGE.fine("''", "\"\"", "'\"'", "\"'\"", "'\"\"'", "'//'", "'/*'", "'\t'");
        EDGE.wrong(1, 0, "'", "\"", "'\"", "\"'", "'a", "\"a", "'a\"");
        EDGE.wrong(2, 2, "''''", "\"\"''", "''\"\"", "''a");
        EDGE.wrong(1, 2, "'''");
        EDGE.due("LENGTH of 'a\"b'", Probe.column("'a\"b'", 2), "0 0 5");
        EDGE.due("LENGTH of \"\"", Probe.column("\"\"", 2), "0 0 2");
    }

    private static void escapes() {
        EDGE.sentence("a \\ with any character behind it (13 10 is one) belongs to it");
        for (int i = 0; i < ALL.length(); i++) {
            EDGE.due("\\ and " + (int) ALL.charAt(i), Probe.column("'\\" + ALL.charAt(i) + "'", 2), "0 0 4");
            EDGE.due("\\ and " + (int) ALL.charAt(i), Probe.column("\"\\" + ALL.charAt(i) + "\"", 2), "0 0 4");
        }
        EDGE.due("\\ and 13 10", Probe.column("'\\\r\n'", 2), "0 0 5");
        EDGE.due("\\ and 13 10 with a behind it", Probe.column("'\\\r\na'", 2), "0 0 6");
        EDGE.wrong(1, 0, "'\\\n\r'", "'\\\r\r'", "'\\\n\n'", "'\\\r\n\n'", "'\\\r\n\r'", "'\\'", "'\\\\\\'", "'\\", "\"\\\"", "'\\\r\n",
            "'\\\r");
        EDGE.fine("'\\\\'", "'\\''", "\"\\\"\"", "'\\\\\\''", "'\\\n\\\r'", "'\\\r\\\n'");
    }

    private static void lineEndsInStrings() {
        EDGE.sentence("no other line end");
        EDGE.wrong(1, 0, "'\n'", "'\r'", "\"\n\"", "\"\r\"", "'a\nb'", "'a\r\nb'", "'\\a\n'");
        EDGE.wrong(1, 2, "a='\n'");
        EDGE.fine("'a\\\nb'", "'\\\r'", "''\n''", "'\\n'");
    }

    private static void signs() {
        EDGE.sentence("1 TOKEN: the place where the first token begins that is none");
        for (int i = 0; i < ALL.length(); i++) {
            char c = ALL.charAt(i);
            boolean none = c == '#' || c == '@' || c == '\\' || c == '`';
            EDGE.due("var " + c, Probe.outcome("var " + c).startsWith("fault 1"), none || c == '\'' || c == '"');
            if (none) {
                EDGE.wrong(1, 0, String.valueOf(c), c + "a");
                EDGE.wrong(1, 1, "a" + c, "(" + c);
                EDGE.wrong(1, 3, "a\n " + c);
                EDGE.fine("'" + c + "a'", "//" + c, "/*" + c + "*/");
            }
        }
        EDGE.wrong(1, 2, "a # @");
        String all = "{ } ( ) [ ] . ; , < > <= >= == != === !== + - * % ++ -- << >> >>> & | ^ ! ~ && || ? : = += -= *= %= <<= >>= >>>= &= |= ^= / /=";
        for (String sign : all.split(" ")) {
            EDGE.wrong(2, 4, "var " + sign);
        }
    }

    private static void words() {
        EDGE.sentence("WORDS that are no NAMES");
        String all = "break case catch continue default delete do else false finally for function if in instanceof new null return switch "
            + "this throw true try typeof var void while";
        for (String word : all.split(" ")) {
            String upper = word.substring(0, 1).toUpperCase() + word.substring(1);
            EDGE.wrong(2, 4, "var " + word);
            EDGE.fine("var " + word + "a", "var " + word + "1", "var " + word + "$", "var _" + word, "var " + upper, "a." + word,
                "({" + word + ":a})");
            EDGE.due("var with " + word + " without its last letter", Probe.outcome("var " + word.substring(0, word.length() - 1)), "fine");
        }
        EDGE.fine("var with", "var class", "var let", "var eval", "var arguments", "var undefined", "var get", "var debugger",
            "var const", "var NaN");
    }
}
