/** Promise 3, tokens: which texts have them, and where the first one begins that is none (fault 1). */
final class TokenTest {
    private static final Probe PROBE = new Probe("TokenTest");

    public static void main(String[] args) {
        numbers();
        strings();
        patterns();
        comments();
        signsAndWords();
        PROBE.end();
    }

    private static void fine(String... texts) {
        for (String text : texts) {
            PROBE.due(text, Probe.outcome(text), "fine");
        }
    }

    private static void wrong(int place, String... texts) {
        for (String text : texts) {
            PROBE.due(text, Probe.outcome(text), "fault 1 at " + place);
        }
    }

    private static void tree(String text, String tree) {
        PROBE.due(text, Probe.tree(text), tree);
    }

    private static void numbers() {
        fine("0", "10", "1.", "1.5", ".5", "0.5", "0.05", "1e5", "1E5", "1e+5", "1e-05", "1.e5", ".5e1", "0e0");
        fine("0x0", "0XfF", "0xabcdefABCDEF0123456789", "1..a", "1.5.a", "1 .a", "0x1.a", "1e5.a", "0.0");
        wrong(0, "00", "01", "09.5", "0x", "0xg", "0x1g", "1e", "1e+", "1e-a", "1ee5", "1a", "1$", "1_", "1.a");
        wrong(0, "0x.", ".5a", "1e5a", "3in a", "0b1", "1.e");
        wrong(2, "a=01", "a 1a");
        wrong(3, "1e5.5e");
        tree("1.5.a", "0[5[41[33]]]");
        PROBE.due("1.5.5", Probe.outcome("1.5.5"), "fault 2 at 3");
        PROBE.due("1e5.5", Probe.outcome("1e5.5"), "fault 2 at 3");
        PROBE.due("0x1.5", Probe.outcome("0x1.5"), "fault 2 at 3");
        PROBE.due("lengths of 0x1F+.5e-1", Probe.column("0x1F+.5e-1", 2), "0 0 1 4 5");
    }

    private static void strings() {
        fine("''", "\"\"", "'a\"b'", "\"a'b\"", "'\\''", "\"\\\"\"", "'\\\\'", "'\\\n'", "'\\\r'", "'\\\r\n'", "'a\\\nb'");
        fine("'\t'", "'/*'", "'//'", "'\\a\\0'");
        wrong(0, "'", "'a", "'a\"", "'\n'", "'\r'", "'a\nb'", "'\\'", "'\\\n\n'", "'\\\n\r'", "'\\\r\n\n'", "'\\\r\r'", "'\\");
        wrong(2, "a+'", "a+\"b\n\"");
        PROBE.due("length of '\\ 13 10 '", Probe.column("'\\\r\n'", 2), "0 0 5");
    }

    private static void patterns() {
        fine("/a/", "/a/g", "/a/gim", "/a/mig", "/=/", "/=a/g", "/[/]/", "/[/*]/", "/\\//", "/\\[/", "/[\\]/]/", "/]/", "/a\\\\/");
        fine("a=/b/", "a(/b/,/c/)", "[/a/]", "({a:/b/})", "!/a/", "a?/b/:/c/", "return_/a/g", "typeof/a/", "if(/a/)/b/g");
        fine("{}/a/", "a\n{}/b/g", "a=b\n/c/g", "throw/a/", "while(a)/b/", "do/a/;while(/b/)", "for(/a/;/b/;/c/)/d/");
        fine("new/a/", "case_:/a/", "switch(/a/){case/b/:/c/}", "/[[]/", "/a/.b", "/a/\n/b/g", "/'/", "/\"/", "a:/b/");
        wrong(0, "/a", "/a\n/", "/a\\\n/", "/[/", "/[/\n]/", "/a/gg", "/a/ii", "/a/mm", "/a/gimg", "/a/ggi", "/a/x", "/a/gx", "/a/g1", "/a/$", "/\\/", "/");
        wrong(0, "/=", "/=\n/", "/\\");
        wrong(2, "a=/b", "a,/b/ii", "!!/a");
        wrong(7, "return /a");
        tree("a/b/c", "0[5[46[46[31 31] 31]]]");
        tree("a=b\n/c/g", "0[5[48[31 46[46[31 31] 31]]]]");
        tree("a\n/=b", "0[5[48[31 31]]]");
        tree("a++/b/c", "0[5[46[46[44[31] 31] 31]]]");
        tree("a++\n/b/c", "0[5[46[46[44[31] 31] 31]]]");
        tree("(a)/b/c", "0[5[46[46[31 31] 31]]]");
        tree("a[0]/b/c", "0[5[46[46[40[31 33] 31] 31]]]");
        tree("this/b/c", "0[5[46[46[30 31] 31]]]");
        tree("({}/b/c)", "0[5[46[46[37 31] 31]]]");
        wrong(2, "{}/b/c");
        tree("x=a/ /b/g", "0[5[48[31 46[31 35]]]]");
        tree("x=/=/", "0[5[48[31 35]]]");
        tree("function f(){}/a/", "0[20[23] 5[35]]");
        tree("(function(){}/a/b)", "0[5[46[46[39[23] 31] 31]]]");
        tree("var a\n/=/g", "0[2[3] 5[35]]");
        tree("/a\\\\/", "0[5[35]]");
        PROBE.due("var /a/", Probe.outcome("var /a/"), "fault 2 at 4");
        PROBE.due("break /", Probe.outcome("break /"), "fault 2 at 6");
        PROBE.due("a./b/", Probe.outcome("a./b/"), "fault 2 at 2");
        PROBE.due("a b/c", Probe.outcome("a b/c"), "fault 2 at 2");
        PROBE.due("({/a/:1})", Probe.outcome("({/a/:1})"), "fault 2 at 2");
        PROBE.due("length of /a/gi", Probe.column("/a/gi", 2), "0 0 5");
    }

    private static void comments() {
        fine("//", "//a", "/**/", "/***/", "/*/*/", "/*a*/b", "a//b\nc", "a/*\n*/b", "a/*\r*/b", "//a\r//b", "/*//*/a", "//*\na");
        fine("a/**/\n/**/b", "a//\nb", "a//\rb");
        wrong(0, "/*", "/*/", "/* *", "/*a\n");
        wrong(1, "a/*", "a/*/");
        wrong(2, "a /*b", "a\n/*b");
        wrong(4, "/**//*");
        PROBE.due("a/**/b", Probe.outcome("a/**/b"), "fault 2 at 5");
        PROBE.due("a//\\", Probe.outcome("a//\\"), "fine");
        tree("a/*b*//c", "0[5[46[31 31]]]");
        tree("a//b\n/c", "0[5[46[31 31]]]");
        tree("i/*\n*/++\nj", "0[5[31] 5[45[31]]]");
    }

    private static void signsAndWords() {
        wrong(0, "#", "@", "`", "\\", "\\u0041");
        wrong(1, "a#", "a\\", "a@b");
        PROBE.due("a b#", Probe.outcome("a b#"), "fault 2 at 2");
        PROBE.due("a #", Probe.outcome("a #"), "fault 1 at 2");
        fine("$", "_", "A", "Z", "a", "z", "Z9", "z0", "a1$_", "iff", "If", "breaks", "instanceofs", "tru", "get", "let", "class", "undefined", "with");
        tree("a>>>=b>>>c>>d>e", "0[5[48[31 46[46[46[31 31] 31] 31]]]]");
        tree("a+++b", "0[5[46[44[31] 31]]]");
        tree("a---b", "0[5[46[44[31] 31]]]");
        tree("a===b!==c", "0[5[46[46[31 31] 31]]]");
        tree("a<<=b<=c", "0[5[48[31 46[31 31]]]]");
        tree("a&&b&c", "0[5[46[31 46[31 31]]]]");
        tree("a==!b", "0[5[46[31 45[31]]]]");
        PROBE.due("a====b", Probe.outcome("a====b"), "fault 2 at 4");
        PROBE.due("a&&&b", Probe.outcome("a&&&b"), "fault 2 at 3");
        PROBE.due("a=>b", Probe.outcome("a=>b"), "fault 2 at 2");
        PROBE.due("a**b", Probe.outcome("a**b"), "fault 2 at 2");
        PROBE.due("a++++b", Probe.outcome("a++++b"), "fault 2 at 3");
        String[] words = ("break case catch continue default delete do else false finally for function if in instanceof new "
            + "null return switch this throw true try typeof var void while").split(" ");
        for (String word : words) {
            PROBE.due("var " + word, Probe.outcome("var " + word), "fault 2 at 4");
            PROBE.due("a." + word, Probe.tree("a." + word), "0[5[41[31]]]");
            PROBE.due("({" + word + ":1})", Probe.tree("({" + word + ":1})"), "0[5[37[38[33]]]]");
            PROBE.due(word + "1", Probe.tree(word + "1"), "0[5[31]]");
        }
    }
}
