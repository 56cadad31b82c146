/** Promises 3, 7 and 8 on many made texts: what is printed reads as the same tree, and needs no semicolon. */
final class RoundTripTest {
    private static final String[] BETWEEN = {
        "*", "/", "%", "+", "-", "<<", ">>", ">>>", "<", ">", "<=", ">=", "instanceof", "in", "==", "!=", "===", "!==", "&", "^", "|",
        "&&", "||"
    };
    private static final String[] AHEAD = {"delete", "void", "typeof", "+", "-", "~", "!"};
    private static final String[] ASSIGN = {"=", "+=", "-=", "*=", "/=", "%=", "<<=", ">>=", ">>>=", "&=", "|=", "^="};
    private static final String[] LEAVES = {
        "a", "b", "this", "null", "true", "1", "1.", ".5", "0x1F", "1e5", "'s'", "'use strict'", "/p/", "/=/g", "/[/]/i", "$x"
    };
    private static final String[] SOUP = {
        "{", "}", "(", ")", "[", "]", ".", ";", ",", "<", "+", "-", "++", "--", "/", "/=", "=", "?", ":", "!", "a", "b", "1", "'s'", "\n",
        "/*", "*/", "//", "'", "#", "\\", "0", "eval", "break", "case", "catch", "continue", "default", "delete", "do", "else", "finally",
        "for", "function", "if", "in", "new", "return", "switch", "this", "throw", "try", "typeof", "var", "while", "'use strict'"
    };

    private final Probe probe = new Probe("RoundTripTest");
    private long seed = 20261115;
    private int read;

    public static void main(String[] args) {
        new RoundTripTest().run();
    }

    private void run() {
        for (int i = 0; i < 6000; i++) {
            check(statements(3));
        }
        probe.due("enough texts without a fault", read > 3000, true);
        for (int i = 0; i < 6000; i++) {
            check(soup());
            check(spoiled(statements(2)));
        }
        probe.end();
    }

    private int below(int n) {
        seed = seed * 6364136223846793005L + 1442695040888963407L;
        return (int) ((seed >>> 33) % n);
    }

    private String one(String... of) {
        return of[below(of.length)];
    }

    private void check(String text) {
        ScriptFront front = new ScriptFront();
        if (text.length() > 480 || !Probe.typed(front, text)) {
            return;
        }
        if (Probe.parsed(front).startsWith("fault")) {
            probe.due("a fault's number in " + text, front.fault(0) >= 1 && front.fault(0) <= 6, true);
            probe.due("a fault's place in " + text, front.fault(1) >= 0 && front.fault(1) <= text.length(), true);
            return;
        }
        read++;
        String tree = Probe.tree(front, 0);
        String strict = Probe.tree(front, 5);
        String printed = Probe.printed(front);
        if (front.again()) {
            String parsed = Probe.parsed(front);
            probe.due("printed " + printed + " of " + text, parsed.startsWith("fault") ? parsed : Probe.tree(front, 0), tree);
            probe.due("strict code of " + printed, Probe.tree(front, 5), strict);
            probe.due("semicolons put into " + printed, front.fault(2), 0);
            probe.due("printed again", Probe.printed(front), printed);
        }
    }

    private String space() {
        return one(" ", " ", " ", "\n", "/**/ ", " //c\n", "\t");
    }

    private String sequence(int depth) {
        return below(6) == 0 ? x(depth) + space() + "," + x(depth) : x(depth);
    }

    private String x(int depth) {
        if (depth <= 0) {
            return one(LEAVES);
        }
        switch (below(9)) {
            case 0:
                return target(depth - 1) + space() + one(ASSIGN) + " " + x(depth - 1);
            case 1:
                return x(depth - 1) + " ? " + x(depth - 1) + " : " + x(depth - 1);
            case 2:
            case 3:
                return x(depth - 1) + " " + one(BETWEEN) + space() + x(depth - 1);
            case 4:
                return one(AHEAD) + " " + x(depth - 1);
            case 5:
                return one("++ ", "-- ") + target(depth - 1);
            case 6:
                return target(depth - 1) + one(" ++", " --");
            case 7:
                return "(" + sequence(depth - 1) + ")";
            default:
                return left(depth);
        }
    }

    private String target(int depth) {
        return one("a", "b.c", "(a)", left(depth) + ".d", left(depth) + "[" + sequence(depth - 1) + "]");
    }

    private String left(int depth) {
        if (depth <= 0) {
            return one(LEAVES);
        }
        switch (below(9)) {
            case 0:
                return "new " + left(depth - 1) + one("", "()", "(" + x(depth - 1) + ")");
            case 1:
                return left(depth - 1) + " ." + one("a", "if");
            case 2:
                return left(depth - 1) + "[" + sequence(depth - 1) + "]";
            case 3:
                return left(depth - 1) + "(" + one("", x(depth - 1), "a," + x(depth - 1)) + ")";
            case 4:
                return "[" + one("", ",", x(depth - 1) + ",,", "," + x(depth - 1)) + "]";
            case 5:
                return "{" + one("", "a:" + x(depth - 1), "1:a,'b':" + x(depth - 1) + ",") + "}";
            case 6:
                return "function " + one("", "f") + "(" + one("", "p", "p,q") + "){" + statements(depth - 1) + "}";
            default:
                return "(" + sequence(depth - 1) + ")";
        }
    }

    private String statements(int depth) {
        StringBuilder text = new StringBuilder();
        for (int i = below(4); i > 0; i--) {
            text.append(statement(depth));
        }
        return text.toString();
    }

    private String end() {
        return one(";", ";", "\n", ";\n", "//c\n");
    }

    private String statement(int depth) {
        if (depth <= 0) {
            return one(";", "a" + end(), "'use strict'" + end(), "('use strict')" + end());
        }
        switch (below(14)) {
            case 0:
                return "{" + statements(depth - 1) + "}";
            case 1:
                return "var a=" + x(depth) + ",b" + end();
            case 2:
                return "if(" + sequence(depth - 1) + ")" + statement(depth - 1) + one("", "else " + statement(depth - 1));
            case 3:
                return "do " + statement(depth - 1) + "while(" + sequence(depth - 1) + ")" + end();
            case 4:
                return "while(" + x(depth - 1) + ")" + one("break;", "continue;", statement(depth - 1));
            case 5:
                return "for(" + one("", "(" + x(depth) + ")", "var a=(" + x(depth) + ")") + ";" + one("", x(depth)) + ";)" + statement(depth - 1);
            case 6:
                return "for(" + one("var a", "var a=(" + x(depth) + ")", target(depth)) + " in " + sequence(depth) + ")" + statement(depth - 1);
            case 7:
                return "l:{" + statements(depth - 1) + "break l}";
            case 8:
                return "switch(" + x(depth) + "){case " + x(depth) + ":" + statements(depth - 1) + one("", "default:") + "}";
            case 9:
                return "try{" + statements(depth - 1) + "}" + one("catch(e){}", "finally{}", "catch(e){}finally{" + statements(depth - 1) + "}");
            case 10:
                return "throw " + x(depth) + end();
            default:
                return sequence(depth) + end();
        }
    }

    private String soup() {
        StringBuilder text = new StringBuilder();
        for (int i = 1 + below(12); i > 0; i--) {
            text.append(one(SOUP)).append(one("", " "));
        }
        return text.toString();
    }

    private String spoiled(String text) {
        int place = below(text.length() + 1);
        int behind = Math.min(text.length(), place + below(3));
        return text.substring(0, place) + one(SOUP) + text.substring(behind);
    }
}
