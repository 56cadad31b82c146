/** What the tests share: typing texts, telling trees as texts, and counting the answers that are not as due. */
final class Probe {
    private final String test;
    private int wrong;

    Probe(String test) {
        this.test = test;
    }

    void due(String call, Object got, Object want) {
        if (!String.valueOf(got).equals(String.valueOf(want))) {
            wrong++;
            System.out.println(test + ": " + call + "\n  answered " + got + "\n  due is   " + want);
        }
    }

    void end() {
        if (wrong > 0) {
            System.out.println(test + ": " + wrong + " answers are not as due");
            System.exit(1);
        }
    }

    static long word(String part) {
        long word = 0;
        for (int i = 0; i < part.length(); i++) {
            word = word << 8 | part.charAt(i);
        }
        return word;
    }

    static boolean typed(ScriptFront front, String text) {
        for (int i = 0; i < text.length(); i += 8) {
            String part = text.substring(i, Math.min(i + 8, text.length()));
            if (!front.type(word(part), part.length())) {
                return false;
            }
        }
        return true;
    }

    /** The number of nodes, or "fault n at p". */
    static String parsed(ScriptFront front) {
        try {
            return String.valueOf(front.parse());
        } catch (IllegalArgumentException e) {
            return "fault " + front.fault(0) + " at " + front.fault(1);
        }
    }

    static String parsed(ScriptFront front, String text) {
        return typed(front, text) ? parsed(front) : "not typed";
    }

    static String outcome(String text) {
        String parsed = parsed(new ScriptFront(), text);
        return parsed.startsWith("fault") ? parsed : "fine";
    }

    static String printed(ScriptFront front) {
        StringBuilder text = new StringBuilder();
        for (int i = 0; i < front.printed(-1); i++) {
            text.append((char) front.printed(i));
        }
        return text.toString();
    }

    static String printed(String text) {
        ScriptFront front = new ScriptFront();
        String parsed = parsed(front, text);
        return parsed.startsWith("fault") ? parsed : printed(front);
    }

    /** Kinds with their children in brackets: "0[5[31]]"; what 0 for KINDS, another for other columns. */
    static String tree(ScriptFront front, int what) {
        StringBuilder text = new StringBuilder();
        tell(front, 0, what, text);
        return text.toString();
    }

    static String tree(String text) {
        ScriptFront front = new ScriptFront();
        String parsed = parsed(front, text);
        return parsed.startsWith("fault") ? parsed : tree(front, 0);
    }

    private static int tell(ScriptFront front, int k, int what, StringBuilder text) {
        text.append(front.node(k, what));
        int children = front.node(k, 3);
        int next = k + 1;
        for (int i = 0; i < children; i++) {
            text.append(i == 0 ? '[' : ' ');
            next = tell(front, next, what, text);
        }
        text.append(children > 0 ? "]" : "");
        return next;
    }

    /** One column of all nodes in their order: "0 5 31". */
    static String column(String text, int what) {
        ScriptFront front = new ScriptFront();
        String parsed = parsed(front, text);
        if (parsed.startsWith("fault")) {
            return parsed;
        }
        StringBuilder row = new StringBuilder();
        for (int k = 0; k < Integer.parseInt(parsed); k++) {
            row.append(k == 0 ? "" : " ").append(front.node(k, what));
        }
        return row.toString();
    }

    static String repeat(String part, int times) {
        return part.repeat(times);
    }
}
