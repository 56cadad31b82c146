/** For tests by sentence: an answer that is not as due is told with the sentence of the document that it breaks. */
final class Edge {
    private final Probe probe;
    private String sentence = "";

    Edge(String test) {
        probe = new Probe(test);
    }

    /** Words of ../shared/DOC.md by which the answers behind this call are due. */
    void sentence(String words) {
        sentence = words;
    }

    void due(String call, Object got, Object want) {
        probe.due('"' + sentence + "\": " + call, got, want);
    }

    void end() {
        probe.end();
    }

    void fine(String... texts) {
        for (String text : texts) {
            due(text, Probe.outcome(text), "fine");
        }
    }

    void wrong(int fault, int place, String... texts) {
        for (String text : texts) {
            due(text, Probe.outcome(text), "fault " + fault + " at " + place);
        }
    }

    void tree(String text, String want) {
        due(text, Probe.tree(text), want);
    }

    /** The tree of a text that is one X. */
    void x(String text, String want) {
        tree(text, "0[5[" + want + "]]");
    }

    void prints(String text, String want) {
        due(text, Probe.printed(text), want);
    }

    /** Texts that are printed as they stand. */
    void same(String... texts) {
        for (String text : texts) {
            prints(text, text);
        }
    }

    /** How many semicolons are put into a text. */
    void put(int semicolons, String... texts) {
        for (String text : texts) {
            ScriptFront front = new ScriptFront();
            String parsed = Probe.parsed(front, text);
            due(text, parsed.startsWith("fault") ? parsed : front.fault(2), semicolons);
        }
    }

    static String node(ScriptFront front, int k, int what) {
        try {
            return String.valueOf(front.node(k, what));
        } catch (IndexOutOfBoundsException e) {
            return e.getClass() == IndexOutOfBoundsException.class ? "throws" : e.toString();
        }
    }

    /** All that an object tells without a change: its fault, its tree and what is printed. */
    static String state(ScriptFront front) {
        StringBuilder told = new StringBuilder();
        told.append(front.fault(0)).append(' ').append(front.fault(1)).append(' ').append(front.fault(2));
        return told.append(" | ").append(held(front)).toString();
    }

    /** What stays behind a text with a fault: the tree and what is printed. */
    static String held(ScriptFront front) {
        StringBuilder told = new StringBuilder();
        for (int k = 0; !node(front, k, 0).equals("throws"); k++) {
            for (int what = 0; what < 6; what++) {
                told.append(node(front, k, what)).append(' ');
            }
        }
        for (int kind = 0; kind < 50; kind++) {
            told.append(front.many(kind)).append(' ');
        }
        return told.append(" | ").append(front.printed(-1)).append(' ').append(Probe.printed(front)).toString();
    }
}
