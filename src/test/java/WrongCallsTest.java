/** All promises, with any arguments in any state: nothing but what the document names is thrown. */
final class WrongCallsTest {
    private static long seed = 7;

    public static void main(String[] args) {
        Probe probe = new Probe("WrongCallsTest");
        for (int run = 0; run < 300; run++) {
            probe.due("run " + run, run(), "");
        }
        probe.end();
    }

    private static int below(int n) {
        seed = seed * 6364136223846793005L + 1442695040888963407L;
        return (int) ((seed >>> 33) % n);
    }

    private static int number() {
        int[] numbers = {below(60), below(10) - 3, below(1100), Integer.MIN_VALUE, Integer.MAX_VALUE, -1, 0};
        return numbers[below(numbers.length)];
    }

    private static String run() {
        ScriptFront front = new ScriptFront();
        for (int call = 0; call < 512; call++) {
            try {
                call(front);
            } catch (RuntimeException e) {
                return e.toString();
            }
        }
        return "";
    }

    private static void call(ScriptFront front) {
        switch (below(8)) {
            case 0:
                front.type(seed, number());
                break;
            case 1:
                String part = "a=(b){};[]+1.'/*\n,:if for in var x do".substring(below(20));
                front.type(Probe.word(part.substring(0, 8)), 1 + below(8));
                break;
            case 2:
                parse(front);
                break;
            case 3:
                front.fault(number());
                break;
            case 4:
                node(front);
                break;
            case 5:
                front.many(number());
                break;
            case 6:
                front.printed(number());
                break;
            default:
                front.again();
                break;
        }
    }

    private static void parse(ScriptFront front) {
        try {
            front.parse();
        } catch (IllegalArgumentException e) {
            if (e.getClass() != IllegalArgumentException.class) {
                throw new IllegalStateException(e);
            }
        }
    }

    private static void node(ScriptFront front) {
        try {
            front.node(number(), number());
        } catch (IndexOutOfBoundsException e) {
            if (e.getClass() != IndexOutOfBoundsException.class) {
                throw new IllegalStateException(e);
            }
        }
    }
}
