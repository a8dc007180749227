/**
 * Long rows of calls with arguments of all kinds: each call answers, or throws what the document names for
 * it and changes nothing then. The arguments come from a plain row of numbers, the same each time.
 */
final class NoThrowTest {
    private static final int[] ODD = {
        Integer.MIN_VALUE, Integer.MAX_VALUE, -1, -2, 24, 25, 32, 99, 100, 101, 120, 599, 600, 601, 2000, 2001, -2001};
    private static final String[] SCRIPTS = {
        "pick 1;copy;set px=rank*3;", "repeat 9{box rank,1,9,9;}", "pick rank%2;drop;", "pick 1;front;back;",
        "if many{drop;}else{text 1,2,3,4;set pm=4;}", "sheet 1;line 1,2,3,4;shift px,-py;", "let a=a/0;", "pick 1;"};
    private static final Check check = new Check();

    private long seed;

    private NoThrowTest(long seed) {
        this.seed = seed;
    }

    public static void main(String[] arguments) {
        for (int run = 0; run < 180; run++) {
            new NoThrowTest(run * 7919L + 1).calls(run % 3 == 0);
        }
        check.end();
    }

    private int next(int bound) {
        seed = seed * 6364136223846793005L + 1442695040888963407L;
        return (int) ((seed >>> 33) % bound);
    }

    /** An odd run takes any argument, the others mostly such as lead on. */
    private long argument(boolean isOdd) {
        int kind = next(20);
        if (isOdd && kind < 10 || kind == 0) {
            return ODD[next(ODD.length)];
        }
        if (isOdd && kind < 12) {
            return seed >> 7;
        }
        return kind < 16 ? next(8) : next(120) - 20;
    }

    private void calls(boolean isOdd) {
        SlideDeck deck = new SlideDeck();
        deck.addSlide(0, 0);
        for (int i = 0; i < 6; i++) {
            deck.add(i % 2, i % 3, i, i, 9, 9);
        }
        for (int i = 0; i < 110; i++) {
            if (next(12) == 0) {
                script(deck, SCRIPTS[next(SCRIPTS.length)]);
            }
            String[] method = Caller.FACE[next(Caller.FACE.length)].split(" ");
            long[] a = new long[Integer.parseInt(method[1])];
            for (int j = 0; j < a.length; j++) {
                a[j] = argument(isOdd);
            }
            one(deck, method, a);
        }
    }

    private static void script(SlideDeck deck, String script) {
        try {
            deck.trim(0);
            Decks.feed(deck, script);
            deck.run(0);
        } catch (IllegalStateException full) {
            deck.trim(0);
        }
    }

    private static void one(SlideDeck deck, String[] method, long[] a) {
        long before = deck.digest();
        String answer = Caller.answer(deck, method[0], a);
        if (!answer.startsWith("throws.")) {
            return;
        }
        String call = method[0] + " " + java.util.Arrays.toString(a) + " " + answer;
        check.due(call + " is named", isNamed(answer, method[2]), true);
        check.due(call + " changes nothing", deck.digest(), before);
    }

    private static boolean isNamed(String answer, String named) {
        switch (answer) {
            case "throws.IndexOutOfBoundsException":
                return named.contains("i");
            case "throws.IllegalArgumentException":
                return named.contains("a");
            case "throws.IllegalStateException":
                return named.contains("s");
            default:
                return false;
        }
    }
}
