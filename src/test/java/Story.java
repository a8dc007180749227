import java.util.ArrayList;
import java.util.Arrays;
import java.util.List;

/**
 * A row of calls on a new object, told as texts ("addSlide 0 0"), so that it can be made again for each look
 * at where it ends: no object is used for more calls than the document allows.
 */
final class Story {
    static final int MOST_CALLS = 512;

    private final List<String> calls = new ArrayList<>();

    Story(String... calls) {
        this.calls.addAll(Arrays.asList(calls));
    }

    private Story(List<String> calls) {
        this.calls.addAll(calls);
    }

    /** This story, and more calls behind it. */
    Story then(String... more) {
        Story story = new Story(calls);
        story.calls.addAll(Arrays.asList(more));
        return story;
    }

    Story times(int times, String call) {
        Story story = new Story(calls);
        for (int i = 0; i < times; i++) {
            story.calls.add(call);
        }
        return story;
    }

    /** A text at the end of the tape, eight bytes a call. */
    Story fed(String text) {
        Story story = new Story(calls);
        for (int from = 0; from < text.length(); from += 8) {
            int n = Math.min(8, text.length() - from);
            long bytes = 0;
            for (int i = 0; i < n; i++) {
                bytes = bytes * 256 + text.charAt(from + i);
            }
            story.calls.add("feed " + bytes + " " + n);
        }
        return story;
    }

    Story wrote(int sheet, int shape, String text) {
        return fed(text).then("write " + sheet + " " + shape);
    }

    Story ran(int sheet, String script) {
        return fed(script).then("run " + sheet);
    }

    /** Makes states that leave all as it was, until there are so many. */
    Story withStates(int states) {
        return times(states - played().states(), "setShade 0 0 -1");
    }

    /** A call that is expected to throw. */
    Story refused(String call) {
        return then("!" + call);
    }

    int size() {
        return calls.size();
    }

    /** The calls, a line each, the same one several times in one line: the same text means the same story. */
    String told() {
        StringBuilder told = new StringBuilder();
        for (int i = 0; i < calls.size(); i++) {
            int first = i;
            while (i + 1 < calls.size() && calls.get(i + 1).equals(calls.get(first))) {
                i++;
            }
            told.append(told.length() > 0 ? "\n" : "").append(calls.get(first));
            told.append(i > first ? ", " + (i - first + 1) + " times" : "");
        }
        return told.toString();
    }

    /** A new object behind all these calls. */
    SlideDeck played() {
        SlideDeck deck = new SlideDeck();
        for (String call : calls) {
            boolean isRefused = call.startsWith("!");
            String answer = answer(deck, isRefused ? call.substring(1) : call);
            if (answer.startsWith("throws.") != isRefused) {
                throw new IllegalStateException("the story tells " + call + ", which answers " + answer);
            }
        }
        return deck;
    }

    static String answer(SlideDeck deck, String call) {
        String[] parts = call.split(" ");
        long[] arguments = new long[parts.length - 1];
        for (int i = 0; i < arguments.length; i++) {
            arguments[i] = Long.parseLong(parts[i + 1]);
        }
        return Caller.answer(deck, parts[0], arguments);
    }
}
