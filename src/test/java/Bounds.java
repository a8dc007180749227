import java.util.HashMap;
import java.util.List;
import java.util.Map;

/**
 * Looks at what is still allowed and what is not any more. A refused call has to throw exactly what is due,
 * and to leave all as if it had not been made.
 */
final class Bounds {
    private final Check check = new Check();
    private final Map<String, Picture> pictures = new HashMap<>();
    private final Map<String, List<String>> taken = new HashMap<>();

    void noIndex(Story story, String... calls) {
        refused(story, "throws.IndexOutOfBoundsException", calls);
    }

    void badArgument(Story story, String... calls) {
        refused(story, "throws.IllegalArgumentException", calls);
    }

    void badState(Story story, String... calls) {
        refused(story, "throws.IllegalStateException", calls);
    }

    private void refused(Story story, String due, String... calls) {
        for (String call : calls) {
            String answer = Story.answer(story.played(), call);
            check.due(call + " behind\n" + story.told() + "\nanswers", answer, due);
            if (answer.startsWith("throws.")) {
                same(story, story, story.refused(call), true);
            }
        }
    }

    /** Calls and the answers that are due, by turns, one after the other on one object. */
    void answers(Story story, String... callsAndDue) {
        if (story.size() + callsAndDue.length / 2 > Story.MOST_CALLS) {
            throw new IllegalStateException("too many calls for one object");
        }
        SlideDeck deck = story.played();
        for (int i = 0; i < callsAndDue.length; i += 2) {
            String call = callsAndDue[i];
            check.due(call + " behind\n" + story.told() + "\nanswers", Story.answer(deck, call), callsAndDue[i + 1]);
        }
    }

    /** A script that ends without an error, in a state of its own. */
    void runs(Story story, int sheet, String script, int steps) {
        SlideDeck deck = story.fed(script).played();
        int states = deck.states();
        String what = script + " behind\n" + story.told() + "\n";
        check.due(what + "error", deck.run(sheet), 0);
        check.due(what + "position", deck.errorAt(), -1);
        check.due(what + "steps", deck.steps(), steps);
        check.due(what + "state", deck.state(), states);
        check.due(what + "the tape is empty", deck.trim(0), 0);
        check.due(what + "states", deck.states(), states + 1);
    }

    /** A script with an error: the deck is as it was, the tape and the selection are empty. */
    void fails(Story story, int sheet, String script, int error, int at, int steps) {
        SlideDeck deck = story.fed(script).played();
        String what = script + " behind\n" + story.told() + "\n";
        check.due(what + "error", deck.run(sheet), error);
        check.due(what + "position", deck.errorAt(), at);
        check.due(what + "steps", deck.steps(), steps);
        int state = deck.state();
        Story behind = story.ran(sheet, script);
        same(story, story.then("trim 0", "go " + state), behind, false);
    }

    /** Both stories have to end alike, as far as questions that fit a third one can tell. */
    private void same(Story asked, Story one, Story other, boolean isScriptMeant) {
        Picture picture = pictures.computeIfAbsent(asked.told(), told -> new Picture(asked));
        String key = asked.told() + "\n\n" + one.told() + isScriptMeant;
        List<String> before = taken.computeIfAbsent(key, told -> picture.taken(one, isScriptMeant));
        alike(other, picture.taken(other, isScriptMeant), before);
    }

    /** Both stories have to end with the same deck, perhaps in other states. */
    void sameDeck(Story story, Story other) {
        Picture picture = new Picture(story);
        alike(other, Picture.ofTheDeck(picture.taken(other, false)), Picture.ofTheDeck(picture.taken(story, false)));
    }

    private void alike(Story story, List<String> answers, List<String> due) {
        for (int i = 0; i < due.size(); i++) {
            if (!answers.get(i).equals(due.get(i))) {
                check.due("behind\n" + story.told() + "\n", answers.get(i), due.get(i));
                return;
            }
        }
    }

    void due(String what, String answer, String due) {
        check.due(what, answer, due);
    }

    void end() {
        check.end();
    }
}
