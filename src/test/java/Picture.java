import java.util.ArrayList;
import java.util.List;

/**
 * All that can be asked at the end of a story, and what some edits would do there: the numbers that come next,
 * the way back and forth, and the bytes of the tape can't be asked but show then.
 */
final class Picture {
    private static final int SHEETS = 42;
    private static final int SHAPES = 132;
    private static final int SHAPES_IN_FULL = 12;

    private final List<Integer> sheets = new ArrayList<>();
    private final List<Integer> shapes = new ArrayList<>();
    private final List<String> questions = new ArrayList<>();
    private final List<String[]> deeds = new ArrayList<>();

    /** The questions that fit the deck at the end of this story. */
    Picture(Story story) {
        SlideDeck deck = story.played();
        for (int sheet = 0; sheet < SHEETS; sheet++) {
            if (isThere(deck, "base " + sheet)) {
                sheets.add(sheet);
            }
        }
        deck = story.played();
        for (int shape = 0; shape < SHAPES; shape++) {
            if (isThere(deck, "shape " + shape + " 0")) {
                shapes.add(shape);
            }
        }
        askOfAll(story.played());
        askOfSheets();
        askOfShapes();
        chooseDeeds(story.played());
    }

    private static boolean isThere(SlideDeck deck, String call) {
        return !Story.answer(deck, call).startsWith("throws.");
    }

    private void ask(String question) {
        questions.add(question);
    }

    private void askOfAll(SlideDeck deck) {
        ask("state");
        ask("states");
        ask("digest");
        for (int what = 0; what < 3; what++) {
            ask("count " + what);
        }
        for (int place = 0; place <= deck.count(1); place++) {
            ask("slideAt " + place);
        }
        for (int state = 0; state <= deck.states(); state++) {
            for (int what = 0; what < 4; what++) {
                ask("told " + state + " " + what);
            }
        }
    }

    private void askOfSheets() {
        for (int sheet : sheets) {
            ask("base " + sheet);
            ask("overrides " + sheet);
            ask("painted " + sheet);
            ask("overfull " + sheet);
            ask("changed " + sheet);
            ask("top " + sheet + " 5 5");
            for (int colour = 0; colour < 8; colour++) {
                ask("shade " + sheet + " " + colour);
            }
            for (int place = 0; place < SHAPES_IN_FULL; place++) {
                ask("paintedAt " + sheet + " " + place);
            }
        }
    }

    private void askOfShapes() {
        for (int shape : shapes) {
            ask("isSelected " + shape);
            for (int what = 0; what < 6; what++) {
                ask("shape " + shape + " " + what);
            }
        }
        int least = Math.max(0, shapes.size() - SHAPES_IN_FULL);
        for (int shape : shapes.subList(least, shapes.size())) {
            for (int sheet : sheets) {
                for (int what = 0; what < 7; what++) {
                    ask("value " + sheet + " " + shape + " " + what);
                }
                ask("textSize " + sheet + " " + shape);
                ask("textByte " + sheet + " " + shape + " 0");
                ask("textByte " + sheet + " " + shape + " 1");
                ask("lines " + sheet + " " + shape);
            }
        }
    }

    private void chooseDeeds(SlideDeck deck) {
        deed("undo", "digest", "redo", "digest", "redo", "digest");
        deed("redo", "digest");
        deed("addMaster 0", "addSlide 0 0", "add 0 0 0 0 1 1", "digest");
        deed("group", "digest");
        deed("align 4", "digest");
        deed("spread 1", "digest");
        deed("run 0", "errorAt", "steps", "digest");
        for (int shape : shapes) {
            if (deck.shape(shape, 0) == 1) {
                showTape(deck.shape(shape, 1), shape);
                return;
            }
        }
    }

    private void showTape(int sheet, int shape) {
        List<String> calls = new ArrayList<>(List.of("trim 40", "write " + sheet + " " + shape));
        for (int i = 0; i < 40; i++) {
            calls.add("textByte " + sheet + " " + shape + " " + i);
        }
        deed(calls.toArray(new String[0]));
    }

    /** Of such answers only those that tell of the deck, and not in which state it is, or how the way leads on. */
    static List<String> ofTheDeck(List<String> answers) {
        List<String> rows = new ArrayList<>();
        for (String row : answers) {
            String call = row.startsWith("then ") ? row.substring(5) : row;
            boolean isOfStates = call.startsWith("state") || call.startsWith("told ") || call.startsWith("digest")
                    || call.startsWith("undo") || call.startsWith("redo");
            if (!isOfStates) {
                rows.add(row);
            }
        }
        return rows;
    }

    private void deed(String... calls) {
        deeds.add(calls);
    }

    /** The answers at the end of a story, a line each, also to what the latest script did if this is wanted. */
    List<String> taken(Story story, boolean isScriptMeant) {
        List<String> answers = new ArrayList<>();
        SlideDeck deck = story.played();
        int left = Story.MOST_CALLS - story.size();
        for (String question : questions) {
            if (left == 0) {
                deck = story.played();
                left = Story.MOST_CALLS - story.size();
            }
            answers.add(question + ": " + Story.answer(deck, question));
            left--;
        }
        for (String[] calls : deeds) {
            SlideDeck another = story.played();
            for (String call : calls) {
                answers.add("then " + call + ": " + Story.answer(another, call));
            }
        }
        if (isScriptMeant) {
            SlideDeck another = story.played();
            answers.add("errorAt: " + Story.answer(another, "errorAt"));
            answers.add("steps: " + Story.answer(another, "steps"));
        }
        return answers;
    }
}
