import java.util.ArrayList;
import java.util.List;

/** Promise 48 at its bounds: the checksum is reckoned here from what the other calls tell, as the document says. */
final class DigestBoundsTest {
    private static final Bounds bounds = new Bounds();
    private static final Story NEW = new Story();

    public static void main(String[] arguments) {
        nothingButTheMaster();
        allSheets();
        allShapes();
        statesAndTape();
        sheetsThatAreGone();
        bounds.end();
    }

    /** Asks at the end of a story, each time of an object that has not yet had all its calls. */
    private static final class Asked {
        private final Story story;
        private SlideDeck deck;
        private int left;

        Asked(Story story) {
            this.story = story;
        }

        long of(String call) {
            if (left == 0) {
                deck = story.played();
                left = Story.MOST_CALLS - story.size();
            }
            left--;
            String answer = Story.answer(deck, call);
            return answer.startsWith("throws.") ? Long.MIN_VALUE : Long.parseLong(answer);
        }
    }

    private static void holds(Story story, int selected, int bytes) {
        Asked asked = new Asked(story);
        List<Long> numbers = new ArrayList<>(List.of(asked.of("state"), asked.of("states")));
        for (int what = 0; what < 3; what++) {
            numbers.add(asked.of("count " + what));
        }
        for (int sheet = 0; sheet < 60; sheet++) {
            if (asked.of("base " + sheet) != Long.MIN_VALUE) {
                addSheet(numbers, asked, sheet);
            }
        }
        long slides = asked.of("count 1");
        for (int place = 0; place < slides; place++) {
            numbers.add(asked.of("slideAt " + place));
        }
        numbers.add((long) bytes);
        numbers.add((long) selected);
        long d = 281;
        for (long x : numbers) {
            d = d * 31 + x;
        }
        bounds.answers(story, "digest", "" + d, "digest", "" + d);
    }

    private static void addSheet(List<Long> numbers, Asked asked, int sheet) {
        numbers.add((long) sheet);
        numbers.add(asked.of("base " + sheet));
        for (int colour = 0; colour < 8; colour++) {
            numbers.add(asked.of("shade " + sheet + " " + colour));
        }
        numbers.add(asked.of("overrides " + sheet));
        long painted = asked.of("painted " + sheet);
        numbers.add(painted);
        for (int place = 0; place < painted; place++) {
            long shape = asked.of("paintedAt " + sheet + " " + place);
            numbers.add(shape);
            for (int what = 0; what < 7; what++) {
                numbers.add(asked.of("value " + sheet + " " + shape + " " + what));
            }
            numbers.add(asked.of("textSize " + sheet + " " + shape));
        }
    }

    private static void nothingButTheMaster() {
        holds(NEW, 0, 0);
        holds(NEW.then("setShade 0 0 255", "setShade 0 7 0", "feed 0 1"), 0, 1);
        holds(NEW.ran(0, "let a=1;?"), 0, 0);
    }

    /** 8 masters and 24 slides, their numbers mixed, "in ascending order of their numbers". */
    private static void allSheets() {
        Story story = NEW;
        for (int i = 0; i < 24; i++) {
            story = story.then("addSlide 0 0");
            if (i < 7) {
                story = story.then("addMaster 0", "setShade " + (2 * i + 2) + " " + i + " " + 17 * i);
            }
        }
        story = story.then("add 0 1 5 5 5 5", "setBase 3 2", "setBase 31 14", "setBase 4 2",
                "moveSlide 1 0").wrote(3, 0, "ab")
                .then("set 4 0 6 2", "set 31 0 0 -2000");
        holds(story, 0, 0);
    }

    /** 100 shapes on a master, on two slides too, some hidden, some in groups, all selected. */
    private static void allShapes() {
        Story story = NEW.then("addSlide 0 0", "addSlide 0 1").ran(0, "repeat 97{text rank,2000,2000,1;}")
                .then("select 0 1", "group", "group", "group", "set 0 5 6 1", "set 1 99 6 1", "set 2 7 6 7")
                .wrote(0, 9, "0123456789012345678901234567890123456789").wrote(2, 9, "x");
        for (int shape = 0; shape < 100; shape++) {
            story = story.then("select " + shape + " 1");
        }
        holds(story, 100, 0);
        holds(story.then("select 99 0"), 99, 0);
        holds(story.then("remove 99"), 96, 0);
    }

    private static void statesAndTape() {
        Story story = NEW.then("addSlide 0 0", "add 0 0 0 0 1 1").withStates(120).fed(" ".repeat(600));
        holds(story, 0, 600);
        holds(story.then("go 0"), 0, 600);
        holds(story.then("go 2", "select 0 1", "trim 1"), 1, 1);
        holds(story.refused("run 0").refused("addMaster 0"), 0, 600);
    }

    private static void sheetsThatAreGone() {
        Story story = NEW.then("addSlide 0 0", "addSlide 0 0", "addSlide 0 0", "add 2 0 0 0 1 1", "add 0 0 0 0 1 1",
                "set 2 1 0 5", "set 3 1 0 6", "select 0 1", "select 1 1", "removeSlide 2", "addSlide 0 2");
        holds(story, 1, 0);
        holds(story.then("removeSlide 1", "removeSlide 3", "removeSlide 4"), 1, 0);
        holds(story.then("undo"), 0, 0);
    }
}
