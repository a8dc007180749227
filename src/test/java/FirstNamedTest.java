/**
 * "A method that throws an exception changes nothing. If several exceptions apply, the one that is named first
 * is thrown." For each method that names more than one: all pairs of them that can meet.
 */
final class FirstNamedTest {
    private static final Bounds bounds = new Bounds();
    private static final Story NEW = new Story();
    /** A master 1, the slides 2 and 3, on sheet 0 a locked BOX 0, a locked TEXT 1 and a locked group 3 round 2. */
    private static final Story DECK = NEW.then("addMaster 0", "addSlide 1 0", "addSlide 1 1", "add 0 0 0 0 9 9",
            "add 0 1 0 0 9 9", "add 0 1 0 0 9 9", "add 2 1 0 0 9 9", "set 2 1 0 5", "select 2 1", "group",
                    "set 0 0 6 4",
            "set 0 1 6 4", "set 0 4 6 4");

    public static void main(String[] arguments) {
        indexAheadOfTooMany();
        indexAheadOfNoStateLeft();
        indexAheadOfArgument();
        indexAheadOfLocked();
        argumentAheadOfTooMany();
        argumentAheadOfNoStateLeft();
        argumentAheadOfLocked();
        argumentAheadOfTheSelection();
        argumentAheadOfAFullTape();
        bounds.end();
    }

    private static void indexAheadOfTooMany() {
        Story masters = NEW.then("addSlide 0 0").times(7, "addMaster 0");
        bounds.noIndex(masters, "addMaster 1", "addMaster 9", "addMaster -1");
        bounds.badState(masters, "addMaster 8");
        Story slides = NEW.then("addMaster 0").times(24, "addSlide 0 0");
        bounds.noIndex(slides, "addSlide 2 0", "addSlide 26 0", "addSlide 0 25", "addSlide 0 -1", "addSlide -1 25",
                "duplicate 0", "duplicate 1", "duplicate 26", "duplicate -1");
        bounds.badState(slides, "addSlide 0 24", "addSlide 1 0", "duplicate 25");
        Story shapes = NEW.then("addSlide 0 0", "addMaster 0").ran(1, "repeat 100{box 1,1,1,1;}");
        bounds.noIndex(shapes, "add 3 0 0 0 1 1", "add -1 0 0 0 1 1", "duplicate 0", "duplicate 2", "duplicate 3");
        bounds.badState(shapes, "add 2 0 0 0 1 1", "duplicate 1");
    }

    private static void indexAheadOfNoStateLeft() {
        Story full = DECK.withStates(120);
        bounds.noIndex(full, "addMaster 2", "addMaster 4", "addSlide 2 0", "addSlide 0 3", "addSlide 0 -1",
                "duplicate 0", "duplicate 4", "removeSlide 1", "removeSlide 4", "moveSlide 0 0", "moveSlide 2 2",
                "moveSlide 2 -1", "setBase 4 0", "setBase 2 3", "setBase 2 4", "setShade 2 0 0", "setShade 0 8 0",
                "setShade 0 -1 0", "add 4 0 0 0 1 1", "remove 5", "remove -1", "set 4 0 0 0", "set 0 3 0 0",
                "set 0 5 0 0", "set 0 0 7 0", "set 0 0 -1 0", "write 4 1", "write 0 3", "write 0 5", "clear 4 1 0",
                "clear 2 1 1", "clear 2 5 0", "clear 2 1 8", "ungroup 0", "ungroup 5", "arrange 5 0", "arrange 3 1",
                "arrange 3 -1", "run 4", "run -1");
        bounds.badState(full, "addMaster 1", "addSlide 0 2", "duplicate 3", "removeSlide 3", "moveSlide 2 1",
                "setBase 2 0", "setShade 1 7 0", "add 3 0 0 0 1 1", "remove 3", "set 2 0 6 0", "write 2 1",
                "clear 2 1 0",
                "ungroup 4", "arrange 3 0", "run 3");
    }

    private static void indexAheadOfArgument() {
        bounds.noIndex(DECK, "setBase 0 2", "setBase 0 4", "setBase 4 4", "setBase 2 2", "setBase 4 0",
                "setBase -1 -1");
        bounds.badArgument(DECK, "setBase 0 1", "setBase 0 0", "setBase 1 1");
        bounds.noIndex(DECK, "setShade 2 0 256", "setShade 4 0 -2", "setShade 0 8 256", "setShade 1 -1 -2");
        bounds.badArgument(DECK, "setShade 1 0 256", "setShade 1 7 -2");
        bounds.noIndex(DECK, "add 4 3 0 0 1 1", "add -1 0 2001 0 1 1", "add 4 -1 0 0 0 0");
        bounds.badArgument(DECK, "add 3 3 0 0 1 1", "add 3 0 2001 0 1 1", "add 3 -1 0 0 0 0");
        bounds.noIndex(DECK, "set 4 0 0 2001", "set 0 3 0 2001", "set 0 5 0 2001", "set 0 0 7 2001", "set 0 4 7 0",
                "set 0 4 -1 5", "set 3 3 0 -2001");
        bounds.badArgument(DECK, "set 2 0 0 2001", "set 2 4 0 0", "set 2 4 5 20");
        Story box = DECK.then("add 3 0 0 0 1 1").fed("0123456789012345678901234567890123456789+");
        bounds.noIndex(box, "write 4 0", "write 0 5", "write 0 6", "write -1 0", "write 2 5");
        bounds.badArgument(box, "write 3 5", "write 3 0", "write 2 0", "write 2 1");
    }

    private static void indexAheadOfLocked() {
        bounds.noIndex(DECK, "set 0 0 7 0", "set 0 0 -1 0", "set 4 0 0 0", "ungroup 0", "ungroup 2", "arrange 0 3",
                "arrange 0 -1", "arrange 4 3", "arrange 2 1", "write 4 1");
        bounds.badState(DECK, "set 0 0 5 20", "arrange 0 2", "arrange 4 2", "arrange 2 0", "ungroup 4", "write 0 1",
                "write 0 2", "remove 0", "remove 4", "remove 2");
    }

    private static void argumentAheadOfTooMany() {
        Story shapes = NEW.ran(0, "repeat 100{box 1,1,1,1;}");
        bounds.badArgument(shapes, "add 0 3 0 0 1 1", "add 0 -1 0 0 1 1", "add 0 0 2001 0 1 1", "add 0 0 0 -2001 1 1",
                "add 0 0 0 0 0 1", "add 0 0 0 0 1 2001");
        bounds.badState(shapes, "add 0 2 2000 -2000 1 2000");
    }

    private static void argumentAheadOfNoStateLeft() {
        Story full = DECK.fed("0123456789012345678901234567890123456789+").withStates(120);
        bounds.badArgument(full, "setBase 0 1", "setBase 1 1", "setShade 0 0 256", "setShade 1 7 -2",
                "add 0 3 0 0 1 1",
                "add 0 0 2001 0 1 1", "set 2 0 0 2001", "set 2 4 0 0", "write 2 0", "write 2 1", "write 2 3",
                "align 6",
                "align -1");
        bounds.badState(full.then("trim 40"), "write 2 1", "write 2 3", "set 2 0 0 2000", "set 2 4 6 7", "align 5");
    }

    private static void argumentAheadOfLocked() {
        Story story = DECK.fed("0123456789012345678901234567890123456789+");
        bounds.badArgument(story, "set 0 0 0 2001", "set 0 0 4 8", "set 0 0 5 3", "set 0 4 0 0", "set 0 4 5 20",
                "set 0 2 2 0", "write 0 0", "write 0 4", "write 0 1", "write 0 2");
        bounds.badState(story.then("trim 40"), "set 0 0 0 2000", "set 0 0 4 7", "set 0 0 5 4", "set 0 2 2 1",
                "write 0 1",
                "write 0 2");
        bounds.badArgument(DECK.then("feed 31 1"), "write 0 1", "write 0 2", "write 0 0");
    }

    private static void argumentAheadOfTheSelection() {
        Story none = DECK.then("select 4 0");
        bounds.badArgument(none, "align 6", "align -1", "align 2147483647");
        bounds.badState(none, "align 5", "align 0");
        Story locked = DECK.then("select 0 1");
        bounds.badArgument(locked, "align 6", "align -1");
        bounds.badState(locked, "align 5", "align 0");
        Story homes = DECK.then("select 3 1", "select 4 1");
        bounds.badArgument(homes, "align 6", "align -1");
        bounds.badState(homes, "align 5", "align 0", "group");
    }

    private static void argumentAheadOfAFullTape() {
        Story full = DECK.fed(" ".repeat(600));
        bounds.badArgument(full, "feed 0 0", "feed 0 9", "feed 0 -1", "feed 0 2147483647");
        bounds.badState(full, "feed 0 1", "feed 0 8");
        bounds.badArgument(full.then("trim 595"), "feed 0 9", "feed 0 0");
        bounds.badState(full.then("trim 595"), "feed 0 6", "feed 0 8");
    }
}
