/** The boundary cases of the tape: promises 43 and 44, and what empties it. */
final class TapeBoundsTest {
    private static final Bounds bounds = new Bounds();
    private static final Story NEW = new Story();
    private static final Story TEXT = NEW.then("add 0 1 0 0 9 9");

    public static void main(String[] arguments) {
        oneToEightBytesAtOnce();
        theLowestBytesTheHighestFirst();
        sixHundredBytes();
        keptBytes();
        keptBytesAreTheFirst();
        emptyBehind();
        keptBehind();
        noEdits();
        bounds.end();
    }

    /** feed: "if n is not 1 to 8". */
    private static void oneToEightBytesAtOnce() {
        for (int n = 1; n <= 8; n++) {
            bounds.answers(NEW, "feed 0 " + n, "" + n, "feed -1 " + n, "" + 2 * n, "trim " + 2 * n, "" + 2 * n);
        }
        Story story = TEXT.fed("abc");
        bounds.badArgument(story, "feed 0 0", "feed 0 9", "feed 0 -1", "feed 0 2147483647", "feed 0 -2147483648",
                "feed 97 0", "feed -1 9");
        bounds.badArgument(NEW, "feed 0 0", "feed 0 9");
    }

    /** "the lowest n bytes of this number count, the highest one of these first". */
    private static void theLowestBytesTheHighestFirst() {
        long bytes = 0x2122232425262728L;
        for (int n = 1; n <= 8; n++) {
            Story story = TEXT.then("feed " + bytes + " " + n);
            bounds.answers(story, "write 0 0", "" + n, "textByte 0 0 0", "" + (0x29 - n), "textByte 0 0 " + (n - 1),
                    "" + 0x28, "textByte 0 0 " + n / 2, "" + (0x29 - n + n / 2));
            bounds.answers(TEXT.then("feed " + (0x7e21222324252628L & -1L >>> (64 - 8 * n)) + " " + n), "write 0 0",
                    "" + n);
        }
        bounds.answers(TEXT.then("feed " + (Long.MIN_VALUE + 0x41) + " 1"), "write 0 0", "1", "textByte 0 0 0", "65");
        bounds.answers(TEXT.then("feed " + (0xff41424344L) + " 4"), "write 0 0", "4", "textByte 0 0 0", "65");
        bounds.badArgument(TEXT.then("feed " + (Long.MIN_VALUE + 0x41) + " 8"), "write 0 0");
        bounds.badArgument(TEXT.then("feed -1 1"), "write 0 0");
    }

    private static Story blanks(int many) {
        return TEXT.fed(" ".repeat(many));
    }

    /** feed: "if there would be more than 600". */
    private static void sixHundredBytes() {
        for (int n = 1; n <= 8; n++) {
            bounds.answers(blanks(600 - n), "feed 0 " + n, "600", "trim 600", "600");
            bounds.badState(blanks(601 - n), "feed 0 " + n);
            bounds.badState(blanks(600), "feed 0 " + n);
        }
        bounds.answers(blanks(600).then("trim 599"), "feed 0 1", "600");
        bounds.badState(blanks(600).then("trim 599"), "feed 0 2");
        bounds.answers(blanks(600), "run 0", "0", "feed 0 8", "8");
    }

    /** trim: "if n is not 0 to the number of bytes of the tape". */
    private static void keptBytes() {
        bounds.answers(NEW, "trim 0", "0");
        bounds.badArgument(NEW, "trim 1", "trim -1", "trim 600", "trim 2147483647", "trim -2147483648");
        bounds.answers(blanks(5), "trim 5", "5", "trim 4", "4", "trim 0", "0", "trim 0", "0");
        bounds.badArgument(blanks(5), "trim 6", "trim -1");
        bounds.badArgument(blanks(5).then("trim 2"), "trim 3");
        bounds.answers(blanks(600), "trim 600", "600", "trim 599", "599");
        bounds.badArgument(blanks(600), "trim 601", "trim -1");
    }

    /** "Shortens the tape to its first bytes." */
    private static void keptBytesAreTheFirst() {
        bounds.answers(TEXT.fed("abcdef").then("trim 2").fed("z"), "write 0 0", "3", "textByte 0 0 0", "97",
                "textByte 0 0 1", "98", "textByte 0 0 2", "122");
        bounds.answers(TEXT.fed("abcdef").then("trim 0").fed("z"), "write 0 0", "1", "textByte 0 0 0", "122");
        bounds.answers(TEXT.fed("abcdef").then("trim 6"), "write 0 0", "6", "textByte 0 0 5", "102");
    }

    /** write and run leave an empty tape, run also with an error. */
    private static void emptyBehind() {
        bounds.badArgument(TEXT.fed("abc").then("write 0 0"), "trim 1");
        bounds.badArgument(TEXT.fed("let a=1;").then("run 0"), "trim 1");
        bounds.badArgument(TEXT.fed("abc").then("run 0"), "trim 1");
        bounds.badArgument(TEXT.fed("let a=1/0;").then("run 0"), "trim 1");
        bounds.answers(TEXT.fed("abc").then("run 0"), "feed 0 8", "8");
    }

    /** "in any case (but if the method throws)": a refused run or write keeps all bytes; so do undo, redo and go. */
    private static void keptBehind() {
        Story story = TEXT.fed("box 1,2,3,4;");
        bounds.noIndex(story, "run 1", "run -1", "write 0 1", "write 1 0");
        bounds.answers(story.refused("run 1"), "run 0", "0", "value 0 1 3", "4");
        Story full = story.withStates(120);
        bounds.badState(full, "run 0", "write 0 0");
        bounds.answers(full.refused("run 0").refused("write 0 0"), "trim 12", "12");
        bounds.answers(story.then("undo", "redo", "go 0", "go 1"), "trim 12", "12", "run 0", "0", "value 0 1 2", "3");
        bounds.answers(TEXT.fed(" ".repeat(41)).refused("write 0 0"), "trim 41", "41");
    }

    /** feed and trim are no edits, and go on at 120 states. */
    private static void noEdits() {
        bounds.answers(NEW, "feed 1 8", "8", "trim 3", "3", "states", "1", "state", "0");
        bounds.answers(NEW.withStates(120), "feed 1 8", "8", "trim 3", "3", "states", "120");
    }
}
