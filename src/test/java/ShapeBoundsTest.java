/** The boundary cases of section 1 about shapes, and of promises 13 to 22: the last allowed, the first refused. */
final class ShapeBoundsTest {
    private static final Bounds bounds = new Bounds();
    private static final Story NEW = new Story();
    private static final int[] LEAST = {-2000, -2000, 1, 1, 0, 4, 0};
    private static final int[] MOST = {2000, 2000, 2000, 2000, 7, 100, 7};
    private static final String FORTY = "0123456789abcdefghijklmnopqrstuvwxyz !~.";
    /** A master with a BOX and a TEXT (0, 1), a slide of it with a TEXT (2), and a slide beside it, number 2. */
    private static final Story PAGE = NEW.then("addSlide 0 0", "addSlide 0 1", "add 0 0 0 0 10 10",
            "add 0 1 0 0 10 10", "add 1 1 0 0 10 10");

    public static void main(String[] arguments) {
        kindsToAdd();
        rangesOfABox();
        homesOfShapes();
        aHundredShapes();
        shapeNumbersAreNotGivenAgain();
        removeWhatIsThere();
        removeNoLockedShape();
        groupsFallWithTheLastMember();
        whatIsToldOfAShape();
        locksFromThreeGroupsAbove();
        rangesOfValuesAtHome();
        rangesOfOverrides();
        namesOfValues();
        whereAShapeIsSeen();
        groupsHaveTheirMarksAlone();
        setWhatIsLocked();
        boxesOfGroups();
        fortyBytes();
        bytesOfATextAre32To126();
        writeTextsAlone();
        writeWhatIsLocked();
        noSuchByte();
        overridesToTakeAway();
        overridesOfShapesThatAreGone();
        overridesUpToTheLast();
        bounds.end();
    }

    private static String boxes(int many) {
        return "repeat " + many + "{box 1,1,1,1;}";
    }

    /** add: "if kind is not 0 to 2". */
    private static void kindsToAdd() {
        for (int kind = 0; kind <= 2; kind++) {
            bounds.answers(PAGE, "add 0 " + kind + " 0 0 1 1", "3", "shape 3 0", "" + kind);
        }
        bounds.badArgument(PAGE, "add 0 -1 0 0 1 1", "add 0 3 0 0 1 1", "add 0 4 0 0 1 1", "add 0 2147483647 0 0 1 1",
                "add 0 -2147483648 0 0 1 1");
    }

    /** add: "or one of the values is not in its range": -2000 to 2000, and 1 to 2000. */
    private static void rangesOfABox() {
        for (int what = 0; what < 4; what++) {
            int[] box = {3, 3, 3, 3};
            box[what] = LEAST[what];
            bounds.answers(NEW, add(box), "0", "value 0 0 " + what, "" + LEAST[what]);
            box[what] = MOST[what];
            bounds.answers(NEW, add(box), "0", "value 0 0 " + what, "" + MOST[what]);
            int[] wrong = {LEAST[what] - 1, MOST[what] + 1, Integer.MAX_VALUE, Integer.MIN_VALUE};
            for (int value : wrong) {
                box[what] = value;
                bounds.badArgument(NEW, add(box));
            }
        }
        bounds.answers(NEW, "add 0 0 2000 2000 2000 2000", "0", "add 0 0 -2000 -2000 1 1", "1");
        bounds.answers(PAGE, "add 1 2 0 0 1 1", "3", "value 1 3 4", "0", "value 1 3 5", "20", "value 1 3 6", "0",
                "textSize 1 3", "0", "isSelected 3", "false");
    }

    private static String add(int[] box) {
        return "add 0 0 " + box[0] + " " + box[1] + " " + box[2] + " " + box[3];
    }

    /** add: "if there is no such sheet". */
    private static void homesOfShapes() {
        bounds.noIndex(PAGE, "add 3 0 0 0 1 1", "add -1 0 0 0 1 1", "add 2147483647 0 0 0 1 1",
                "add -2147483648 0 0 0 1 1");
        bounds.noIndex(PAGE.then("removeSlide 2"), "add 2 0 0 0 1 1");
        bounds.answers(PAGE, "add 2 0 0 0 1 1", "3", "shape 3 1", "2", "shape 3 3", "0");
    }

    /** "there are at most 100 at a time": add and group; groups count. */
    private static void aHundredShapes() {
        Story ninetyNine = NEW.then("addSlide 0 0").ran(0, boxes(99));
        bounds.answers(ninetyNine, "add 1 1 0 0 1 1", "99", "count 2", "100");
        bounds.answers(ninetyNine.then("select 98 1"), "group", "99", "count 2", "100", "shape 99 4", "1");
        Story hundred = NEW.then("addSlide 0 0").ran(0, boxes(100));
        bounds.badState(hundred, "add 0 0 0 0 1 1", "add 1 2 0 0 1 1");
        bounds.badState(hundred.then("select 99 1"), "group");
        bounds.badState(ninetyNine.then("select 0 1", "group"), "add 0 0 0 0 1 1", "group");
        bounds.answers(hundred.then("remove 0"), "add 0 0 0 0 1 1", "100", "count 2", "100", "shape 100 3", "99");
        bounds.badState(hundred.then("remove 0", "add 0 0 0 0 1 1"), "add 0 0 0 0 1 1");
        bounds.answers(ninetyNine.then("select 0 1", "group", "ungroup 99"), "add 0 0 0 0 1 1", "100");
        bounds.answers(hundred.then("undo"), "add 0 0 0 0 1 1", "0", "count 2", "1");
    }

    /** "Shapes are numbered from 0 likewise": a number is not given again. */
    private static void shapeNumbersAreNotGivenAgain() {
        bounds.answers(PAGE, "remove 2", "1", "add 0 0 0 0 1 1", "3", "remove 3", "1", "add 0 0 0 0 1 1", "4",
                "undo", "8", "add 0 0 0 0 1 1", "4");
        bounds.noIndex(PAGE.then("remove 2", "add 0 0 0 0 1 1"), "shape 2 0", "remove 2", "select 2 1",
                "isSelected 2");
        bounds.answers(PAGE.then("select 1 1"), "group", "3", "ungroup 3", "1", "group", "4");
    }

    /** remove: "if there is no such shape". */
    private static void removeWhatIsThere() {
        bounds.noIndex(PAGE, "remove 3", "remove -1", "remove 2147483647", "remove -2147483648");
        bounds.noIndex(PAGE.then("remove 0"), "remove 0");
        bounds.answers(PAGE, "remove 0", "1", "remove 2", "1", "remove 1", "1", "count 2", "0");
    }

    /** Three boxes on sheet 0, and the groups 3, 4 and 5 round the first one, each in the next. */
    private static Story nested() {
        return NEW.then("add 0 1 0 0 1 1", "add 0 0 0 0 1 1", "add 0 0 0 0 1 1", "select 0 1", "group", "group",
                "group");
    }

    /** remove: "if it is locked, or has a member that is". */
    private static void removeNoLockedShape() {
        Story plain = NEW.then("add 0 0 0 0 1 1", "add 0 0 0 0 1 1", "addSlide 0 0");
        bounds.badState(plain.then("set 0 0 6 4"), "remove 0");
        bounds.badState(plain.then("set 0 0 6 7"), "remove 0");
        bounds.answers(plain.then("set 0 0 6 3"), "remove 0", "1");
        bounds.answers(plain.then("set 1 0 6 4"), "remove 0", "1");
        for (int locked : new int[] {0, 3, 4, 5}) {
            Story story = nested().then("set 0 " + locked + " 6 4");
            bounds.badState(story, "remove 0", "remove 3", "remove 4", "remove 5");
            bounds.answers(story, "remove 1", "1", "remove 2", "1", "count 2", "4");
            bounds.answers(story.then("set 0 " + locked + " 6 0"), "remove 5", "4", "count 2", "2");
        }
        Story two = nested().then("select 5 0", "select 1 1", "select 2 1", "group", "set 0 1 6 4");
        bounds.badState(two, "remove 6", "remove 1");
        bounds.answers(two, "remove 2", "1", "shape 6 4", "1");
        bounds.badState(two.then("remove 2"), "remove 6", "remove 1");
    }

    /** "A group has members, at least one"; "a group that has no members any more is removed as well". */
    private static void groupsFallWithTheLastMember() {
        bounds.answers(nested(), "remove 0", "4", "count 2", "2", "shape 1 3", "0", "shape 2 3", "1");
        bounds.noIndex(nested().then("remove 0"), "shape 3 0", "shape 4 0", "shape 5 0", "ungroup 5", "isSelected 5");
        bounds.answers(nested(), "remove 4", "4", "count 2", "2");
        Story pair = NEW.then("add 0 0 0 0 1 1", "add 0 0 0 0 1 1", "select 0 1", "select 1 1", "group");
        bounds.answers(pair, "remove 0", "1", "shape 2 4", "1", "shape 1 2", "2", "shape 1 3", "0", "remove 1", "2",
                "count 2", "0");
        Story outer = nested().then("select 1 1", "ungroup 5", "select 1 1", "group");
        bounds.answers(outer, "shape 6 4", "2", "remove 0", "3", "shape 6 4", "1", "shape 1 2", "6", "remove 1", "2");
    }

    /** shape: "if there is no such shape, or what is not 0 to 5". */
    private static void whatIsToldOfAShape() {
        bounds.noIndex(nested(), "shape 6 0", "shape -1 0", "shape 2147483647 0", "shape -2147483648 0",
                "shape 0 -1", "shape 0 6", "shape 0 2147483647", "shape 0 -2147483648");
        bounds.answers(nested(), "shape 0 0", "1", "shape 0 1", "0", "shape 0 2", "3", "shape 0 3", "0",
                "shape 0 4", "0", "shape 0 5", "0", "shape 5 0", "3", "shape 5 2", "-1", "shape 5 3", "0",
                "shape 5 4", "1", "shape 1 2", "-1", "shape 1 3", "1", "shape 1 4", "0", "shape 2 3", "2");
    }

    /** "or which is a member of such a group (or of a group within such a one)". */
    private static void locksFromThreeGroupsAbove() {
        String[] locks = {"1 0 0 0", "1 1 0 0", "1 1 1 0", "1 1 1 1"};
        int[] chain = {0, 3, 4, 5};
        for (int i = 0; i < 4; i++) {
            Story story = nested().then("set 0 " + chain[i] + " 6 4");
            String[] due = locks[i].split(" ");
            bounds.answers(story, "shape 0 5", due[0], "shape 3 5", due[1], "shape 4 5", due[2], "shape 5 5", due[3],
                    "shape 1 5", "0");
        }
        bounds.answers(nested().then("set 0 5 6 3"), "shape 0 5", "0", "shape 5 5", "0");
        bounds.answers(nested().then("addSlide 0 0", "set 1 5 6 4", "set 1 0 6 4"), "shape 0 5", "0", "shape 5 5",
                "0",
                "remove 5", "4");
    }

    private static void ranges(int sheet, int shape, int what) {
        String call = "set " + sheet + " " + shape + " " + what + " ";
        String ask = "value " + sheet + " " + shape + " " + what;
        bounds.answers(PAGE, call + LEAST[what], Story.answer(PAGE.played(), ask), ask, "" + LEAST[what],
                call + MOST[what], "" + LEAST[what], ask, "" + MOST[what]);
        bounds.badArgument(PAGE, call + (LEAST[what] - 1), call + (MOST[what] + 1), call + Integer.MAX_VALUE,
                call + Integer.MIN_VALUE);
    }

    /** set: "if value is not in the range of this value", where the sheet is the home. */
    private static void rangesOfValuesAtHome() {
        for (int what = 0; what < 7; what++) {
            ranges(0, 0, what);
            ranges(1, 2, what);
        }
    }

    /** set: the same for overrides; an override stands for each value. */
    private static void rangesOfOverrides() {
        for (int what = 0; what < 7; what++) {
            ranges(1, 1, what);
            bounds.answers(PAGE, "set 1 1 " + what + " 4", Story.answer(PAGE.played(), "value 0 1 " + what),
                    "overrides 1", "1", "overrides 2", "0", "overrides 0", "0", "value 1 1 " + what, "4",
                    "value 2 1 " + what, Story.answer(PAGE.played(), "value 0 1 " + what), "clear 1 1 " + what, "0");
        }
    }

    /** set and value: "or what is not 0 to 6". */
    private static void namesOfValues() {
        for (String what : new String[] {"-1", "7", "2147483647", "-2147483648"}) {
            bounds.noIndex(PAGE, "set 0 0 " + what + " 1", "set 1 0 " + what + " 1", "value 0 0 " + what,
                    "value 1 0 " + what);
        }
        bounds.answers(PAGE, "value 0 0 0", "0", "value 0 0 6", "0", "value 0 0 5", "20");
    }

    /** set, value, write, textSize, textByte: "if there is no such sheet, or the shape is not seen on it". */
    private static void whereAShapeIsSeen() {
        Story story = PAGE.then("addMaster 0", "add 3 1 0 0 1 1").fed("text");
        String[][] unseen = {{"3", "0"}, {"-1", "0"}, {"9", "0"}, {"2147483647", "0"}, {"-2147483648", "0"},
            {"0", "2"}, {"2", "2"}, {"3", "2"}, {"0", "3"}, {"1", "3"}, {"0", "4"}, {"0", "-1"}, {"1", "99"},
            {"1", "2147483647"}, {"1", "-2147483648"}};
        for (int i = 1; i < unseen.length; i++) {
            String pair = unseen[i][0] + " " + unseen[i][1];
            bounds.noIndex(story, "set " + pair + " 0 1", "value " + pair + " 0", "write " + pair, "textSize " + pair,
                    "textByte " + pair + " 0", "lines " + pair);
        }
        bounds.answers(story, "value 3 0 2", "10", "value 3 3 2", "1", "value 1 2 2", "10", "value 2 1 2", "10");
        Story moved = story.then("setBase 1 3");
        bounds.answers(moved, "value 1 3 2", "1", "set 1 3 2 5", "1", "write 1 3", "4", "textSize 1 3", "4");
        bounds.noIndex(moved.then("setBase 1 0"), "value 1 3 2", "set 1 3 2 5", "write 1 3", "textSize 1 3");
        bounds.noIndex(story.then("remove 0"), "value 0 0 0", "set 0 0 0 0");
    }

    /** "A group has its marks alone"; set: "or the shape is a group, and what is not 6". */
    private static void groupsHaveTheirMarksAlone() {
        Story story = nested().then("addSlide 0 0");
        for (int what = 0; what < 6; what++) {
            for (int group = 3; group < 6; group++) {
                bounds.badArgument(story, "set 0 " + group + " " + what + " 5", "set 1 " + group + " " + what + " 5");
            }
        }
        bounds.answers(story, "set 0 5 6 7", "0", "value 0 5 6", "7", "set 1 5 6 0", "7", "overrides 1", "1");
        bounds.badArgument(story, "set 0 5 6 8", "set 0 5 6 -1", "set 1 5 6 8", "set 1 5 6 -1");
        bounds.answers(story, "value 0 5 4", "0", "value 0 5 5", "0", "value 1 5 4", "0", "value 1 5 5", "0",
                "set 0 0 4 7", "0", "set 0 0 5 100", "20", "value 0 3 4", "0", "value 0 3 5", "0", "textSize 0 5",
                "0",
                "lines 0 5", "0");
        bounds.badArgument(story, "write 0 5", "write 1 3");
        bounds.noIndex(story, "textByte 0 5 0");
    }

    /** set: "if the sheet is its home, it is locked, and what is not 6". */
    private static void setWhatIsLocked() {
        for (int locked : new int[] {0, 3, 4, 5}) {
            Story story = nested().then("addSlide 0 0", "set 0 " + locked + " 6 4");
            for (int what = 0; what < 6; what++) {
                bounds.badState(story, "set 0 0 " + what + " 5");
                bounds.answers(story, "set 1 0 " + what + " 5", Story.answer(story.played(), "value 0 0 " + what),
                        "value 1 0 " + what, "5");
            }
            bounds.answers(story, "set 0 0 6 1", locked == 0 ? "4" : "0", "set 0 3 6 1", locked == 3 ? "4" : "0",
                    "set 0 5 6 2", locked == 5 ? "4" : "0", "set 1 5 6 4", "2", "set 0 1 0 5", "0");
        }
        Story unlocked = nested().then("addSlide 0 0", "set 1 0 6 4", "set 1 5 6 7", "set 0 0 6 3");
        bounds.answers(unlocked, "set 0 0 0 5", "0", "value 0 0 0", "5");
    }

    /** "its box ... is the smallest one that contains the boxes of all its members", beyond the ranges too. */
    private static void boxesOfGroups() {
        Story far = NEW.then("add 0 0 -2000 2000 1 2000", "add 0 0 2000 -2000 2000 1", "select 0 1", "select 1 1",
                "group", "addSlide 0 0");
        bounds.answers(far, "value 0 2 0", "-2000", "value 0 2 1", "-2000", "value 0 2 2", "6000", "value 0 2 3",
                "6000");
        bounds.answers(far.then("set 1 0 0 1999", "set 1 0 1 -2000", "set 1 0 3 2"), "value 1 2 0", "1999",
                "value 1 2 1", "-2000", "value 1 2 2", "2001", "value 1 2 3", "2", "value 0 2 2", "6000");
        bounds.answers(far.then("remove 0"), "value 0 2 0", "2000", "value 0 2 1", "-2000", "value 0 2 2", "2000",
                "value 0 2 3", "1");
    }

    /** "A TEXT has a text, 0 to 40 bytes"; write: "or the tape has more than 40 bytes". */
    private static void fortyBytes() {
        bounds.answers(PAGE, "write 0 1", "0", "textSize 0 1", "0", "overrides 1", "0", "write 1 1", "0",
                "overrides 1", "1");
        bounds.answers(PAGE.fed(FORTY), "write 0 1", "40", "textSize 0 1", "40", "textByte 0 1 0", "48",
                "textByte 0 1 38", "126", "textByte 0 1 39", "46", "trim 0", "0", "feed 65 1", "1");
        bounds.answers(PAGE.fed(FORTY), "write 1 1", "40", "textSize 1 1", "40", "textSize 0 1", "0");
        bounds.badArgument(PAGE.fed(FORTY + "A"), "write 0 1", "write 1 1", "write 1 2");
        bounds.badArgument(PAGE.fed(" ".repeat(600)), "write 0 1");
        bounds.answers(PAGE.fed(FORTY + "A").then("trim 40"), "write 0 1", "40");
        bounds.answers(PAGE.wrote(0, 1, FORTY), "write 0 1", "0", "textSize 0 1", "0");
        bounds.answers(PAGE, "textSize 0 1", "0", "textSize 0 0", "0");
    }

    /** "... from 32 to 126"; write: "or one that is not 32 to 126", be it the first or the last one. */
    private static void bytesOfATextAre32To126() {
        bounds.answers(PAGE.fed(" ~"), "write 0 1", "2", "textByte 0 1 0", "32", "textByte 0 1 1", "126");
        for (int one : new int[] {0, 1, 10, 31, 127, 128, 254, 255}) {
            Story wrong = PAGE.then("feed " + one + " 1");
            bounds.badArgument(wrong, "write 0 1", "write 1 1");
            bounds.badArgument(wrong.fed("ab"), "write 0 1");
            bounds.badArgument(PAGE.fed("ab").then("feed " + one + " 1"), "write 0 1");
            bounds.badArgument(PAGE.fed(FORTY.substring(1)).then("feed " + one + " 1"), "write 1 1");
            bounds.answers(PAGE.fed("ab").then("feed " + one + " 1", "trim 2"), "write 0 1", "2");
        }
    }

    /** write: "if the shape is no TEXT". */
    private static void writeTextsAlone() {
        Story story = PAGE.then("add 0 2 0 0 1 1", "select 0 1", "group").fed("abc");
        bounds.badArgument(story, "write 0 0", "write 0 3", "write 0 4", "write 1 0");
        bounds.badArgument(PAGE, "write 0 0", "write 2 0");
        bounds.answers(story, "write 0 1", "3", "write 1 2", "0");
    }

    /** write: "if the sheet is its home, and it is locked". */
    private static void writeWhatIsLocked() {
        for (int locked : new int[] {0, 3, 4, 5}) {
            Story story = nested().then("addSlide 0 0", "set 0 " + locked + " 6 4").fed("abc");
            bounds.badState(story, "write 0 0");
            bounds.badState(story.then("trim 0"), "write 0 0");
            bounds.answers(story, "write 1 0", "3", "textSize 1 0", "3", "textSize 0 0", "0", "trim 0", "0");
            bounds.answers(story.then("set 0 " + locked + " 6 3"), "write 0 0", "3");
        }
        bounds.answers(nested().then("addSlide 0 0", "set 1 0 6 4").fed("abc"), "write 0 0", "3");
    }

    /** textByte: "or there is no such byte". */
    private static void noSuchByte() {
        Story story = PAGE.wrote(0, 1, "abc").wrote(1, 1, FORTY).wrote(1, 2, "z");
        bounds.answers(story, "textByte 0 1 0", "97", "textByte 0 1 2", "99", "textByte 2 1 2", "99",
                "textByte 1 1 39", "46", "textByte 1 2 0", "122");
        bounds.noIndex(story, "textByte 0 1 3", "textByte 0 1 -1", "textByte 2 1 3", "textByte 1 1 40",
                "textByte 1 1 -1", "textByte 1 2 1", "textByte 0 1 2147483647", "textByte 0 1 -2147483648");
        bounds.noIndex(PAGE, "textByte 0 1 0", "textByte 0 0 0", "textByte 1 2 0", "textByte 0 1 -1");
        bounds.noIndex(story.then("write 1 1"), "textByte 1 1 0");
        bounds.noIndex(story.then("clear 1 1 7"), "textByte 1 1 3");
        bounds.answers(story.then("clear 1 1 7"), "textByte 1 1 2", "99");
    }

    /** clear: "if there is no such sheet, or it has no such override". */
    private static void overridesToTakeAway() {
        Story story = PAGE.then("set 1 0 0 5", "set 1 0 6 1").wrote(1, 1, "x");
        bounds.answers(story, "overrides 1", "3", "clear 1 0 0", "2", "clear 1 1 7", "1", "clear 1 0 6", "0",
                "overrides 1", "0");
        bounds.noIndex(story, "clear 1 0 1", "clear 1 0 5", "clear 1 0 7", "clear 1 1 0", "clear 1 1 6",
                "clear 1 1 8", "clear 1 0 8", "clear 1 0 -1", "clear 1 1 2147483647", "clear 1 1 -2147483648");
        bounds.noIndex(story, "clear 0 0 0", "clear 2 0 0", "clear 3 0 0", "clear -1 0 0", "clear 2147483647 0 0",
                "clear 1 2 0", "clear 1 3 0", "clear 1 -1 0", "clear 1 99 0", "clear 1 2147483647 0",
                "clear 1 -2147483648 0");
        bounds.noIndex(story.then("clear 1 0 0"), "clear 1 0 0");
        bounds.noIndex(story.then("clear 1 1 7"), "clear 1 1 7");
        bounds.noIndex(PAGE, "clear 0 1 7", "clear 1 2 7", "clear 1 1 7", "clear 1 2 0");
        bounds.answers(story.then("set 0 0 6 4"), "clear 1 0 0", "2");
        for (int what = 0; what < 7; what++) {
            Story one = PAGE.then("set 1 0 " + what + " 4");
            bounds.answers(one, "clear 1 0 " + what, "0", "value 1 0 " + what,
                    Story.answer(PAGE.played(), "value 0 0 " + what));
            bounds.noIndex(one, "clear 1 0 " + (what + 1), "clear 1 0 " + (what - 1));
        }
    }

    /** "An override for a shape that is removed ... is gone", by each way in which a shape can be removed. */
    private static void overridesOfShapesThatAreGone() {
        Story story = nested().then("addSlide 0 0", "addSlide 0 0", "set 1 0 0 5", "set 1 3 6 2", "set 1 5 6 2",
                "set 1 1 0 5", "set 2 0 4 1");
        bounds.answers(story, "overrides 1", "4", "remove 1", "1", "overrides 1", "3", "overrides 2", "1");
        bounds.answers(story, "remove 0", "4", "overrides 1", "1", "overrides 2", "0");
        bounds.answers(story, "ungroup 5", "1", "overrides 1", "3", "overrides 2", "1");
        bounds.answers(story.then("ungroup 5", "group"), "shape 6 0", "3", "overrides 1", "3", "value 1 6 6", "0");
        bounds.answers(story.ran(0, "pick rank=0;drop;"), "overrides 1", "1", "overrides 2", "0");
        bounds.answers(story.ran(0, "pick kind=0;drop;"), "overrides 1", "3", "overrides 2", "1");
        bounds.answers(story, "remove 1", "1", "add 0 0 9 9 9 9", "6", "value 1 6 0", "9", "overrides 1", "3");
        bounds.noIndex(story.then("remove 1", "add 0 0 9 9 9 9"), "clear 1 6 0", "clear 1 1 0");
        bounds.answers(story, "removeSlide 1", "1", "addSlide 0 0", "3", "overrides 3", "0", "value 3 0 0", "0");
    }

    /** overrides: "if there is no such sheet"; an override of each kind for each shape counts once. */
    private static void overridesUpToTheLast() {
        Story story = PAGE;
        for (int what = 0; what < 7; what++) {
            story = story.then("set 1 1 " + what + " 4", "set 1 1 " + what + " 5");
        }
        story = story.then("write 1 1", "write 1 1");
        bounds.answers(story, "overrides 1", "8", "overrides 0", "0", "overrides 2", "0", "changed 1", "4.0");
        bounds.answers(story.then("duplicate 1"), "overrides 3", "8", "overrides 1", "8");
        bounds.noIndex(story, "overrides 3", "overrides -1", "overrides 2147483647", "overrides -2147483648");
        bounds.noIndex(story.then("removeSlide 1"), "overrides 1");
    }
}
