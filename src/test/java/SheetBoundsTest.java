/** The boundary cases of section 1 about sheets, and of promises 1 to 12: the last allowed, the first refused. */
final class SheetBoundsTest {
    private static final Bounds bounds = new Bounds();
    private static final Story NEW = new Story();
    private static final String[] NO_SHEETS = {"-1", "99", "2147483647", "-2147483648"};

    public static void main(String[] arguments) {
        aNewObject();
        sheetZeroHasNoBase();
        eightMasters();
        theBaseOfAMaster();
        twentyFourSlides();
        theMasterOfASlide();
        thePlaceOfANewSlide();
        duplicateAmongTwentyFour();
        duplicateUpToAHundredShapes();
        duplicateGroupsInGroups();
        duplicateTakesSlidesAlone();
        removeTheLastSlide();
        removeNoLockedShape();
        removeSlideAmongAHundredShapes();
        anOverrideLocksNothing();
        placesToMoveTo();
        placesOfSlides();
        numbersAreNotGivenAgain();
        noBaseForSheetZero();
        noCircleOfBases();
        basesAreMasters();
        overridesGoneByANewBase();
        whatIsCounted();
        rangeOfShades();
        shadesOfMastersAlone();
        shadesFromBelow();
        bounds.end();
    }

    private static Story masters(int many) {
        return NEW.times(many - 1, "addMaster 0");
    }

    private static Story slides(int many) {
        return NEW.times(many, "addSlide 0 0");
    }

    /** "Creates a deck with the master 0, without slides and shapes, an empty selection and an empty tape." */
    private static void aNewObject() {
        bounds.answers(NEW, "count 0", "1", "count 1", "0", "count 2", "0", "state", "0", "states", "1",
                "errorAt", "-1", "steps", "0", "trim 0", "0", "painted 0", "0", "overrides 0", "0",
                "overfull 0", "0", "changed 0", "0.0", "top 0 0 0", "-1", "told 0 0", "-1", "told 0 1", "0",
                "told 0 2", "-1", "told 0 3", "0", "go 0", "0");
        bounds.answers(NEW, "run 0", "0");
        bounds.noIndex(NEW, "slideAt 0", "removeSlide 0", "duplicate 0", "moveSlide 0 0", "base 1", "painted 1",
                "paintedAt 0 0", "shape 0 0", "remove 0", "select 0 1", "select 0 0", "isSelected 0", "ungroup 0",
                "arrange 0 0", "value 0 0 0", "set 0 0 0 0", "write 0 0", "textSize 0 0", "textByte 0 0 0",
                "clear 0 0 0", "common 0 0 0", "lines 0 0", "told 1 0", "go 1", "run 1");
        bounds.badState(NEW, "undo", "redo", "group", "align 0", "spread 1", "spread 0");
        bounds.badArgument(NEW, "trim 1");
    }

    /** "Sheet 0 is a master, there from the beginning, which has no base." */
    private static void sheetZeroHasNoBase() {
        bounds.answers(masters(2).then("addSlide 1 0"), "base 0", "-1", "base 1", "0", "base 2", "1");
        for (String none : NO_SHEETS) {
            bounds.noIndex(slides(1), "base " + none);
        }
        bounds.noIndex(slides(1), "base 2");
    }

    /** "There are at most 8 masters ... at a time." */
    private static void eightMasters() {
        bounds.answers(masters(7), "addMaster 6", "7", "count 0", "8", "base 7", "6");
        bounds.badState(masters(8), "addMaster 0", "addMaster 7");
        bounds.badState(masters(8).then("addSlide 7 0"), "addMaster 0");
        bounds.answers(masters(8).then("undo"), "addMaster 0", "7", "count 0", "8");
        bounds.answers(masters(8), "addSlide 7 0", "8", "base 8", "7");
    }

    /** addMaster: "if there is no such master". */
    private static void theBaseOfAMaster() {
        for (String none : NO_SHEETS) {
            bounds.noIndex(masters(3), "addMaster " + none);
        }
        bounds.noIndex(masters(3), "addMaster 3");
        bounds.answers(masters(3), "addMaster 2", "3", "base 3", "2");
        bounds.noIndex(slides(1), "addMaster 1");
        bounds.noIndex(slides(1).then("removeSlide 1"), "addMaster 1");
        bounds.noIndex(masters(2).then("undo"), "addMaster 1");
    }

    /** "There are at most ... 24 slides at a time." */
    private static void twentyFourSlides() {
        bounds.answers(slides(23), "addSlide 0 23", "24", "count 1", "24", "slideAt 23", "24");
        bounds.badState(slides(24), "addSlide 0 0", "addSlide 0 24");
        bounds.answers(slides(24).then("removeSlide 1"), "addSlide 0 23", "25", "count 1", "24");
        bounds.badState(slides(24).then("removeSlide 1", "addSlide 0 23"), "addSlide 0 0");
        bounds.answers(slides(24), "addMaster 0", "25");
    }

    /** addSlide: "if there is no such master". */
    private static void theMasterOfASlide() {
        Story story = masters(2).then("addSlide 1 0");
        for (String none : NO_SHEETS) {
            bounds.noIndex(story, "addSlide " + none + " 0");
        }
        bounds.noIndex(story, "addSlide 2 0", "addSlide 3 0");
        bounds.answers(story, "addSlide 1 0", "3", "base 3", "1");
    }

    /** addSlide: "or place is not 0 to the number of slides"; "those from there on come one place later". */
    private static void thePlaceOfANewSlide() {
        bounds.noIndex(NEW, "addSlide 0 -1", "addSlide 0 1");
        bounds.answers(NEW, "addSlide 0 0", "1", "slideAt 0", "1");
        Story three = NEW.then("addSlide 0 0", "addSlide 0 1", "addSlide 0 2");
        bounds.noIndex(three, "addSlide 0 -1", "addSlide 0 4", "addSlide 0 2147483647", "addSlide 0 -2147483648");
        bounds.answers(three, "addSlide 0 3", "4", "slideAt 2", "3", "slideAt 3", "4");
        bounds.answers(three, "addSlide 0 0", "4", "slideAt 0", "4", "slideAt 1", "1", "slideAt 3", "3");
        bounds.answers(three, "addSlide 0 2", "4", "slideAt 1", "2", "slideAt 2", "4", "slideAt 3", "3");
    }

    /** duplicate: "if there are 24 slides". */
    private static void duplicateAmongTwentyFour() {
        bounds.answers(slides(23), "duplicate 1", "24", "count 1", "24", "slideAt 22", "1", "slideAt 23", "24");
        bounds.answers(slides(23), "duplicate 23", "24", "slideAt 0", "23", "slideAt 1", "24", "slideAt 2", "22");
        bounds.badState(slides(24), "duplicate 1", "duplicate 24");
        bounds.badState(slides(24).ran(5, "box 1,1,1,1;"), "duplicate 5");
    }

    private static String boxes(int many) {
        return "repeat " + many + "{box 1,1,1,1;}";
    }

    /** duplicate: "there would be more than 100 shapes". */
    private static void duplicateUpToAHundredShapes() {
        Story fifty = slides(1).ran(1, boxes(50));
        bounds.answers(fifty, "duplicate 1", "2", "count 2", "100", "shape 99 1", "2", "shape 99 3", "49");
        Story fiftyOne = slides(1).ran(1, boxes(51));
        bounds.badState(fiftyOne, "duplicate 1");
        bounds.answers(fiftyOne.then("remove 50"), "duplicate 1", "2", "count 2", "100");
        bounds.badState(slides(1).ran(1, boxes(50)).then("add 0 0 0 0 1 1"), "duplicate 1");
        bounds.badState(slides(1).ran(1, boxes(50)).then("add 0 0 0 0 1 1", "arrange 49 0"), "duplicate 1");
        bounds.answers(slides(1).ran(1, boxes(49)).then("add 0 0 0 0 1 1"), "duplicate 1", "2", "count 2", "99");
        Story oneOfNinetyNine = slides(2).ran(0, boxes(98)).then("add 1 0 0 0 1 1");
        bounds.answers(oneOfNinetyNine, "duplicate 1", "3", "count 2", "100");
        Story oneOfHundred = slides(2).ran(0, boxes(99)).then("add 1 0 0 0 1 1");
        bounds.badState(oneOfHundred, "duplicate 1");
        bounds.answers(oneOfHundred, "duplicate 2", "3", "count 2", "100", "count 1", "3");
        Story withAGroup = slides(1).ran(1, boxes(49)).then("select 0 1", "group");
        bounds.answers(withAGroup, "duplicate 1", "2", "count 2", "100");
        bounds.badState(slides(1).ran(1, boxes(50)).then("select 0 1", "group"), "duplicate 1");
    }

    /** "a group comes directly ahead of its members": with three groups in one another, and the last 100 numbers. */
    private static void duplicateGroupsInGroups() {
        Story story = slides(1).then("add 1 0 0 0 1 1", "add 1 1 5 0 1 1", "add 1 2 0 0 1 1", "select 0 1", "group",
                "select 1 1", "group", "group", "select 0 1", "arrange 5 1", "set 1 4 6 1", "duplicate 1");
        bounds.answers(story, "shape 6 0", "2", "shape 6 3", "0", "shape 7 0", "3", "shape 7 2", "-1", "shape 7 3",
                "1",
                "shape 7 4", "1", "shape 8 0", "3", "shape 8 2", "7", "shape 8 4", "2", "shape 9 0", "3",
                "shape 9 2", "8",
                "shape 9 3", "0", "shape 10 0", "0", "shape 10 2", "9", "shape 11 0", "1", "shape 11 2", "8",
                "shape 11 3", "1", "value 2 8 6", "1", "value 2 11 0", "5", "painted 2", "1", "count 2", "12");
        bounds.badState(story.then("select 7 1"), "group");
        bounds.answers(story, "isSelected 0", "true", "isSelected 10", "false", "remove 10", "2", "remove 11", "3",
                "shape 0 2", "3", "count 2", "7");
    }

    /** duplicate: "if there is no such slide". */
    private static void duplicateTakesSlidesAlone() {
        Story story = masters(2).then("addSlide 0 0", "addSlide 0 0", "removeSlide 2");
        bounds.noIndex(story, "duplicate 0", "duplicate 1", "duplicate 2", "duplicate 4");
        for (String none : NO_SHEETS) {
            bounds.noIndex(story, "duplicate " + none);
        }
        bounds.answers(story, "duplicate 3", "4", "slideAt 1", "4");
    }

    /** removeSlide: "Returns how many slides are left", none behind the last one; "if there is no such slide". */
    private static void removeTheLastSlide() {
        Story two = slides(2).then("add 1 0 0 0 1 1", "add 2 0 0 0 1 1");
        bounds.answers(two, "removeSlide 1", "1", "removeSlide 2", "0", "count 1", "0", "count 2", "0");
        bounds.noIndex(two, "removeSlide 0", "removeSlide 3");
        for (String none : NO_SHEETS) {
            bounds.noIndex(two, "removeSlide " + none);
        }
        bounds.noIndex(two.then("removeSlide 1"), "removeSlide 1", "base 1", "overrides 1", "painted 1",
                "shade 1 0", "add 1 0 0 0 1 1", "run 1", "changed 1", "overfull 1", "top 1 0 0", "setBase 1 0");
        bounds.noIndex(slides(1).then("removeSlide 1"), "slideAt 0", "addSlide 0 1", "moveSlide 1 0");
        bounds.answers(slides(1).then("removeSlide 1"), "addSlide 0 0", "2", "slideAt 0", "2");
    }

    /** removeSlide: "if one of these shapes is locked", itself or by a group in which it is. */
    private static void removeNoLockedShape() {
        Story three = slides(2).then("add 1 0 0 0 1 1", "add 1 1 0 0 1 1", "add 1 2 0 0 1 1");
        for (int shape = 0; shape < 3; shape++) {
            bounds.badState(three.then("set 1 " + shape + " 6 4"), "removeSlide 1");
            bounds.badState(three.then("set 1 " + shape + " 6 7"), "removeSlide 1");
            bounds.answers(three.then("set 1 " + shape + " 6 3"), "removeSlide 1", "1", "count 2", "0");
        }
        Story grouped = three.then("select 1 1", "group", "group", "group");
        for (int group = 3; group < 6; group++) {
            bounds.badState(grouped.then("set 1 " + group + " 6 4"), "removeSlide 1");
        }
        bounds.badState(grouped.then("set 1 1 6 4"), "removeSlide 1");
        bounds.answers(grouped.then("set 1 5 6 4", "set 1 5 6 0"), "removeSlide 1", "1", "count 2", "0");
        bounds.answers(three.then("set 1 0 6 4"), "removeSlide 2", "1", "count 2", "3");
    }

    /** removeSlide where there are 100 shapes, all of them on the slide, one of them, or none. */
    private static void removeSlideAmongAHundredShapes() {
        Story all = slides(2).ran(1, boxes(99)).then("add 1 0 0 0 1 1");
        bounds.answers(all, "count 2", "100", "removeSlide 1", "1", "count 2", "0");
        bounds.answers(all, "removeSlide 2", "1", "count 2", "100", "removeSlide 1", "0", "count 2", "0");
        bounds.badState(all.then("set 1 99 6 4"), "removeSlide 1");
        Story one = slides(2).then("add 1 0 0 0 1 1").ran(2, boxes(99));
        bounds.answers(one, "removeSlide 1", "1", "count 2", "99", "removeSlide 2", "0", "count 2", "0");
        bounds.badState(one.then("set 2 99 6 4"), "removeSlide 2");
    }

    /** "A locked shape is one whose own value of marks has 4 in it": those of other homes lock no slide. */
    private static void anOverrideLocksNothing() {
        Story story = slides(1).then("add 0 0 0 0 1 1", "add 1 0 0 0 1 1", "set 1 0 6 4");
        bounds.answers(story, "removeSlide 1", "0", "count 2", "1", "shape 0 5", "0");
        bounds.answers(story.then("set 0 0 6 4"), "removeSlide 1", "0", "count 2", "1", "shape 0 5", "1");
    }

    /** moveSlide: "if there is no such slide or place". */
    private static void placesToMoveTo() {
        bounds.answers(slides(1), "moveSlide 1 0", "0", "slideAt 0", "1");
        bounds.noIndex(slides(1), "moveSlide 1 1", "moveSlide 1 -1", "moveSlide 0 0", "moveSlide 2 0");
        Story three = NEW.then("addSlide 0 0", "addSlide 0 1", "addSlide 0 2");
        bounds.answers(three, "moveSlide 1 2", "0", "slideAt 0", "2", "slideAt 1", "3", "slideAt 2", "1");
        bounds.answers(three, "moveSlide 3 0", "2", "slideAt 0", "3", "slideAt 1", "1", "slideAt 2", "2");
        bounds.noIndex(three, "moveSlide 1 3", "moveSlide 3 3", "moveSlide 2 -1", "moveSlide 2 2147483647",
                "moveSlide 2 -2147483648", "moveSlide 4 0", "moveSlide -1 0", "moveSlide 0 0");
        bounds.noIndex(three.then("removeSlide 3"), "moveSlide 1 2", "moveSlide 3 0");
        Story all = slides(24);
        bounds.answers(all, "moveSlide 24 23", "0", "slideAt 0", "23", "slideAt 22", "1", "slideAt 23", "24");
        bounds.answers(all, "moveSlide 1 0", "23", "slideAt 0", "1", "slideAt 1", "24", "slideAt 23", "2");
        bounds.noIndex(all, "moveSlide 1 24");
    }

    /** slideAt: "if there is no such place". */
    private static void placesOfSlides() {
        bounds.answers(slides(24), "slideAt 0", "24", "slideAt 23", "1");
        bounds.noIndex(slides(24), "slideAt 24", "slideAt -1");
        bounds.answers(slides(1), "slideAt 0", "1");
        bounds.noIndex(slides(1), "slideAt 1", "slideAt -1", "slideAt 2147483647", "slideAt -2147483648");
    }

    /** "Sheets ... are numbered from 0 in the order of their creation; a number is not given again." */
    private static void numbersAreNotGivenAgain() {
        Story story = NEW.then("addSlide 0 0", "addMaster 0", "addSlide 2 0", "duplicate 1");
        bounds.answers(story, "addMaster 0", "5");
        bounds.answers(story, "removeSlide 4", "2", "addSlide 0 0", "5", "removeSlide 5", "2", "addMaster 0", "6");
        bounds.noIndex(story.then("removeSlide 4", "addSlide 0 0"), "base 4", "duplicate 4");
        bounds.answers(story, "undo", "3", "addSlide 0 0", "4");
        bounds.noIndex(story.then("undo"), "base 4");
    }

    /** setBase: "if sheet is 0". */
    private static void noBaseForSheetZero() {
        bounds.badArgument(masters(2), "setBase 0 0", "setBase 0 1");
        bounds.badArgument(NEW, "setBase 0 0");
        bounds.answers(masters(2), "setBase 1 0", "0", "base 1", "0");
    }

    /** setBase: "or base is this sheet, or follows it", up to a chain of all 8 masters. */
    private static void noCircleOfBases() {
        Story chain = NEW;
        for (int base = 0; base < 7; base++) {
            chain = chain.then("addMaster " + base);
        }
        chain = chain.then("addSlide 7 0");
        bounds.badArgument(chain, "setBase 1 1", "setBase 1 2", "setBase 1 7", "setBase 6 7", "setBase 7 7",
                "setBase 3 5");
        bounds.answers(chain, "setBase 7 0", "0", "base 7", "0", "setBase 6 7", "0", "base 6", "7");
        bounds.answers(chain, "setBase 8 0", "0", "setBase 8 7", "0", "setBase 8 1", "0", "base 8", "1");
        bounds.answers(chain, "setBase 2 0", "0", "setBase 1 7", "0", "base 1", "7");
        bounds.badArgument(chain.then("setBase 2 0", "setBase 1 7"), "setBase 2 1", "setBase 7 1", "setBase 2 7");
    }

    /** setBase: "if there is no such sheet, or base is no master". */
    private static void basesAreMasters() {
        Story story = masters(2).then("addSlide 0 0", "addSlide 0 0", "removeSlide 2");
        for (String none : NO_SHEETS) {
            bounds.noIndex(story, "setBase " + none + " 0", "setBase 1 " + none, "setBase 3 " + none);
        }
        bounds.noIndex(story, "setBase 2 0", "setBase 3 2", "setBase 3 3", "setBase 1 3", "setBase 4 0",
                "setBase 3 4");
        bounds.answers(story, "setBase 3 1", "0", "base 3", "1", "setBase 1 0", "0");
    }

    /** "Overrides ... for shapes that are not seen on them any more are gone": none, one, and by way of others. */
    private static void overridesGoneByANewBase() {
        Story story = masters(3).then("addMaster 1", "addSlide 3 0", "addSlide 1 0", "add 0 0 0 0 1 1",
                "add 1 1 0 0 1 1", "add 3 0 0 0 1 1", "set 4 0 0 5", "set 5 1 0 5");
        bounds.answers(story, "setBase 3 2", "0", "overrides 4", "1", "overrides 5", "1");
        Story one = story.then("set 4 1 6 1");
        bounds.answers(one, "setBase 3 2", "1", "overrides 4", "1", "overrides 5", "1", "value 4 0 0", "5");
        bounds.noIndex(one.then("setBase 3 2"), "clear 4 1 6", "value 4 1 6", "set 4 1 6 1");
        bounds.answers(one.then("setBase 3 2", "setBase 3 1"), "overrides 4", "1", "value 4 1 6", "0");
        Story single = masters(3).then("addSlide 1 0", "add 1 0 0 0 1 1", "add 0 0 0 0 1 1", "set 3 0 0 7");
        bounds.answers(single, "setBase 3 0", "1", "overrides 3", "0");
        bounds.answers(single.then("setBase 3 2", "setBase 3 1"), "value 3 0 0", "0", "overrides 3", "0");
        bounds.answers(single.then("clear 3 0 0", "set 3 1 0 7"), "setBase 3 2", "0", "overrides 3", "1");
        bounds.answers(single.then("arrange 0 0"), "setBase 1 2", "0", "overrides 3", "1", "value 3 0 0", "7");
        Story all = one;
        for (int what = 0; what < 6; what++) {
            all = all.then("set 4 1 " + what + " 7", "set 3 1 " + what + " 7", "set 4 2 " + what + " 7");
        }
        all = all.then("write 3 1", "write 4 1");
        bounds.answers(all, "overrides 4", "15", "overrides 3", "7", "setBase 3 2", "15", "overrides 4", "7",
                "overrides 3", "0", "overrides 5", "1", "undo", "31", "overrides 4", "15");
        bounds.answers(all, "setBase 4 1", "6", "overrides 4", "9", "setBase 4 0", "8", "overrides 4", "1",
                "overrides 3", "7");
    }

    /** count: "if what is not 0 to 2". */
    private static void whatIsCounted() {
        Story story = slides(2).then("add 0 0 0 0 1 1", "select 0 1", "group", "add 1 0 0 0 1 1");
        bounds.answers(story, "count 0", "1", "count 1", "2", "count 2", "3");
        bounds.noIndex(story, "count -1", "count 3", "count 2147483647", "count -2147483648");
    }

    /** setShade: "if shade is not -1 to 255"; setShade and shade: "colour is not 0 to 7". */
    private static void rangeOfShades() {
        Story story = masters(2);
        bounds.answers(story, "setShade 0 0 0", "-1", "setShade 0 0 255", "0", "setShade 0 0 -1", "255",
                "setShade 0 0 -1", "-1", "shade 0 0", "0");
        bounds.answers(story, "setShade 1 7 255", "-1", "shade 1 7", "255", "shade 0 7", "210");
        bounds.answers(story, "setShade 0 7 255", "-1", "setShade 1 7 0", "-1", "shade 1 7", "0", "setShade 1 7 -1",
                "0",
                "shade 1 7", "255", "setShade 0 7 0", "255", "shade 1 7", "0", "shade 0 7", "0", "setShade 0 7 -1",
                "0",
                "shade 1 7", "210");
        bounds.badArgument(story, "setShade 0 0 -2", "setShade 0 0 256", "setShade 1 7 256",
                "setShade 0 0 2147483647", "setShade 0 0 -2147483648");
        bounds.noIndex(story, "setShade 0 -1 0", "setShade 0 8 0", "setShade 1 8 255", "setShade 0 2147483647 0",
                "setShade 0 -2147483648 0");
        bounds.noIndex(story, "shade 0 -1", "shade 0 8", "shade 1 8", "shade 0 2147483647", "shade 0 -2147483648");
        bounds.answers(story, "shade 0 0", "0", "shade 0 7", "210", "shade 1 7", "210");
    }

    /** setShade: "if there is no such master"; shade: "if there is no such sheet". */
    private static void shadesOfMastersAlone() {
        Story story = masters(2).then("addSlide 1 0");
        bounds.noIndex(story, "setShade 2 0 0", "setShade 3 0 0", "shade 3 0");
        for (String none : NO_SHEETS) {
            bounds.noIndex(story, "setShade " + none + " 0 0", "shade " + none + " 0");
        }
        bounds.answers(story, "setShade 1 0 9", "-1", "shade 2 0", "9", "shade 1 0", "9", "shade 0 0", "0");
    }

    /** "otherwise that on its base; on sheet 0, if it has none, 30 times the colour", up to 8 masters below. */
    private static void shadesFromBelow() {
        Story chain = NEW;
        for (int base = 0; base < 7; base++) {
            chain = chain.then("addMaster " + base);
        }
        chain = chain.then("addSlide 7 0");
        bounds.answers(chain, "shade 8 7", "210", "setShade 0 7 1", "-1", "shade 8 7", "1", "setShade 7 7 2", "-1",
                "shade 8 7", "2", "setShade 7 7 -1", "2", "shade 8 7", "1", "setShade 0 7 -1", "1", "shade 8 7",
                "210");
    }
}
