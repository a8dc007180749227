/** The boundary cases of promises 23 to 29: the selection, groups, places, align and spread. */
final class SelectionBoundsTest {
    private static final Bounds bounds = new Bounds();
    private static final Story NEW = new Story();
    private static final String[] NO_SHAPES = {"-1", "99", "2147483647", "-2147483648"};

    public static void main(String[] arguments) {
        selectWhatIsThere();
        removedShapesAreSelectedNoMore();
        theSelectionIsEmptyBehind();
        theSelectionStaysBehind();
        groupOfNone();
        groupInOneOrder();
        groupNoLockedShape();
        groupAmongAHundredShapes();
        threeGroupsButNotFour();
        threeGroupsFromWithin();
        groupBesideAGroup();
        whereAGroupStands();
        ungroupGroupsAlone();
        ungroupNoLockedGroup();
        placesInAnOrder();
        arrangeNoLockedShape();
        waysToAlign();
        alignTwoAtLeast();
        alignOnOneHome();
        alignNoLockedShape();
        alignNoMemberOfAnother();
        alignUpToTheRanges();
        alignMembersUpToTheRanges();
        midpointsAreCutTowardsZero();
        spreadThreeAtLeast();
        spreadForTheSameReasons();
        spreadUpToTheRanges();
        spacesAreCutTowardsZero();
        spreadInTheOrderOfEdges();
        bounds.end();
    }

    /** Boxes of 10 by 10 on sheet 0. */
    private static Story boxes(int many) {
        Story story = NEW;
        for (int i = 0; i < many; i++) {
            story = story.then("add 0 0 " + 20 * i + " " + 20 * i + " 10 10");
        }
        return story;
    }

    private static Story selecting(Story story, int... shapes) {
        Story selected = story;
        for (int shape : shapes) {
            selected = selected.then("select " + shape + " 1");
        }
        return selected;
    }

    /** A group alone, not selected behind it; the story has to tell its number. */
    private static Story grouping(Story story, int number, int... members) {
        return selecting(story, members).then("group", "select " + number + " 0");
    }

    /** select, isSelected: "if there is no such shape". */
    private static void selectWhatIsThere() {
        Story story = boxes(2);
        bounds.answers(story, "select 1 0", "0", "select 1 1", "1", "select 1 1", "1", "isSelected 1", "true",
                "isSelected 0", "false", "select 0 1", "2", "select 1 0", "1", "isSelected 1", "false",
                "select 1 0", "1",
                "select 0 0", "0", "states", "3");
        for (String none : NO_SHAPES) {
            bounds.noIndex(story, "select " + none + " 1", "select " + none + " 0", "isSelected " + none);
        }
        bounds.noIndex(story, "select 2 1", "select 2 0", "isSelected 2");
        Story all = NEW.ran(0, "repeat 100{box 1,1,1,1;}");
        for (int shape = 0; shape < 100; shape++) {
            all = all.then("select " + shape + " 1");
        }
        bounds.answers(all, "select 99 1", "100", "isSelected 0", "true", "isSelected 99", "true", "select 99 0",
                "99");
        bounds.answers(all.then("go 0"), "count 2", "0", "redo", "1", "select 0 1", "1");
    }

    /** "Shapes that are removed are selected no more": also in the room of one that was. */
    private static void removedShapesAreSelectedNoMore() {
        Story story = selecting(boxes(3).then("addSlide 0 0", "add 1 0 0 0 1 1"), 0, 1, 3);
        bounds.answers(story.then("remove 1", "add 0 0 0 0 1 1"), "isSelected 4", "false", "select 0 1", "2");
        bounds.answers(story.then("removeSlide 1", "add 0 0 0 0 1 1"), "isSelected 4", "false", "select 0 1", "2");
        bounds.answers(story.then("remove 0", "remove 1", "remove 3"), "select 2 0", "0");
        Story group = selecting(grouping(boxes(3), 3, 0, 1), 0, 2, 3);
        bounds.answers(group.then("remove 3"), "select 2 1", "1");
        bounds.answers(group.then("remove 0"), "select 2 1", "2", "isSelected 3", "true");
        bounds.answers(group.then("remove 0", "remove 1"), "select 2 1", "1");
        bounds.answers(group.then("ungroup 3"), "isSelected 0", "true", "isSelected 1", "true", "isSelected 2",
                "false",
                "select 2 1", "3");
    }

    /** "the selection is empty behind undo, redo, go, and run (also of a script with an error)". */
    private static void theSelectionIsEmptyBehind() {
        Story story = selecting(boxes(3).then("undo"), 0, 1);
        bounds.answers(story, "select 0 1", "2", "undo", "1", "isSelected 0", "false", "select 0 0", "0");
        bounds.answers(story, "redo", "3", "isSelected 0", "false", "isSelected 1", "false", "select 0 0", "0");
        bounds.answers(story, "go 1", "1", "isSelected 0", "false", "select 0 0", "0");
        bounds.answers(story, "go 2", "0", "isSelected 0", "false", "isSelected 1", "false", "select 0 0", "0");
        bounds.answers(story, "run 0", "0", "isSelected 0", "false", "isSelected 1", "false", "select 0 0", "0");
        bounds.answers(story.fed("x"), "run 0", "1", "isSelected 0", "false", "isSelected 1", "false", "select 0 0",
                "0");
        bounds.answers(story.fed("sheet 9;"), "run 0", "4", "isSelected 0", "false", "select 0 0", "0");
    }

    /** The selection is no part of the deck, and refused calls and other edits leave it. */
    private static void theSelectionStaysBehind() {
        Story story = selecting(boxes(3).then("undo", "undo", "undo", "redo", "redo", "redo"), 0, 2);
        bounds.badState(story, "redo");
        bounds.noIndex(story, "go 4", "run 1", "select 3 1");
        bounds.answers(story.then("addSlide 0 0", "duplicate 1", "moveSlide 1 1", "set 0 1 0 1", "arrange 0 2",
                "setShade 0 0 1", "align 0", "addMaster 0", "setBase 1 3", "removeSlide 1", "remove 1"),
                "isSelected 0", "true", "isSelected 2", "true", "select 0 1", "2");
        bounds.badState(selecting(boxes(3), 0), "align 0", "spread 1", "redo");
        bounds.badState(selecting(boxes(1).then("undo", "go 1"), 0).withStates(120), "group", "run 0", "remove 0");
    }

    /** group: "if nothing is selected". */
    private static void groupOfNone() {
        bounds.badState(boxes(2), "group");
        bounds.badState(selecting(boxes(2), 0).then("select 0 0"), "group");
        bounds.badState(selecting(boxes(2), 0).then("remove 0"), "group");
        bounds.badState(selecting(boxes(2), 0).then("undo"), "group");
        bounds.answers(selecting(boxes(2), 1), "group", "2", "shape 2 4", "1", "isSelected 2", "true", "isSelected 1",
                "false", "select 2 1", "1");
        Story all = NEW.ran(0, "repeat 99{box 1,1,1,1;}");
        for (int shape = 0; shape < 99; shape++) {
            all = all.then("select " + shape + " 1");
        }
        bounds.answers(all, "group", "99", "shape 99 4", "99", "shape 98 3", "98", "ungroup 99", "99", "select 0 1",
                "99");
    }

    /** group: "they do not stand in the same order": of a home, or of a group. */
    private static void groupInOneOrder() {
        Story homes = boxes(2).then("addSlide 0 0", "add 1 0 0 0 1 1");
        bounds.badState(selecting(homes, 0, 2), "group");
        bounds.badState(selecting(homes, 0, 1, 2), "group");
        bounds.answers(selecting(homes, 0, 1), "group", "3", "shape 3 1", "0");
        Story grouped = grouping(boxes(5), 5, 0, 1, 2);
        bounds.badState(selecting(grouped, 0, 3), "group");
        bounds.badState(selecting(grouped, 5, 0), "group");
        bounds.badState(selecting(grouped, 5, 0, 1, 2), "group");
        bounds.answers(selecting(grouped, 0, 1, 2), "group", "6", "shape 6 2", "5", "shape 5 4", "1", "shape 6 4",
                "3");
        bounds.answers(selecting(grouped, 5, 4), "group", "6", "shape 6 2", "-1", "shape 6 3", "1", "shape 5 2", "6");
        Story two = grouping(grouped, 6, 3, 4);
        bounds.badState(selecting(two, 0, 3), "group");
        bounds.answers(selecting(two, 3), "group", "7", "shape 7 2", "6", "shape 7 3", "0");
    }

    /** group: "one of them is locked", itself or by a group above; a locked member of a group does not count. */
    private static void groupNoLockedShape() {
        Story story = selecting(boxes(3), 0, 2);
        bounds.badState(story.then("set 0 0 6 4"), "group");
        bounds.badState(story.then("set 0 2 6 4"), "group");
        bounds.answers(story.then("set 0 1 6 4"), "group", "3", "shape 1 3", "0", "shape 3 3", "1");
        bounds.answers(story.then("set 0 0 6 3"), "group", "3");
        Story grouped = grouping(boxes(3), 3, 0, 1);
        bounds.badState(selecting(grouped.then("set 0 3 6 4"), 0, 1), "group");
        bounds.badState(selecting(grouped.then("set 0 3 6 4"), 3, 2), "group");
        bounds.answers(selecting(grouped.then("set 0 0 6 4"), 3, 2), "group", "4", "shape 3 2", "4", "shape 0 5",
                "1");
        bounds.answers(selecting(grouped.then("set 0 0 6 4"), 1), "group", "4", "shape 4 2", "3", "shape 4 3", "1");
        bounds.answers(selecting(boxes(2).then("addSlide 0 0", "set 1 0 6 4"), 0, 1), "group", "2");
    }

    /** group: "there are 100 shapes". */
    private static void groupAmongAHundredShapes() {
        Story hundred = NEW.ran(0, "repeat 100{box 1,1,1,1;}");
        bounds.badState(selecting(hundred, 0), "group");
        bounds.badState(selecting(hundred, 0, 99), "group");
        bounds.answers(selecting(hundred.then("remove 50"), 0, 99), "group", "100", "count 2", "100");
        bounds.badState(selecting(hundred.then("remove 50"), 0, 99).then("group"), "group");
    }

    /** group: "there would be four groups each but the last one a member of the next one", from without. */
    private static void threeGroupsButNotFour() {
        Story three = selecting(boxes(3), 0).then("group", "group", "group");
        bounds.answers(three, "shape 3 2", "4", "shape 4 2", "5", "shape 5 2", "-1", "count 2", "6");
        bounds.badState(three, "group");
        bounds.badState(selecting(three, 1), "group");
        bounds.badState(selecting(three, 1, 2), "group");
        bounds.answers(selecting(three.then("select 5 0"), 1, 2), "group", "6");
        bounds.answers(three.then("ungroup 5", "group"), "shape 6 2", "-1", "shape 4 2", "6", "shape 3 2", "4");
        bounds.badState(three.then("ungroup 5", "group"), "group");
        bounds.answers(three.then("ungroup 4"), "select 3 0", "0", "select 5 1", "1", "group", "6", "shape 3 2", "5",
                "shape 5 2", "6");
    }

    /** The same from within: the new group is the last one of four, or stands between others. */
    private static void threeGroupsFromWithin() {
        Story two = selecting(boxes(2), 0).then("group", "group");
        bounds.answers(selecting(two.then("select 3 0"), 0), "group", "4", "shape 4 2", "2", "shape 2 2", "3");
        bounds.answers(selecting(two.then("select 3 0"), 2), "group", "4", "shape 4 2", "3", "shape 2 2", "4");
        Story three = two.then("group", "select 4 0");
        bounds.badState(selecting(three, 0), "group");
        bounds.badState(selecting(three, 2), "group");
        bounds.badState(selecting(three, 3), "group");
        bounds.badState(selecting(three, 4), "group");
        Story wide = grouping(grouping(grouping(boxes(6), 6, 0, 1), 7, 2, 3), 8, 6, 7, 4);
        bounds.answers(selecting(wide, 6, 7), "group", "9", "shape 9 2", "8", "shape 6 2", "9");
        bounds.answers(selecting(wide, 0), "group", "9", "shape 9 2", "6");
        bounds.answers(selecting(wide, 4), "group", "9", "shape 9 2", "8");
        bounds.badState(selecting(grouping(wide, 9, 0), 6, 7), "group");
        bounds.badState(selecting(grouping(wide, 9, 0), 6), "group");
        bounds.badState(selecting(grouping(wide, 9, 0), 8), "group");
        bounds.badState(selecting(grouping(wide, 9, 0), 0), "group");
        bounds.badState(selecting(grouping(wide, 9, 0), 8, 5), "group");
        bounds.answers(selecting(grouping(wide, 9, 0), 7), "group", "10", "shape 10 2", "8", "shape 7 2", "10");
        bounds.answers(selecting(grouping(wide, 9, 0), 7, 4), "group", "10", "shape 10 4", "2");
    }

    /** The groups that stand next to the selected shapes, above or below them, do not count. */
    private static void groupBesideAGroup() {
        Story inTwo = grouping(grouping(grouping(boxes(3), 3, 0, 1, 2), 4, 3), 5, 1);
        bounds.answers(inTwo, "shape 5 2", "3", "shape 3 2", "4");
        bounds.answers(selecting(inTwo, 0), "group", "6", "shape 6 2", "3", "shape 0 2", "6");
        bounds.answers(selecting(inTwo, 2), "group", "6", "shape 6 2", "3", "shape 2 2", "6");
        bounds.answers(selecting(inTwo, 0, 2), "group", "6", "shape 6 4", "2", "shape 6 3", "1");
        bounds.badState(selecting(inTwo, 0, 5), "group");
        bounds.badState(selecting(inTwo, 5), "group");
        Story beside = selecting(boxes(3), 1).then("group", "group", "group", "select 5 0");
        bounds.answers(selecting(beside, 0), "group", "6", "shape 6 3", "0", "shape 5 3", "1");
        bounds.answers(selecting(beside, 2), "group", "6", "shape 6 3", "2", "shape 5 3", "1");
        bounds.answers(selecting(beside, 0, 2), "group", "6", "shape 6 3", "1", "shape 5 3", "0");
    }

    /** "stands at the place of the highest one of them among those that are not selected". */
    private static void whereAGroupStands() {
        bounds.answers(selecting(boxes(5), 0), "group", "5", "shape 5 3", "0", "shape 1 3", "1", "shape 0 3", "0");
        bounds.answers(selecting(boxes(5), 4), "group", "5", "shape 5 3", "4", "shape 3 3", "3");
        bounds.answers(selecting(boxes(5), 0, 4), "group", "5", "shape 5 3", "3", "shape 1 3", "0", "shape 4 3", "1");
        bounds.answers(selecting(boxes(5), 3, 1), "group", "5", "shape 5 3", "2", "shape 4 3", "3", "shape 1 3", "0",
                "shape 3 3", "1");
        bounds.answers(selecting(boxes(5), 0, 1, 2, 3, 4), "group", "5", "shape 5 3", "0", "shape 4 3", "4");
        Story inside = grouping(boxes(5), 5, 1, 2, 3);
        bounds.answers(selecting(inside, 1, 2), "group", "6", "shape 6 3", "0", "shape 3 3", "1");
        bounds.answers(selecting(inside, 1, 3), "group", "6", "shape 6 3", "1", "shape 2 3", "0");
    }

    /** ungroup: "if there is no such group". */
    private static void ungroupGroupsAlone() {
        Story story = grouping(boxes(3), 3, 1);
        for (String none : NO_SHAPES) {
            bounds.noIndex(story, "ungroup " + none);
        }
        bounds.noIndex(story, "ungroup 0", "ungroup 1", "ungroup 4");
        bounds.answers(story, "ungroup 3", "1", "shape 1 2", "-1", "shape 1 3", "1", "isSelected 1", "true");
        bounds.noIndex(story.then("ungroup 3"), "ungroup 3", "shape 3 0");
        bounds.noIndex(story.then("remove 1"), "ungroup 3");
    }

    /** ungroup: "if it is locked": itself or by a group above, but not by a member. */
    private static void ungroupNoLockedGroup() {
        Story story = selecting(boxes(2), 0).then("group", "group", "group", "select 4 0");
        bounds.badState(story.then("set 0 4 6 4"), "ungroup 2", "ungroup 3", "ungroup 4");
        bounds.badState(story.then("set 0 3 6 4"), "ungroup 2", "ungroup 3");
        bounds.answers(story.then("set 0 3 6 4"), "ungroup 4", "1", "shape 3 5", "1");
        bounds.badState(story.then("set 0 2 6 4"), "ungroup 2");
        bounds.answers(story.then("set 0 2 6 4"), "ungroup 3", "1", "ungroup 4", "1");
        bounds.answers(story.then("set 0 0 6 4"), "ungroup 2", "1", "ungroup 3", "1", "ungroup 4", "1", "shape 0 5",
                "1");
        bounds.answers(story.then("addSlide 0 0", "set 1 4 6 4"), "ungroup 4", "1");
    }

    /** arrange: "if there is no such shape, or no such place". */
    private static void placesInAnOrder() {
        Story story = grouping(boxes(5).then("addSlide 0 0", "add 1 0 0 0 1 1"), 6, 1, 2);
        bounds.answers(story, "shape 6 3", "1", "arrange 0 3", "0", "shape 0 3", "3", "arrange 0 0", "3",
                "shape 0 3", "0");
        bounds.answers(story, "arrange 4 3", "3", "shape 4 3", "3", "arrange 6 3", "1", "shape 6 3", "3");
        bounds.noIndex(story, "arrange 0 4", "arrange 0 -1", "arrange 6 4", "arrange 4 2147483647",
                "arrange 4 -2147483648");
        bounds.answers(story, "arrange 1 1", "0", "arrange 1 0", "1", "arrange 5 0", "0");
        bounds.noIndex(story, "arrange 1 2", "arrange 2 2", "arrange 2 -1", "arrange 5 1", "arrange 5 -1",
                "arrange 7 0");
        for (String none : NO_SHAPES) {
            bounds.noIndex(story, "arrange " + none + " 0");
        }
        bounds.noIndex(story.then("remove 4"), "arrange 0 3", "arrange 4 0");
        Story hundred = NEW.ran(0, "repeat 100{box 1,1,1,1;}");
        bounds.answers(hundred, "arrange 0 99", "0", "shape 0 3", "99", "shape 99 3", "98", "arrange 0 0", "99",
                "shape 99 3", "99");
        bounds.noIndex(hundred, "arrange 0 100");
    }

    /** arrange: "if it is locked". */
    private static void arrangeNoLockedShape() {
        Story story = selecting(boxes(3), 0, 1).then("group", "group", "group", "select 5 0");
        bounds.badState(story.then("set 0 5 6 4"), "arrange 0 1", "arrange 0 0", "arrange 3 0", "arrange 5 0");
        bounds.badState(story.then("set 0 0 6 4"), "arrange 0 1", "arrange 0 0");
        bounds.answers(story.then("set 0 0 6 4"), "arrange 1 0", "1", "arrange 5 1", "0", "shape 0 3", "1");
        bounds.answers(story.then("set 0 2 6 3"), "arrange 2 0", "1");
        bounds.badState(story.then("set 0 2 6 4"), "arrange 2 0");
    }

    /** align: "if how is not 0 to 5". */
    private static void waysToAlign() {
        Story story = selecting(boxes(2), 0, 1);
        bounds.badArgument(story, "align -1", "align 6", "align 2147483647", "align -2147483648");
        bounds.answers(story, "align 0", "1", "value 0 1 0", "0", "value 0 1 1", "20");
        bounds.answers(story, "align 1", "1", "value 0 0 0", "20", "value 0 0 1", "0");
        bounds.answers(story, "align 2", "1", "value 0 1 1", "0", "value 0 1 0", "20");
        bounds.answers(story, "align 3", "1", "value 0 0 1", "20", "value 0 0 0", "0");
        bounds.answers(story, "align 4", "2", "value 0 0 0", "10", "value 0 1 0", "10", "value 0 1 1", "20");
        bounds.answers(story, "align 5", "2", "value 0 0 1", "10", "value 0 1 1", "10", "value 0 1 0", "20");
    }

    /** align: "if fewer than 2 are selected". */
    private static void alignTwoAtLeast() {
        bounds.badState(boxes(2), "align 0", "align 5");
        bounds.badState(selecting(boxes(2), 1), "align 0", "align 4");
        bounds.badState(selecting(boxes(2), 0, 1).then("remove 0"), "align 0");
        bounds.answers(selecting(boxes(2), 0, 1), "align 0", "1", "align 0", "0", "states", "5");
        Story all = NEW.ran(0, "repeat 100{box 1,1,1,1;}");
        for (int shape = 0; shape < 100; shape++) {
            all = all.then("select " + shape + " 1");
        }
        bounds.answers(all.then("set 0 50 0 0"), "align 0", "99", "value 0 99 0", "0", "align 0", "0", "spread 1",
                "-1");
    }

    /** align: "they have not the same home". */
    private static void alignOnOneHome() {
        Story story = boxes(2).then("addSlide 0 0", "add 1 0 0 0 1 1", "add 1 0 5 5 1 1");
        bounds.badState(selecting(story, 0, 2), "align 0");
        bounds.badState(selecting(story, 2, 3, 1), "align 0", "spread 1");
        bounds.answers(selecting(story, 2, 3), "align 0", "1", "value 1 3 0", "0");
        Story grouped = grouping(story, 4, 0);
        bounds.answers(selecting(grouped, 0, 1), "align 0", "1", "value 0 1 0", "0");
        bounds.answers(selecting(grouped, 4, 1), "align 1", "1", "value 0 0 0", "20", "value 0 4 0", "20");
    }

    /** align: "a selected one is locked, or has a member that is". */
    private static void alignNoLockedShape() {
        Story story = selecting(boxes(3), 0).then("group", "group", "group", "select 1 1");
        for (int locked : new int[] {0, 1, 3, 4, 5}) {
            bounds.badState(story.then("set 0 " + locked + " 6 4"), "align 0", "align 5");
            bounds.badState(selecting(story.then("set 0 " + locked + " 6 4"), 2), "spread 0");
            bounds.answers(story.then("set 0 " + locked + " 6 3"), "align 0", "1");
        }
        bounds.answers(story.then("set 0 2 6 4"), "align 0", "1");
        bounds.answers(story.then("addSlide 0 0", "set 1 0 6 4", "set 1 1 6 4"), "align 0", "1");
        Story inner = selecting(grouping(boxes(3), 3, 0, 1), 0, 2);
        bounds.badState(inner.then("set 0 3 6 4"), "align 0");
        bounds.answers(inner.then("set 0 1 6 4"), "align 0", "1", "value 0 2 0", "0");
    }

    /** align: "one of them is a member of another one (perhaps by way of others)". */
    private static void alignNoMemberOfAnother() {
        Story story = selecting(boxes(3), 0).then("group", "group", "group", "select 5 0");
        int[] chain = {0, 3, 4, 5};
        for (int i = 0; i < 4; i++) {
            for (int j = i + 1; j < 4; j++) {
                bounds.badState(selecting(story, chain[i], chain[j]), "align 0");
                bounds.badState(selecting(story, chain[j], 1, chain[i], 2), "align 0", "spread 1");
            }
            bounds.answers(selecting(story, chain[i], 1), "align 0", "1", "value 0 1 0", "0");
            bounds.answers(selecting(story, chain[i], 2, 1), "spread 1", "10");
        }
    }

    /** align: "a value would not be in its range": -2000 and 2000 are, -2001 and 2001 are not. */
    private static void alignUpToTheRanges() {
        for (int axis = 0; axis < 2; axis++) {
            String at = axis == 0 ? "%d 0 %d 1" : "0 %d 1 %d";
            int edge = 2 * axis + 1;
            Story far = NEW.then("add 0 0 " + String.format(at, 2000, 100));
            bounds.answers(selecting(far.then("add 0 0 " + String.format(at, 5, 100)), 0, 1), "align " + edge, "1",
                    "value 0 1 " + axis, "2000");
            bounds.badState(selecting(far.then("add 0 0 " + String.format(at, 5, 99)), 0, 1), "align " + edge);
            bounds.badState(selecting(far.then("add 0 0 " + String.format(at, 5, 1)), 0, 1), "align " + edge);
            Story low = NEW.then("add 0 0 " + String.format(at, -2000, 100));
            bounds.answers(selecting(low.then("add 0 0 " + String.format(at, -1999, 99)), 0, 1),
                    "align " + (edge - 1),
                    "1", "value 0 1 " + axis, "-2000");
            bounds.answers(selecting(low.then("add 0 0 " + String.format(at, -2000, 100)), 0, 1), "align " + edge,
                    "0");
            bounds.answers(selecting(low.then("add 0 0 " + String.format(at, -1990, 80)), 0, 1),
                    "align " + (4 + axis),
                    "0", "value 0 1 " + axis, "-1990");
        }
        Story wide = NEW.then("add 0 0 -2000 -2000 1 1", "add 0 0 2000 2000 2000 2000");
        bounds.answers(selecting(wide, 0, 1), "align 4", "2", "value 0 0 0", "1000", "value 0 1 0", "0");
        bounds.answers(selecting(wide, 0, 1), "align 0", "1", "value 0 1 0", "-2000");
        bounds.badState(selecting(wide, 0, 1), "align 1", "align 3");
    }

    /** The same for members of groups, also deep within. */
    private static void alignMembersUpToTheRanges() {
        Story story = NEW.then("add 0 0 2000 0 200 1", "add 0 0 0 0 100 1");
        Story fits = grouping(grouping(story.then("add 0 0 100 0 200 1"), 3, 2), 4, 1, 3);
        bounds.answers(selecting(fits, 0, 4), "align 1", "1", "value 0 1 0", "1900", "value 0 2 0", "2000");
        Story far = grouping(grouping(story.then("add 0 0 100 0 199 1"), 3, 2), 4, 1, 3);
        bounds.badState(selecting(far, 0, 4), "align 1");
        bounds.badState(selecting(far, 0, 3), "align 1");
    }

    /** "all midpoints (x + w / 2, or y + h / 2) at that of the smallest box that contains all of them". */
    private static void midpointsAreCutTowardsZero() {
        Story story = NEW.then("add 0 0 0 -5 1 1", "add 0 0 2 -2 1 3");
        bounds.answers(selecting(story, 0, 1), "align 4", "2", "value 0 0 0", "1", "value 0 1 0", "1");
        bounds.answers(selecting(story, 0, 1), "align 5", "2", "value 0 0 1", "-2", "value 0 1 1", "-3");
        Story odd = NEW.then("add 0 0 -7 0 4 1", "add 0 0 -6 0 4 1", "add 0 0 -7 0 5 1");
        bounds.answers(selecting(odd, 0, 1, 2), "align 4", "1", "value 0 0 0", "-7", "value 0 1 0", "-7",
                "value 0 2 0",
                "-7");
    }

    /** spread: "if fewer than 3 are selected". */
    private static void spreadThreeAtLeast() {
        bounds.badState(boxes(4), "spread 1", "spread 0");
        bounds.badState(selecting(boxes(4), 1), "spread 1", "spread 0");
        bounds.badState(selecting(boxes(4), 1, 3), "spread 1", "spread 0");
        bounds.badState(selecting(boxes(4), 1, 2, 3).then("select 2 0"), "spread 1", "spread 0");
        bounds.answers(selecting(boxes(4), 0, 1, 3), "spread 1", "20", "value 0 1 0", "30", "value 0 1 1", "20",
                "value 0 3 0", "60", "spread 0", "20", "value 0 1 1", "30", "states", "7");
    }

    /** spread: "or for the other reasons that are named for align()". */
    private static void spreadForTheSameReasons() {
        Story homes = boxes(3).then("addSlide 0 0", "add 1 0 0 0 1 1");
        bounds.badState(selecting(homes, 0, 1, 3), "spread 1", "spread 0");
        bounds.badState(selecting(homes, 0, 1, 2, 3), "spread 1");
        for (int locked = 0; locked < 3; locked++) {
            bounds.badState(selecting(boxes(4), 0, 1, 2).then("set 0 " + locked + " 6 4"), "spread 1", "spread 0");
        }
        bounds.answers(selecting(boxes(4), 0, 1, 2).then("set 0 3 6 4"), "spread 1", "10");
        Story grouped = grouping(boxes(4), 4, 1);
        bounds.badState(selecting(grouped, 0, 4, 2).then("set 0 1 6 4"), "spread 1");
        bounds.badState(selecting(grouped, 0, 1, 4), "spread 1");
        bounds.answers(selecting(grouped, 0, 4, 2), "spread 1", "10");
        bounds.answers(selecting(grouped, 0, 1, 2), "spread 1", "10");
    }

    /** spread: "a value would not be in its range": less than -2000, or more than 2000. */
    private static void spreadUpToTheRanges() {
        Story wide = NEW.then("add 0 0 -2000 0 1 1", "add 0 0 -1999 0 2000 1");
        bounds.answers(selecting(wide.then("add 0 0 1 0 1 1"), 0, 1, 2), "spread 1", "0", "value 0 1 0", "-1999");
        bounds.answers(selecting(wide.then("add 0 0 -2 0 1 1"), 0, 1, 2), "spread 1", "-1", "value 0 1 0", "-2000");
        bounds.badState(selecting(wide.then("add 0 0 -3 0 1 1"), 0, 1, 2), "spread 1");
        Story last = NEW.then("add 0 0 1 2000 1 1", "add 0 0 1 2 1 1");
        bounds.answers(selecting(last.then("add 0 0 1 0 1 2000"), 0, 1, 2), "spread 0", "0", "value 0 1 1", "2000");
        bounds.answers(selecting(last.then("add 0 0 1 1 1 2000"), 0, 1, 2), "spread 0", "-1", "value 0 1 1", "2000");
        bounds.badState(selecting(last.then("add 0 0 1 1 1 2000", "set 0 2 1 2", "set 0 1 1 3"), 0, 1, 2),
                "spread 0");
        Story grouped = grouping(wide.then("add 0 0 -3 0 1 1"), 3, 1);
        bounds.badState(selecting(grouped, 0, 3, 2), "spread 1");
        bounds.answers(selecting(grouped.then("set 0 2 0 -2"), 0, 3, 2), "spread 1", "-1", "value 0 1 0", "-2000");
    }

    /** "divided by the number of spaces; what is left over is lost. (The space can be less than 0.)" */
    private static void spacesAreCutTowardsZero() {
        int[] lasts = {29, 30, 31, 32, 33, 20, 19, 18, 17, 16};
        int[] spaces = {4, 5, 5, 6, 6, 0, 0, -1, -1, -2};
        for (int i = 0; i < lasts.length; i++) {
            Story story = NEW.then("add 0 0 0 0 10 1", "add 0 0 1 0 10 1", "add 0 0 " + lasts[i] + " 0 10 1");
            bounds.answers(selecting(story, 0, 1, 2), "spread 1", "" + spaces[i], "value 0 0 0", "0", "value 0 1 0",
                    "" + (10 + spaces[i]), "value 0 2 0", "" + lasts[i]);
        }
    }

    /** "in ascending order of the left (or upper) edges of their boxes (of the same edge, of their numbers)". */
    private static void spreadInTheOrderOfEdges() {
        Story same = NEW.then("add 0 0 0 0 30 1", "add 0 0 0 0 20 1", "add 0 0 0 0 10 1", "arrange 2 0");
        bounds.answers(selecting(same, 2, 1, 0), "spread 1", "-25", "value 0 0 0", "0", "value 0 1 0", "5",
                "value 0 2 0", "0");
        Story five = NEW.then("add 0 0 0 0 7 1", "add 0 0 1 0 9 1", "add 0 0 2 0 4 1", "add 0 0 3 0 30 1",
                "add 0 0 100 0 50 1");
        bounds.answers(selecting(five, 4, 3, 2, 1, 0), "spread 1", "12", "value 0 0 0", "0", "value 0 1 0", "19",
                "value 0 2 0", "40", "value 0 3 0", "56", "value 0 4 0", "100");
        Story falling = NEW.then("add 0 0 90 0 10 1", "add 0 0 80 0 10 1", "add 0 0 0 0 10 1");
        bounds.answers(selecting(falling, 0, 1, 2), "spread 1", "35", "value 0 1 0", "45", "value 0 0 0", "90",
                "value 0 2 0", "0");
    }
}
