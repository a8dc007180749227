/** Promises 23 to 29: the selection, groups, places, aligning and spreading. */
final class GroupsTest {
    private static final Check check = new Check();

    public static void main(String[] arguments) {
        selected();
        grouped();
        groupInAGroup();
        groupRefused();
        nesting();
        nestingFromWithin();
        threeDeep();
        threeDeepGone();
        inTheRoomOfARemovedShape();
        ungrouped();
        arranged();
        alignedEdges();
        alignedMidst();
        alignedGroups();
        alignRefused();
        spreadAcross();
        spreadDown();
        spreadRefused();
        noMoreStates();
        check.end();
    }

    private static void selected() {
        SlideDeck deck = new SlideDeck();
        int slide = deck.addSlide(0, 0);
        int a = Decks.box(deck, 0);
        int b = Decks.box(deck, slide);
        check.due("one", deck.select(a, true), 1);
        check.due("one of another home", deck.select(b, true), 2);
        check.due("again", deck.select(a, true), 2);
        check.due("is", deck.isSelected(a), true);
        check.due("no edit", deck.state(), 3);
        check.due("out of it", deck.select(a, false), 1);
        check.due("again out of it", deck.select(a, false), 1);
        check.due("is not", deck.isSelected(a), false);
        check.due("the other is", deck.isSelected(b), true);
        check.noIndex("no shape", deck, () -> deck.select(2, true));
        check.noIndex("no shape -1", deck, () -> deck.select(-1, false));
        check.noIndex("no shape to tell of", deck, () -> deck.isSelected(2));
        check.noIndex("no shape -1 to tell of", deck, () -> deck.isSelected(-1));
        Decks.box(deck, 0);
        check.due("an edit leaves it", deck.isSelected(b), true);
        deck.remove(b);
        check.due("removed, so selected no more", deck.select(a, false), 0);
        deck.undo();
        check.due("nor behind undo", deck.isSelected(b), false);
        deck.select(a, true);
        deck.redo();
        check.due("empty behind redo", deck.isSelected(a), false);
        deck.select(a, true);
        deck.go(deck.state());
        check.due("empty behind go", deck.isSelected(a), false);
        deck.select(a, true);
        deck.run(0);
        check.due("empty behind run", deck.isSelected(a), false);
        deck.select(a, true);
        Decks.run(deck, 0, "?");
        check.due("empty behind an error too", deck.isSelected(a), false);
    }

    private static void grouped() {
        SlideDeck deck = new SlideDeck();
        for (int i = 0; i < 6; i++) {
            Decks.box(deck, 0);
        }
        Decks.select(deck, 4, 1, 3);
        check.due("number", deck.group(), 6);
        check.due("the place of the highest among the others", Decks.told(deck, 6), "3 0 -1 2 3 0");
        check.due("in their order", Decks.painted(deck, 0), "0 2 1 3 4 5");
        check.due("first member", Decks.told(deck, 1), "0 0 6 0 0 0");
        check.due("last member", Decks.told(deck, 4), "0 0 6 2 0 0");
        check.due("the one above it", deck.shape(5, 3), 3);
        check.due("selected", deck.isSelected(6), true);
        check.due("alone", deck.select(6, true), 1);
        check.due("a group of one group", deck.group(), 7);
        check.due("its member", Decks.told(deck, 6), "3 0 7 0 3 0");
        deck.select(7, false);
        deck.select(0, true);
        check.due("of the lowest alone", deck.group(), 8);
        check.due("stays the lowest", deck.shape(8, 3), 0);
        check.due("marks", deck.value(0, 8, 6), 0);
        check.due("an edit each", deck.states(), 10);
    }

    private static void groupInAGroup() {
        SlideDeck deck = new SlideDeck();
        for (int i = 0; i < 6; i++) {
            Decks.box(deck, 0);
        }
        int outer = Decks.group(deck, 1, 2, 3, 4);
        int inner = Decks.group(deck, 2, 4);
        check.due("within", Decks.told(deck, inner), "3 0 " + outer + " 2 2 0");
        check.due("order", Decks.painted(deck, 0), "0 1 3 2 4 5");
        check.due("members left", deck.shape(outer, 4), 3);
        check.due("a member", deck.shape(4, 3), 1);
        Decks.select(deck, 1, 3, inner);
        int all = deck.group();
        check.due("all members of a group", Decks.told(deck, all), "3 0 " + outer + " 0 3 0");
        check.due("the outer has it alone", deck.shape(outer, 4), 1);
        check.due("the order stays", Decks.painted(deck, 0), "0 1 3 2 4 5");
    }

    private static void groupRefused() {
        SlideDeck deck = new SlideDeck();
        int slide = deck.addSlide(0, 0);
        for (int i = 0; i < 4; i++) {
            Decks.box(deck, 0);
        }
        int other = Decks.box(deck, slide);
        check.badState("nothing", deck, deck::group);
        Decks.select(deck, 0, other);
        check.badState("two homes", deck, deck::group);
        deck.select(other, false);
        int group = deck.group();
        Decks.select(deck, 0);
        check.badState("a group and its member", deck, deck::group);
        deck.select(group, false);
        deck.select(1, true);
        check.badState("a member and another one", deck, deck::group);
        deck.select(0, false);
        deck.set(0, 1, 6, 4);
        Decks.select(deck, 2);
        check.badState("one is locked", deck, deck::group);
        check.due("the selection stays", deck.select(2, true), 2);
        deck.select(1, false);
        deck.set(slide, 2, 6, 4);
        deck.set(0, 0, 6, 4);
        Decks.select(deck, group);
        check.due("locked neither elsewhere nor inside", deck.group(), 6);
    }

    private static void nesting() {
        SlideDeck deck = new SlideDeck();
        int a = Decks.box(deck, 0);
        int b = Decks.box(deck, 0);
        int one = Decks.group(deck, a);
        int two = Decks.group(deck, one);
        deck.select(two, true);
        int three = deck.group();
        check.badState("a fourth round three", deck, deck::group);
        deck.select(b, true);
        check.badState("also with another shape", deck, deck::group);
        deck.select(three, false);
        deck.select(b, false);
        deck.select(two, true);
        check.badState("within one, round two", deck, deck::group);
        deck.select(two, false);
        deck.select(one, true);
        check.badState("within two, round one", deck, deck::group);
        deck.select(one, false);
        deck.select(a, true);
        check.badState("within three", deck, deck::group);
        deck.ungroup(two);
        Decks.select(deck, one);
        check.due("three again", deck.group(), 5);
        check.due("where it is", deck.shape(5, 2), three);
    }

    private static void nestingFromWithin() {
        SlideDeck deck = new SlideDeck();
        int a = Decks.box(deck, 0);
        int b = Decks.box(deck, 0);
        int c = Decks.box(deck, 0);
        int outer = Decks.group(deck, a, b, c);
        Decks.group(deck, outer);
        Decks.select(deck, a, b);
        int inner = deck.group();
        check.due("a third within two", deck.shape(inner, 2), outer);
        deck.select(c, true);
        check.badState("round a group and a shape", deck, deck::group);
        deck.select(inner, false);
        check.due("beside it is fine", deck.group(), 6);
    }

    /** Shapes 0 and 1 in group 5, that with 2 in group 6, that with 3 in group 7; 4 stands ahead of them. */
    private static SlideDeck nested() {
        SlideDeck deck = new SlideDeck();
        for (int i = 0; i < 4; i++) {
            deck.add(0, 0, 10 * i, 20 * i, 5, 6);
        }
        deck.add(0, 0, 200, 200, 1, 1);
        deck.arrange(4, 0);
        Decks.group(deck, 0, 1);
        Decks.group(deck, 5, 2);
        Decks.group(deck, 6, 3);
        return deck;
    }

    private static void threeDeep() {
        SlideDeck deck = nested();
        check.due("the box of all", Decks.box(deck, 0, 7), "0 0 35 66");
        deck.set(0, 0, 0, -50);
        check.due("the box with the innermost one", Decks.box(deck, 0, 7), "-50 0 85 66");
        check.due("painted", Decks.painted(deck, 0), "4 0 1 2 3");
        deck.arrange(7, 0);
        check.due("all moved", Decks.painted(deck, 0), "0 1 2 3 4");
        deck.set(0, 7, 6, 1);
        check.due("all hidden", Decks.painted(deck, 0), "4");
        deck.set(0, 7, 6, 4);
        check.due("the innermost one is locked", deck.shape(0, 5), 1);
        check.badState("it is not set", deck, () -> deck.set(0, 0, 0, 1));
        deck.set(0, 7, 6, 0);
        Decks.select(deck, 4, 7);
        check.due("only the groups move", deck.align(0), 1);
        check.due("the other one", deck.value(0, 4, 0), -50);
        deck.undo();
        Decks.select(deck, 4, 7);
        check.due("all right edges", deck.align(1), 1);
        check.due("the innermost one moves as well", deck.value(0, 0, 0), 116);
        Decks.select(deck, 0);
        check.badState("a member of a selected group by way of two others", deck, () -> deck.align(0));
        deck.select(0, false);
        deck.set(0, 1, 6, 4);
        check.badState("a locked one three groups within", deck, () -> deck.align(0));
        check.badState("nor removed", deck, () -> deck.remove(7));
    }

    private static void threeDeepGone() {
        SlideDeck deck = nested();
        check.due("all of it", deck.remove(7), 7);
        check.due("one is left", Decks.painted(deck, 0), "4");
        deck.undo();
        check.due("a member", deck.remove(3), 1);
        check.due("another one", deck.remove(2), 1);
        check.due("and another one", deck.remove(1), 1);
        check.due("the last one, with three groups", deck.remove(0), 4);
        check.due("one shape is left", deck.count(2), 1);
    }

    private static void inTheRoomOfARemovedShape() {
        SlideDeck deck = new SlideDeck();
        int slide = deck.addSlide(0, 0);
        for (int i = 0; i < 4; i++) {
            deck.add(slide, 0, 10 * i, 20 * i, 5, 6);
        }
        deck.remove(0);
        check.due("a new number", Decks.group(deck, 1, 2), 4);
        check.due("a group in a group", Decks.group(deck, 4, 3), 5);
        check.due("the first one has a place in it", Decks.told(deck, 4), "3 1 5 0 2 0");
        deck.select(1, true);
        check.due("a third one", deck.group(), 6);
        check.badState("but no fourth one", deck, deck::group);
        check.due("a copy", deck.duplicate(slide), 2);
        check.due("with the same groups", Decks.told(deck, 8), "3 2 7 0 2 0");
        check.due("and members", Decks.told(deck, 11), "0 2 8 1 0 0");
        check.due("the last member but one", deck.remove(2), 1);
        check.due("the last one, with two groups", deck.remove(1), 3);
        check.due("the outer group is left", Decks.told(deck, 5), "3 1 -1 0 1 0");
    }

    private static void ungrouped() {
        SlideDeck deck = new SlideDeck();
        for (int i = 0; i < 5; i++) {
            Decks.box(deck, 0);
        }
        int inner = Decks.group(deck, 1, 3);
        int outer = Decks.group(deck, inner, 2);
        Decks.select(deck, 0);
        check.noIndex("no group", deck, () -> deck.ungroup(0));
        check.noIndex("no shape", deck, () -> deck.ungroup(9));
        check.noIndex("no shape -1", deck, () -> deck.ungroup(-1));
        check.due("order", Decks.painted(deck, 0), "0 2 1 3 4");
        check.due("members", deck.ungroup(outer), 2);
        check.due("where it stood", Decks.told(deck, 2), "0 0 -1 1 0 0");
        check.due("a group in it", Decks.told(deck, inner), "3 0 -1 2 2 0");
        check.due("the one above", deck.shape(4, 3), 3);
        check.due("selected alone", deck.isSelected(0), false);
        check.due("two", deck.select(inner, true), 2);
        check.due("the other one", deck.isSelected(2), true);
        check.noIndex("gone", deck, () -> deck.shape(outer, 0));
        deck.undo();
        check.due("the inner one", deck.ungroup(inner), 2);
        check.due("a member of the outer then", Decks.told(deck, 3), "0 0 " + outer + " 2 0 0");
        check.due("three members", deck.shape(outer, 4), 3);
        check.due("order in it", Decks.painted(deck, 0), "0 2 1 3 4");
        deck.set(0, 1, 6, 4);
        check.due("a locked member does not matter", deck.ungroup(outer), 3);
        deck.undo();
        deck.set(0, outer, 6, 4);
        check.badState("locked", deck, () -> deck.ungroup(outer));
        deck.set(0, outer, 6, 0);
        int again = Decks.group(deck, 2);
        deck.set(0, outer, 6, 4);
        check.badState("in a locked group", deck, () -> deck.ungroup(again));
    }

    private static void arranged() {
        SlideDeck deck = new SlideDeck();
        int slide = deck.addSlide(0, 0);
        for (int i = 0; i < 5; i++) {
            Decks.box(deck, 0);
        }
        Decks.box(deck, slide);
        check.due("place before", deck.arrange(0, 2), 0);
        check.due("order", Decks.painted(deck, 0), "1 2 0 3 4");
        check.due("down", deck.arrange(4, 0), 4);
        check.due("order", Decks.painted(deck, 0), "4 1 2 0 3");
        int group = Decks.group(deck, 1, 2, 0);
        check.due("a group", deck.arrange(group, 2), 1);
        check.due("with its members", Decks.painted(deck, 0), "4 3 1 2 0");
        check.due("back to the bottom", deck.arrange(group, 0), 2);
        check.due("with all", Decks.painted(deck, 0), "1 2 0 4 3");
        check.due("in a group", deck.arrange(1, 2), 0);
        check.due("order in it", Decks.painted(deck, 0), "2 0 1 4 3");
        check.due("still a member", deck.shape(1, 2), group);
        check.due("where it is", deck.arrange(4, 1), 1);
        check.noIndex("no shape", deck, () -> deck.arrange(9, 0));
        check.noIndex("place 3 of 3", deck, () -> deck.arrange(4, 3));
        check.noIndex("place 3 in the group", deck, () -> deck.arrange(1, 3));
        check.noIndex("place -1", deck, () -> deck.arrange(4, -1));
        check.noIndex("place 1 of 1", deck, () -> deck.arrange(5, 1));
        deck.set(0, 1, 6, 4);
        check.badState("locked", deck, () -> deck.arrange(1, 0));
        check.noIndex("the place first", deck, () -> deck.arrange(1, 3));
        check.due("its group is not", deck.arrange(group, 2), 0);
        deck.set(0, group, 6, 4);
        check.badState("in a locked group", deck, () -> deck.arrange(0, 0));
    }

    private static SlideDeck three() {
        SlideDeck deck = new SlideDeck();
        deck.add(0, 0, -7, 10, 4, 5);
        deck.add(0, 0, 20, -3, 31, 6);
        deck.add(0, 0, 5, 30, 10, 101);
        Decks.select(deck, 0, 1, 2);
        return deck;
    }

    private static void aligned(int how, int moved, String a, String b, String c) {
        SlideDeck deck = three();
        check.due("moved " + how, deck.align(how), moved);
        check.due("first " + how, Decks.box(deck, 0, 0), a);
        check.due("second " + how, Decks.box(deck, 0, 1), b);
        check.due("third " + how, Decks.box(deck, 0, 2), c);
        check.due("selected yet " + how, deck.isSelected(1), true);
        check.due("a second time none moves " + how, deck.align(how), 0);
        check.due("an edit each " + how, deck.states(), 6);
    }

    private static void alignedEdges() {
        aligned(0, 2, "-7 10 4 5", "-7 -3 31 6", "-7 30 10 101");
        aligned(1, 2, "47 10 4 5", "20 -3 31 6", "41 30 10 101");
        aligned(2, 2, "-7 -3 4 5", "20 -3 31 6", "5 -3 10 101");
        aligned(3, 2, "-7 126 4 5", "20 125 31 6", "5 30 10 101");
    }

    /** Across the box is -7 to 51, so its midpoint 22; down it is -3 to 131, so 64. */
    private static void alignedMidst() {
        aligned(4, 3, "20 10 4 5", "7 -3 31 6", "17 30 10 101");
        aligned(5, 3, "-7 62 4 5", "20 61 31 6", "5 14 10 101");
        SlideDeck deck = new SlideDeck();
        deck.add(0, 0, -10, 0, 3, 1);
        deck.add(0, 0, -10, 0, 4, 1);
        Decks.select(deck, 0, 1);
        check.due("-10 + 4 / 2 is -8, and -10 + 3 / 2 is -9", deck.align(4), 1);
        check.due("one to the right", deck.value(0, 0, 0), -9);
    }

    private static void alignedGroups() {
        SlideDeck deck = new SlideDeck();
        int slide = deck.addSlide(0, 0);
        int a = deck.add(0, 0, 10, 0, 5, 5);
        int b = deck.add(0, 0, 30, 0, 5, 5);
        int c = deck.add(0, 0, 100, 0, 50, 5);
        int inner = Decks.group(deck, a);
        int outer = Decks.group(deck, inner, b);
        deck.set(slide, a, 0, 500);
        Decks.select(deck, outer, c);
        check.due("one has moved", deck.align(1), 1);
        check.due("each member", deck.value(0, a, 0), 125);
        check.due("each", deck.value(0, b, 0), 145);
        check.due("overrides stay", deck.value(slide, a, 0), 500);
        check.due("the last stays", deck.value(0, c, 0), 100);
        deck.select(outer, false);
        deck.select(b, true);
        check.due("a member and another shape", deck.align(0), 1);
        check.due("moved alone", deck.value(0, b, 0), 100);
    }

    private static void alignRefused() {
        SlideDeck deck = three();
        int slide = deck.addSlide(0, 0);
        int other = Decks.box(deck, slide);
        check.badArgument("how 6", deck, () -> deck.align(6));
        check.badArgument("how -1", deck, () -> deck.align(-1));
        deck.select(other, true);
        check.badState("two homes", deck, () -> deck.align(0));
        deck.select(other, false);
        deck.set(0, 1, 6, 4);
        check.badState("locked", deck, () -> deck.align(0));
        deck.set(0, 1, 6, 0);
        int group = Decks.group(deck, 1, 0, 2);
        Decks.select(deck, group);
        check.badState("one is not enough", deck, () -> deck.align(0));
        check.badArgument("how is looked at first", deck, () -> deck.align(6));
        Decks.select(deck, 1);
        check.badState("a member of another", deck, () -> deck.align(0));
        deck.select(1, false);
        int more = deck.add(0, 0, -1000, 0, 1, 1);
        Decks.select(deck, more);
        deck.set(0, 2, 6, 4);
        check.badState("a locked member", deck, () -> deck.align(0));
        deck.set(0, 2, 6, 0);
        int outer = Decks.group(deck, more, group);
        Decks.select(deck, outer, 2);
        check.badState("a member by way of another", deck, () -> deck.align(0));
        outOfRange();
    }

    private static void outOfRange() {
        SlideDeck deck = new SlideDeck();
        int wide = deck.add(0, 0, 2000, 0, 101, 10);
        int thin = deck.add(0, 0, 0, 0, 100, 10);
        Decks.select(deck, wide, thin);
        check.badState("x would be 2001", deck, () -> deck.align(1));
        deck.arrange(thin, 0);
        Decks.select(deck, wide, thin);
        check.badState("of the lower one too", deck, () -> deck.align(1));
        deck.set(0, thin, 2, 101);
        check.due("2000 is fine", deck.align(1), 1);
        deck.set(0, thin, 2, 1);
        deck.set(0, thin, 0, 0);
        int far = deck.add(0, 0, -150, 0, 1, 1);
        Decks.select(deck, far);
        Decks.select(deck, thin);
        deck.select(wide, false);
        int group = deck.group();
        Decks.select(deck, group, wide);
        check.badState("a member of a group would be too far", deck, () -> deck.align(1));
        check.due("nothing has moved", deck.value(0, far, 0), -150);
    }

    private static void spreadAcross() {
        SlideDeck deck = new SlideDeck();
        int last = deck.add(0, 0, 100, 0, 10, 1);
        int second = deck.add(0, 0, 11, 0, 20, 1);
        int first = deck.add(0, 0, 0, 0, 10, 1);
        int third = deck.add(0, 0, 12, 0, 5, 1);
        Decks.select(deck, last, second, first, third);
        check.due("(100 - 10 - 25) / 3", deck.spread(true), 21);
        check.due("first", deck.value(0, first, 0), 0);
        check.due("second", deck.value(0, second, 0), 31);
        check.due("third", deck.value(0, third, 0), 72);
        check.due("last", deck.value(0, last, 0), 100);
        check.due("an edit", deck.states(), 6);
        check.due("again", deck.spread(true), 21);
        deck.set(0, second, 2, 200);
        check.due("(100 - 10 - 205) / 3, cut towards 0", deck.spread(true), -38);
        check.due("second overlaps", deck.value(0, second, 0), -28);
        check.due("third too", deck.value(0, third, 0), 134);
    }

    private static void spreadDown() {
        SlideDeck deck = new SlideDeck();
        int slide = deck.addSlide(0, 0);
        int a = deck.add(0, 0, 0, 5, 1, 10);
        int b = deck.add(0, 0, 0, 5, 1, 20);
        int c = deck.add(0, 0, 0, 5, 1, 30);
        int d = deck.add(0, 0, 0, 5, 1, 40);
        deck.set(slide, b, 1, 99);
        Decks.select(deck, d, c, b, a);
        check.due("of the same edge: of their numbers", deck.spread(false), -20);
        check.due("a stays", deck.value(0, a, 1), 5);
        check.due("b", deck.value(0, b, 1), -5);
        check.due("c", deck.value(0, c, 1), -5);
        check.due("d stays", deck.value(0, d, 1), 5);
        deck.select(c, false);
        deck.select(d, false);
        int group = deck.group();
        Decks.select(deck, group, c, d);
        deck.set(0, c, 1, 100);
        deck.set(0, d, 1, 50);
        check.due("a group, from -5 to 15", deck.spread(false), 22);
        check.due("c is the last", deck.value(0, c, 1), 100);
        check.due("d", deck.value(0, d, 1), 37);
        deck.set(0, c, 1, -500);
        check.due("(37 + 470 - 20) / 2", deck.spread(false), 243);
        check.due("a moves with its group", deck.value(0, a, 1), -217);
        check.due("b too", deck.value(0, b, 1), -227);
    }

    private static void spreadRefused() {
        SlideDeck deck = three();
        int slide = deck.addSlide(0, 0);
        int other = Decks.box(deck, slide);
        deck.select(0, false);
        check.badState("two are not enough", deck, () -> deck.spread(true));
        deck.select(other, true);
        check.badState("two homes", deck, () -> deck.spread(true));
        deck.select(other, false);
        deck.select(0, true);
        deck.set(0, 2, 6, 4);
        check.badState("locked", deck, () -> deck.spread(false));
        deck.set(0, 2, 6, 0);
        int more = Decks.box(deck, 0);
        deck.select(2, false);
        deck.select(1, false);
        int group = deck.group();
        Decks.select(deck, more, 1, 0);
        check.badState("a member of another", deck, () -> deck.spread(true));
        deck.select(0, false);
        deck.set(0, 0, 6, 4);
        check.badState("a locked member", deck, () -> deck.spread(true));
        deck.set(0, 0, 6, 0);
        check.due("as it was", deck.isSelected(group), true);
        SlideDeck wide = new SlideDeck();
        wide.add(0, 0, -2000, 0, 1, 1);
        wide.add(0, 0, -1990, 0, 2000, 1);
        wide.add(0, 0, -1980, 0, 1, 1);
        Decks.select(wide, 0, 1, 2);
        check.badState("x would be -1999 - 990", wide, () -> wide.spread(true));
        check.due("nothing has moved", wide.value(0, 1, 0), -1990);
    }

    private static void noMoreStates() {
        SlideDeck deck = new SlideDeck();
        for (int i = 0; i < 4; i++) {
            deck.add(0, 0, i, i, 1, 1);
        }
        int group = Decks.group(deck, 3);
        Decks.select(deck, 0, 1, 2);
        Decks.fillStates(deck);
        check.badState("group", deck, deck::group);
        check.badState("ungroup", deck, () -> deck.ungroup(group));
        check.badState("arrange", deck, () -> deck.arrange(0, 1));
        check.badState("align", deck, () -> deck.align(0));
        check.badState("spread", deck, () -> deck.spread(true));
        check.badArgument("align's argument first", deck, () -> deck.align(9));
        check.noIndex("ungroup's index first", deck, () -> deck.ungroup(0));
        check.noIndex("arrange's index first", deck, () -> deck.arrange(0, 7));
        check.due("the order is as it was", Decks.painted(deck, 0), "0 1 2 3");
        check.due("select is no edit", deck.select(1, false), 2);
    }
}
