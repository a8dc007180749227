/** Promises 2 to 12: masters, slides, bases and shades. */
final class SheetsTest {
    private static final Check check = new Check();

    public static void main(String[] arguments) {
        masters();
        mostMasters();
        slides();
        mostSlides();
        duplicateCopiesAll();
        duplicateRefused();
        duplicateJustRefused();
        removedSlides();
        movedSlides();
        newBases();
        singleOverrides();
        lockedFirst();
        basesRefused();
        basesAndCounts();
        shades();
        noMoreStates();
        check.end();
    }

    private static void masters() {
        SlideDeck deck = new SlideDeck();
        check.due("first master", deck.addMaster(0), 1);
        check.due("a master of a master", deck.addMaster(1), 2);
        int slide = deck.addSlide(2, 0);
        check.due("numbers go on over all sheets", deck.addMaster(0), 4);
        check.due("its base", deck.base(2), 1);
        check.due("masters", deck.count(0), 4);
        check.due("an edit each", deck.state(), 4);
        check.noIndex("a slide is no base", deck, () -> deck.addMaster(slide));
        check.noIndex("no sheet 5", deck, () -> deck.addMaster(5));
        check.noIndex("no sheet -1", deck, () -> deck.addMaster(-1));
        check.due("no number is lost by a refusal", deck.addMaster(0), 5);
        deck.undo();
        check.due("the next numbers go back with the deck", deck.addMaster(0), 5);
    }

    private static void mostMasters() {
        SlideDeck deck = new SlideDeck();
        for (int i = 1; i < 8; i++) {
            check.due("master " + i, deck.addMaster(i - 1), i);
        }
        check.due("8 masters", deck.count(0), 8);
        check.badState("no ninth", deck, () -> deck.addMaster(0));
        check.noIndex("the index is looked at first", deck, () -> deck.addMaster(8));
        check.due("a slide of the last", deck.addSlide(7, 0), 8);
    }

    private static void slides() {
        SlideDeck deck = new SlideDeck();
        check.due("first", deck.addSlide(0, 0), 1);
        check.due("ahead", deck.addSlide(0, 0), 2);
        check.due("between", deck.addSlide(0, 1), 3);
        check.due("at the end", deck.addSlide(0, 3), 4);
        check.due("order", Decks.slides(deck), "2 3 1 4");
        check.due("base", deck.base(4), 0);
        check.noIndex("a place behind the end", deck, () -> deck.addSlide(0, 5));
        check.noIndex("a place below 0", deck, () -> deck.addSlide(0, -1));
        check.noIndex("a slide is no master", deck, () -> deck.addSlide(1, 0));
        check.noIndex("no such master", deck, () -> deck.addSlide(9, 0));
    }

    private static void mostSlides() {
        SlideDeck deck = new SlideDeck();
        for (int i = 0; i < 24; i++) {
            deck.addSlide(0, i);
        }
        check.due("24 slides", deck.count(1), 24);
        check.badState("no 25th", deck, () -> deck.addSlide(0, 0));
        check.badState("no 25th by a copy", deck, () -> deck.duplicate(3));
        check.noIndex("place first", deck, () -> deck.addSlide(0, 25));
        check.noIndex("slide first", deck, () -> deck.duplicate(0));
        deck.removeSlide(24);
        check.due("room again, with a new number", deck.addSlide(0, 0), 25);
    }

    private static void duplicateCopiesAll() {
        SlideDeck deck = new SlideDeck();
        int master = deck.addMaster(0);
        int slide = deck.addSlide(master, 0);
        int last = deck.addSlide(0, 1);
        int below = deck.add(master, 1, 5, 6, 70, 80);
        int a = deck.add(slide, 0, 1, 2, 3, 4);
        int b = deck.add(slide, 1, 5, 6, 7, 8);
        int c = deck.add(slide, 2, 9, 10, 11, 12);
        int group = Decks.group(deck, a, b);
        deck.set(slide, below, 4, 6);
        Decks.write(deck, slide, below, "over");
        Decks.write(deck, slide, b, "own");
        deck.set(slide, c, 6, 5);
        deck.arrange(group, 0);
        deck.select(c, true);
        check.due("number", deck.duplicate(slide), 4);
        check.due("directly behind", Decks.slides(deck), slide + " 4 " + last);
        check.due("its master", deck.base(4), master);
        check.due("overrides", deck.overrides(4), 2);
        check.due("a value of its own", deck.value(4, below, 4), 6);
        check.due("a text of its own", Decks.text(deck, 4, below), "over");
        check.due("the group comes first", Decks.told(deck, 5), "3 4 -1 0 2 0");
        check.due("its first member", Decks.told(deck, 6), "0 4 5 0 0 0");
        check.due("its second member", Decks.told(deck, 7), "1 4 5 1 0 0");
        check.due("behind the group, locked", Decks.told(deck, 8), "2 4 -1 1 0 1");
        check.due("values", Decks.values(deck, 4, 8, 0, 6), "9 10 11 12 0 20 5");
        check.due("text", Decks.text(deck, 4, 7), "own");
        check.due("the selection stays", deck.isSelected(c), true);
        check.due("the copy is not selected", deck.isSelected(8), false);
        deck.set(slide, a, 0, 100);
        check.due("the copy is one of its own", deck.value(4, 6, 0), 1);
        check.due("9 shapes", deck.count(2), 9);
        int states = deck.states();
        deck.duplicate(last);
        check.due("an edit", deck.states(), states + 1);
        deck.undo();
        check.due("taken back", deck.count(1), 3);
    }

    private static void duplicateRefused() {
        SlideDeck deck = new SlideDeck();
        int slide = deck.addSlide(0, 0);
        check.noIndex("a master", deck, () -> deck.duplicate(0));
        check.noIndex("no sheet", deck, () -> deck.duplicate(7));
        Decks.run(deck, slide, "repeat 50{box 1,1,1,1;}");
        check.due("50 more make 100", deck.duplicate(slide), 2);
        check.badState("50 more are too many", deck, () -> deck.duplicate(slide));
        deck.remove(0);
        check.badState("49 and 99 too", deck, () -> deck.duplicate(slide));
        int empty = deck.addSlide(0, 0);
        check.due("none are not too many", deck.duplicate(empty), 4);
    }

    private static void duplicateJustRefused() {
        SlideDeck deck = new SlideDeck();
        int slide = deck.addSlide(0, 0);
        Decks.run(deck, slide, "repeat 50{box 1,1,1,1;}");
        Decks.box(deck, 0);
        check.badState("51 and 50", deck, () -> deck.duplicate(slide));
        deck.arrange(49, 0);
        check.badState("in another order too", deck, () -> deck.duplicate(slide));
        deck.remove(7);
        check.due("50 and 49", deck.duplicate(slide), 2);
    }

    private static void removedSlides() {
        SlideDeck deck = new SlideDeck();
        int slide = deck.addSlide(0, 0);
        int other = deck.addSlide(0, 1);
        int low = Decks.box(deck, 0);
        int a = Decks.box(deck, slide);
        int b = Decks.box(deck, slide);
        int kept = Decks.box(deck, other);
        deck.set(slide, low, 4, 1);
        int group = Decks.group(deck, a, b);
        Decks.select(deck, a, low);
        check.noIndex("a master", deck, () -> deck.removeSlide(0));
        check.noIndex("no sheet", deck, () -> deck.removeSlide(3));
        deck.set(slide, group, 6, 4);
        check.badState("members of a locked group are locked", deck, () -> deck.removeSlide(slide));
        deck.set(slide, group, 6, 0);
        deck.set(slide, low, 6, 4);
        check.due("an override locks nothing", deck.removeSlide(slide), 1);
        check.due("shapes", deck.count(2), 2);
        check.due("the others stay", deck.shape(kept, 1), other);
        check.due("one is selected yet", deck.select(low, true), 1);
        check.noIndex("the sheet is gone", deck, () -> deck.base(slide));
        check.noIndex("its shapes are gone", deck, () -> deck.shape(a, 0));
        check.noIndex("its group is gone", deck, () -> deck.shape(group, 0));
        check.due("its number is not given again", deck.addSlide(0, 0), 3);
        check.due("the new slide has no overrides", deck.overrides(3), 0);
        check.due("shape numbers go on", Decks.box(deck, 3), 5);
    }

    private static void movedSlides() {
        SlideDeck deck = new SlideDeck();
        for (int i = 0; i < 4; i++) {
            deck.addSlide(0, i);
        }
        check.due("place before", deck.moveSlide(1, 2), 0);
        check.due("at that place then", Decks.slides(deck), "2 3 1 4");
        check.due("back", deck.moveSlide(4, 0), 3);
        check.due("order", Decks.slides(deck), "4 2 3 1");
        check.due("to the end", deck.moveSlide(4, 3), 0);
        check.due("order again", Decks.slides(deck), "2 3 1 4");
        check.due("where it is", deck.moveSlide(3, 1), 1);
        check.due("an edit even so", deck.states(), 9);
        check.noIndex("place 4", deck, () -> deck.moveSlide(1, 4));
        check.noIndex("place -1", deck, () -> deck.moveSlide(1, -1));
        check.noIndex("a master", deck, () -> deck.moveSlide(0, 0));
    }

    private static void newBases() {
        SlideDeck deck = new SlideDeck();
        int one = deck.addMaster(0);
        int two = deck.addMaster(0);
        int below = deck.addMaster(one);
        int slide = deck.addSlide(below, 0);
        int seen = deck.add(0, 0, 1, 1, 1, 1);
        int a = deck.add(one, 0, 1, 1, 1, 1);
        int b = deck.add(below, 1, 1, 1, 1, 1);
        deck.set(one, seen, 4, 2);
        deck.set(below, a, 4, 1);
        deck.set(below, a, 5, 30);
        deck.set(slide, a, 0, 7);
        deck.set(slide, b, 0, 8);
        Decks.write(deck, slide, b, "x");
        deck.set(slide, seen, 0, 9);
        check.due("those for the shape of one, on two sheets", deck.setBase(below, two), 3);
        check.due("base", deck.base(below), two);
        check.due("overrides of the sheet", deck.overrides(below), 0);
        check.due("overrides of the slide", deck.overrides(slide), 3);
        check.due("of one", deck.overrides(one), 1);
        check.due("the value of one is not seen by this way", deck.value(slide, seen, 4), 0);
        check.noIndex("not seen any more", deck, () -> deck.value(slide, a, 0));
        check.due("a slide has another base", deck.setBase(slide, 0), 2);
        check.due("one is left", deck.overrides(slide), 1);
        check.due("back, and nothing comes again", deck.setBase(slide, below), 0);
        check.due("its own value", deck.value(slide, b, 0), 1);
        check.due("the same base", deck.setBase(slide, below), 0);
        deck.undo();
        deck.undo();
        deck.undo();
        check.due("taken back", deck.overrides(slide), 3);
    }

    private static void singleOverrides() {
        SlideDeck deck = new SlideDeck();
        int one = deck.addMaster(0);
        int two = deck.addMaster(0);
        int slide = deck.addSlide(one, 0);
        int first = deck.add(one, 0, 1, 1, 1, 1);
        int second = deck.add(0, 0, 1, 1, 1, 1);
        deck.set(slide, first, 6, 4);
        check.due("the only one goes", deck.setBase(slide, two), 1);
        check.due("none is left", deck.overrides(slide), 0);
        deck.set(slide, second, 6, 4);
        check.due("the only one stays", deck.setBase(slide, one), 0);
        check.due("it is there yet", deck.value(slide, second, 6), 4);
    }

    private static void lockedFirst() {
        SlideDeck deck = new SlideDeck();
        int slide = deck.addSlide(0, 0);
        int a = Decks.box(deck, slide);
        Decks.box(deck, slide);
        deck.set(slide, a, 6, 4);
        check.badState("the lowest shape is locked", deck, () -> deck.removeSlide(slide));
        deck.arrange(1, 0);
        check.badState("the highest one is", deck, () -> deck.removeSlide(slide));
        deck.set(slide, a, 6, 3);
        check.due("no slides are left", deck.removeSlide(slide), 0);
        check.due("no shapes either", deck.count(2), 0);
    }

    private static void basesRefused() {
        SlideDeck deck = new SlideDeck();
        int one = deck.addMaster(0);
        int two = deck.addMaster(one);
        int slide = deck.addSlide(two, 0);
        check.badArgument("sheet 0", deck, () -> deck.setBase(0, one));
        check.badArgument("itself", deck, () -> deck.setBase(one, one));
        check.badArgument("a follower", deck, () -> deck.setBase(one, two));
        check.noIndex("no sheet", deck, () -> deck.setBase(9, 0));
        check.noIndex("no base", deck, () -> deck.setBase(slide, 9));
        check.noIndex("a slide as base, even of sheet 0", deck, () -> deck.setBase(0, slide));
        check.due("farther up is fine", deck.setBase(two, 0), 0);
        check.due("the other way round then", deck.setBase(one, two), 0);
        check.badArgument("a circle the other way", deck, () -> deck.setBase(two, one));
    }

    private static void basesAndCounts() {
        SlideDeck deck = new SlideDeck();
        int slide = deck.addSlide(deck.addMaster(0), 0);
        Decks.box(deck, slide);
        Decks.group(deck, 0);
        check.due("base of sheet 0", deck.base(0), -1);
        check.due("base of a master", deck.base(1), 0);
        check.due("base of a slide", deck.base(slide), 1);
        check.noIndex("base of none", deck, () -> deck.base(3));
        check.noIndex("base of -1", deck, () -> deck.base(-1));
        check.due("masters", deck.count(0), 2);
        check.due("slides", deck.count(1), 1);
        check.due("a group is a shape", deck.count(2), 2);
        check.noIndex("count 3", deck, () -> deck.count(3));
        check.noIndex("count -1", deck, () -> deck.count(-1));
        check.due("slide", deck.slideAt(0), slide);
        check.noIndex("place 1", deck, () -> deck.slideAt(1));
        check.noIndex("place -1", deck, () -> deck.slideAt(-1));
    }

    private static void shades() {
        SlideDeck deck = new SlideDeck();
        int one = deck.addMaster(0);
        int slide = deck.addSlide(one, 0);
        check.due("30 times the colour", deck.shade(slide, 7), 210);
        check.due("none before", deck.setShade(0, 7, 255), -1);
        check.due("seen on the slide", deck.shade(slide, 7), 255);
        check.due("none of its own before", deck.setShade(one, 7, 0), -1);
        check.due("0 is a shade", deck.shade(slide, 7), 0);
        check.due("of sheet 0", deck.shade(0, 7), 255);
        check.due("taken away", deck.setShade(one, 7, -1), 0);
        check.due("that of the base again", deck.shade(slide, 7), 255);
        check.due("taken away from sheet 0", deck.setShade(0, 7, -1), 255);
        check.due("as at first", deck.shade(slide, 7), 210);
        check.due("other colours", deck.shade(0, 1), 30);
        check.noIndex("a slide", deck, () -> deck.setShade(slide, 0, 0));
        check.noIndex("colour 8", deck, () -> deck.setShade(0, 8, 256));
        check.noIndex("colour -1", deck, () -> deck.setShade(0, -1, 0));
        check.badArgument("shade 256", deck, () -> deck.setShade(0, 0, 256));
        check.badArgument("shade -2", deck, () -> deck.setShade(0, 0, -2));
        check.noIndex("no sheet", deck, () -> deck.shade(3, 0));
        check.noIndex("colour 8 of a sheet", deck, () -> deck.shade(0, 8));
        check.noIndex("colour -1 of a sheet", deck, () -> deck.shade(0, -1));
        deck.setBase(slide, 0);
        deck.setShade(one, 2, 5);
        check.due("of a master that is no base", deck.shade(slide, 2), 60);
    }

    private static void noMoreStates() {
        SlideDeck deck = new SlideDeck();
        int slide = deck.addSlide(0, 0);
        Decks.fillStates(deck);
        check.badState("addMaster", deck, () -> deck.addMaster(0));
        check.badState("addSlide", deck, () -> deck.addSlide(0, 0));
        check.badState("duplicate", deck, () -> deck.duplicate(slide));
        check.badState("removeSlide", deck, () -> deck.removeSlide(slide));
        check.badState("moveSlide", deck, () -> deck.moveSlide(slide, 0));
        check.badState("setBase", deck, () -> deck.setBase(slide, 0));
        check.badState("setShade", deck, () -> deck.setShade(0, 0, 1));
        check.noIndex("addMaster first names", deck, () -> deck.addMaster(9));
        check.badArgument("setBase first names", deck, () -> deck.setBase(0, 0));
        check.badArgument("setShade first names", deck, () -> deck.setShade(0, 0, 999));
    }
}
