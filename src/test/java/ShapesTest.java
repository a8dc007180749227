/** Promises 13 to 22: shapes, their values and texts, and overrides. */
final class ShapesTest {
    private static final Check check = new Check();

    public static void main(String[] arguments) {
        added();
        addRefused();
        mostShapes();
        removed();
        told();
        setAtHome();
        setElsewhere();
        setRefused();
        locked();
        valuesOfGroups();
        texts();
        writeRefused();
        cleared();
        overridesGoWithTheShape();
        noMoreStates();
        check.end();
    }

    private static void added() {
        SlideDeck deck = new SlideDeck();
        int slide = deck.addSlide(0, 0);
        check.due("first", deck.add(0, 1, -2000, 2000, 1, 2000), 0);
        check.due("second", deck.add(slide, 2, 2000, -2000, 2000, 1), 1);
        check.due("third, on top", deck.add(0, 0, 1, 2, 3, 4), 2);
        check.due("values", Decks.values(deck, 0, 0, 0, 6), "-2000 2000 1 2000 0 20 0");
        check.due("other values", Decks.values(deck, slide, 1, 0, 6), "2000 -2000 2000 1 0 20 0");
        check.due("home", deck.shape(1, 1), slide);
        check.due("the slide's shapes are above", Decks.painted(deck, slide), "0 2 1");
        check.due("text", deck.textSize(0, 0), 0);
        check.due("not selected", deck.isSelected(2), false);
    }

    private static void addRefused() {
        SlideDeck deck = new SlideDeck();
        check.noIndex("no sheet", deck, () -> deck.add(1, 0, 0, 0, 1, 1));
        check.noIndex("no sheet, first", deck, () -> deck.add(-1, 9, 0, 0, 0, 1));
        check.badArgument("a group", deck, () -> deck.add(0, 3, 0, 0, 1, 1));
        check.badArgument("kind -1", deck, () -> deck.add(0, -1, 0, 0, 1, 1));
        check.badArgument("x", deck, () -> deck.add(0, 0, -2001, 0, 1, 1));
        check.badArgument("x above", deck, () -> deck.add(0, 0, 2001, 0, 1, 1));
        check.badArgument("y", deck, () -> deck.add(0, 0, 0, 2001, 1, 1));
        check.badArgument("y below", deck, () -> deck.add(0, 0, 0, -2001, 1, 1));
        check.badArgument("w", deck, () -> deck.add(0, 0, 0, 0, 0, 1));
        check.badArgument("w above", deck, () -> deck.add(0, 0, 0, 0, 2001, 1));
        check.badArgument("h", deck, () -> deck.add(0, 0, 0, 0, 1, 0));
        check.badArgument("h above", deck, () -> deck.add(0, 0, 0, 0, 1, 2001));
        check.due("no state is made", deck.states(), 1);
        check.due("no number is lost", deck.add(0, 0, 0, 0, 1, 1), 0);
    }

    private static void mostShapes() {
        SlideDeck deck = new SlideDeck();
        Decks.run(deck, 0, "repeat 99{box 1,1,1,1;}");
        check.due("the 100th", Decks.box(deck, 0), 99);
        check.badState("the 101st", deck, () -> deck.add(0, 0, 0, 0, 1, 1));
        check.badArgument("the argument first", deck, () -> deck.add(0, 3, 0, 0, 1, 1));
        deck.select(4, true);
        check.badState("a group would be the 101st too", deck, deck::group);
        deck.remove(50);
        check.due("room again", Decks.box(deck, 0), 100);
        check.due("on top", deck.shape(100, 3), 99);
    }

    private static void removed() {
        SlideDeck deck = new SlideDeck();
        for (int i = 0; i < 6; i++) {
            Decks.box(deck, 0);
        }
        int inner = Decks.group(deck, 1, 2);
        int outer = Decks.group(deck, inner, 3);
        check.noIndex("no shape", deck, () -> deck.remove(8));
        check.noIndex("no shape -1", deck, () -> deck.remove(-1));
        check.due("one", deck.remove(0), 1);
        check.due("a member", deck.remove(1), 1);
        check.due("the group has one yet", deck.shape(inner, 4), 1);
        check.due("a last member and its group", deck.remove(2), 2);
        check.noIndex("the group is gone", deck, () -> deck.shape(inner, 0));
        check.due("the last member of all", deck.remove(3), 2);
        check.due("left", Decks.painted(deck, 0), "4 5");
        check.noIndex("the outer is gone", deck, () -> deck.shape(outer, 0));
        deck.undo();
        deck.undo();
        deck.undo();
        Decks.select(deck, outer, 2, 4);
        check.due("a group with all in it", deck.remove(outer), 5);
        check.due("selected yet", deck.select(4, true), 1);
        deck.undo();
        deck.set(0, 2, 6, 4);
        check.badState("locked", deck, () -> deck.remove(2));
        check.badState("a member is locked", deck, () -> deck.remove(outer));
        deck.set(0, 2, 6, 0);
        deck.set(0, outer, 6, 4);
        check.badState("in a locked group", deck, () -> deck.remove(2));
        check.badState("a locked group", deck, () -> deck.remove(outer));
        check.due("nothing went", deck.count(2), 7);
        deck.set(0, outer, 6, 0);
        check.due("three in a row fall with the last", chainFalls(), 4);
    }

    private static int chainFalls() {
        SlideDeck deck = new SlideDeck();
        int leaf = Decks.box(deck, 0);
        int one = Decks.group(deck, leaf);
        int two = Decks.group(deck, one);
        Decks.group(deck, two);
        int gone = deck.remove(leaf);
        check.due("none is left", deck.count(2), 0);
        return gone;
    }

    private static void told() {
        SlideDeck deck = new SlideDeck();
        int slide = deck.addSlide(0, 0);
        deck.add(slide, 0, 0, 0, 1, 1);
        deck.add(slide, 1, 0, 0, 1, 1);
        deck.add(slide, 2, 0, 0, 1, 1);
        deck.add(0, 2, 0, 0, 1, 1);
        int group = Decks.group(deck, 1, 2);
        check.due("a box", Decks.told(deck, 0), "0 1 -1 0 0 0");
        check.due("a member", Decks.told(deck, 1), "1 1 4 0 0 0");
        check.due("a second member", Decks.told(deck, 2), "2 1 4 1 0 0");
        check.due("a group", Decks.told(deck, group), "3 1 -1 1 2 0");
        check.due("on the master", Decks.told(deck, 3), "2 0 -1 0 0 0");
        deck.set(slide, group, 6, 4);
        check.due("a locked group", deck.shape(group, 5), 1);
        check.due("locks its members", deck.shape(2, 5), 1);
        check.due("no other", deck.shape(0, 5), 0);
        deck.set(slide, 3, 6, 4);
        check.due("not by an override", deck.shape(3, 5), 0);
        check.noIndex("no shape", deck, () -> deck.shape(5, 0));
        check.noIndex("what 6", deck, () -> deck.shape(0, 6));
        check.noIndex("what -1", deck, () -> deck.shape(0, -1));
    }

    private static void setAtHome() {
        SlideDeck deck = new SlideDeck();
        int slide = deck.addSlide(0, 0);
        int box = deck.add(0, 0, 1, 2, 3, 4);
        check.due("x before", deck.set(0, box, 0, -2000), 1);
        check.due("y before", deck.set(0, box, 1, 2000), 2);
        check.due("w before", deck.set(0, box, 2, 2000), 3);
        check.due("h before", deck.set(0, box, 3, 1), 4);
        check.due("colour before", deck.set(0, box, 4, 7), 0);
        check.due("size before", deck.set(0, box, 5, 4), 20);
        check.due("marks before", deck.set(0, box, 6, 7), 0);
        check.due("all", Decks.values(deck, slide, box, 0, 6), "-2000 2000 2000 1 7 4 7");
        check.due("no override", deck.overrides(0), 0);
        check.due("and back", deck.set(0, box, 6, 0), 7);
        check.due("size 100", deck.set(0, box, 5, 100), 4);
    }

    private static void setElsewhere() {
        SlideDeck deck = new SlideDeck();
        int one = deck.addMaster(0);
        int slide = deck.addSlide(one, 0);
        int box = deck.add(0, 0, 1, 2, 3, 4);
        check.due("seen before", deck.set(one, box, 0, 50), 1);
        check.due("seen by way of the base", deck.value(slide, box, 0), 50);
        check.due("seen before, of the base", deck.set(slide, box, 0, 60), 50);
        check.due("nearest", deck.value(slide, box, 0), 60);
        check.due("between", deck.value(one, box, 0), 50);
        check.due("own", deck.value(0, box, 0), 1);
        check.due("set again", deck.set(slide, box, 0, 61), 60);
        check.due("one override", deck.overrides(slide), 1);
        check.due("one override there", deck.overrides(one), 1);
        deck.set(0, box, 0, 5);
        check.due("own changed", deck.value(one, box, 0), 50);
        deck.set(0, box, 1, 9);
        check.due("what is not given is seen", deck.value(slide, box, 1), 9);
        check.due("the same value is an override too", deck.set(slide, box, 1, 9), 9);
        check.due("two", deck.overrides(slide), 2);
        deck.set(0, box, 6, 4);
        check.due("a locked shape can be given values elsewhere", deck.set(slide, box, 4, 3), 0);
        check.due("seen", deck.value(slide, box, 4), 3);
    }

    private static void setRefused() {
        SlideDeck deck = new SlideDeck();
        int slide = deck.addSlide(0, 0);
        int other = deck.addSlide(0, 1);
        int box = deck.add(slide, 0, 1, 2, 3, 4);
        int group = Decks.group(deck, deck.add(0, 0, 0, 0, 1, 1));
        check.noIndex("no sheet", deck, () -> deck.set(9, box, 0, 0));
        check.noIndex("no shape", deck, () -> deck.set(slide, 9, 0, 0));
        check.noIndex("not seen", deck, () -> deck.set(other, box, 0, 0));
        check.noIndex("not seen below", deck, () -> deck.set(0, box, 0, 0));
        check.noIndex("what 7", deck, () -> deck.set(slide, box, 7, 0));
        check.noIndex("what -1", deck, () -> deck.set(slide, box, -1, 0));
        int[] least = {-2000, -2000, 1, 1, 0, 4, 0};
        int[] most = {2000, 2000, 2000, 2000, 7, 100, 7};
        for (int i = 0; i < 7; i++) {
            int what = i;
            check.badArgument("below " + i, deck, () -> deck.set(slide, box, what, least[what] - 1));
            check.badArgument("above " + i, deck, () -> deck.set(slide, box, what, most[what] + 1));
            deck.set(slide, box, what, least[what]);
            deck.set(slide, box, what, most[what]);
            check.due("most " + i, deck.value(slide, box, what), most[what]);
        }
        for (int i = 0; i < 6; i++) {
            int what = i;
            check.badArgument("of a group " + i, deck, () -> deck.set(slide, group, what, 5));
        }
        check.due("marks of a group", deck.set(0, group, 6, 2), 0);
        check.due("marks of a group elsewhere", deck.set(slide, group, 6, 1), 2);
        check.due("overrides", deck.overrides(slide), 1);
    }

    private static void locked() {
        SlideDeck deck = new SlideDeck();
        int slide = deck.addSlide(0, 0);
        int box = Decks.box(deck, 0);
        int group = Decks.group(deck, box);
        deck.set(0, group, 6, 4);
        check.badState("in a locked group", deck, () -> deck.set(0, box, 0, 1));
        check.badArgument("the range first", deck, () -> deck.set(0, box, 4, 8));
        check.due("marks can be set", deck.set(0, box, 6, 4), 0);
        check.due("elsewhere it can be set", deck.set(slide, box, 0, 1), 0);
        deck.set(0, group, 6, 0);
        check.badState("locked itself", deck, () -> deck.set(0, box, 0, 1));
        deck.set(slide, box, 6, 0);
        check.badState("an override unlocks nothing", deck, () -> deck.set(0, box, 0, 1));
        deck.set(0, box, 6, 3);
        check.due("unlocked", deck.set(0, box, 0, 1), 0);
    }

    private static void valuesOfGroups() {
        SlideDeck deck = new SlideDeck();
        int slide = deck.addSlide(0, 0);
        int a = deck.add(0, 0, 10, 20, 30, 40);
        int b = deck.add(0, 0, -5, 50, 10, 100);
        int c = deck.add(0, 0, 0, 0, 1, 1);
        int inner = Decks.group(deck, a, b);
        int outer = Decks.group(deck, inner, c);
        deck.set(0, a, 4, 3);
        check.due("box of the inner", Decks.values(deck, 0, inner, 0, 6), "-5 20 45 130 0 0 0");
        check.due("box of the outer", Decks.box(deck, 0, outer), "-5 0 45 150");
        deck.set(slide, b, 0, 100);
        deck.set(slide, a, 6, 1);
        check.due("as seen on the slide, hidden ones too", Decks.box(deck, slide, inner), "10 20 100 130");
        check.due("at home as it was", Decks.box(deck, 0, inner), "-5 20 45 130");
        deck.set(slide, outer, 6, 3);
        check.due("marks elsewhere", deck.value(slide, outer, 6), 3);
        check.due("marks at home", deck.value(0, outer, 6), 0);
        check.noIndex("no sheet", deck, () -> deck.value(7, a, 0));
        check.noIndex("no shape", deck, () -> deck.value(0, 7, 0));
        check.noIndex("what 7", deck, () -> deck.value(0, a, 7));
        check.noIndex("what -1", deck, () -> deck.value(0, a, -1));
        int own = Decks.box(deck, slide);
        check.noIndex("not seen on the master", deck, () -> deck.value(0, own, 0));
    }

    private static void texts() {
        SlideDeck deck = new SlideDeck();
        int one = deck.addMaster(0);
        int slide = deck.addSlide(one, 0);
        int text = deck.add(0, 1, 0, 0, 100, 10);
        check.due("bytes", Decks.write(deck, 0, text, "Hello ~"), 7);
        check.due("the tape is empty then", deck.feed('x', 1), 1);
        check.due("on the slide", Decks.text(deck, slide, text), "Hello ~");
        check.due("an override", deck.write(one, text), 1);
        check.due("counts", deck.overrides(one), 1);
        check.due("seen by way of it", Decks.text(deck, slide, text), "x");
        check.due("own", Decks.text(deck, 0, text), "Hello ~");
        check.due("an empty text is one too", deck.write(slide, text), 0);
        check.due("size", deck.textSize(slide, text), 0);
        check.due("counts too", deck.overrides(slide), 1);
        check.due("40 bytes", Decks.write(deck, 0, text, "0123456789012345678901234567890123456789"), 40);
        check.due("last byte", deck.textByte(0, text, 39), '9');
        check.noIndex("byte 40", deck, () -> deck.textByte(0, text, 40));
        check.noIndex("byte -1", deck, () -> deck.textByte(0, text, -1));
        check.noIndex("byte 0 of none", deck, () -> deck.textByte(slide, text, 0));
        int box = Decks.box(deck, slide);
        check.due("no TEXT", deck.textSize(slide, box), 0);
        check.noIndex("no byte of a box", deck, () -> deck.textByte(slide, box, 0));
        check.noIndex("size where it is not seen", deck, () -> deck.textSize(0, box));
        check.noIndex("byte where it is not seen", deck, () -> deck.textByte(one, box, 0));
        check.noIndex("size on no sheet", deck, () -> deck.textSize(5, text));
        check.noIndex("byte on no sheet", deck, () -> deck.textByte(5, text, 0));
        deck.undo();
        deck.undo();
        check.due("taken back", Decks.text(deck, 0, text), "Hello ~");
        deck.undo();
        check.due("taken back on the slide", Decks.text(deck, slide, text), "x");
    }

    private static void writeRefused() {
        SlideDeck deck = new SlideDeck();
        int slide = deck.addSlide(0, 0);
        int text = deck.add(0, 1, 0, 0, 1, 1);
        int box = Decks.box(deck, slide);
        Decks.feed(deck, "0123456789012345678901234567890123456789!");
        check.noIndex("no sheet", deck, () -> deck.write(3, text));
        check.noIndex("no shape", deck, () -> deck.write(0, 3));
        check.noIndex("not seen", deck, () -> deck.write(0, box));
        check.badArgument("41 bytes", deck, () -> deck.write(0, text));
        deck.trim(3);
        check.badArgument("a box", deck, () -> deck.write(slide, box));
        deck.feed(31, 1);
        check.badArgument("byte 31", deck, () -> deck.write(0, text));
        deck.trim(3);
        deck.feed(127, 1);
        check.badArgument("byte 127", deck, () -> deck.write(0, text));
        deck.trim(3);
        deck.feed(200, 1);
        check.badArgument("byte 200", deck, () -> deck.write(0, text));
        deck.trim(3);
        deck.feed(0x207eL, 2);
        deck.set(0, text, 6, 4);
        check.badState("locked", deck, () -> deck.write(0, text));
        check.due("elsewhere", deck.write(slide, text), 5);
        deck.feed(10, 1);
        check.badArgument("the tape before the lock", deck, () -> deck.write(0, text));
        check.due("the tape stays behind a refusal", deck.feed(65, 1), 2);
    }

    private static void cleared() {
        SlideDeck deck = new SlideDeck();
        int one = deck.addMaster(0);
        int slide = deck.addSlide(one, 0);
        int text = deck.add(0, 1, 1, 2, 3, 4);
        deck.set(one, text, 0, 10);
        deck.set(slide, text, 0, 20);
        deck.set(slide, text, 6, 4);
        Decks.write(deck, slide, text, "abc");
        check.due("three", deck.overrides(slide), 3);
        check.due("two left", deck.clear(slide, text, 7), 2);
        check.due("no text", deck.textSize(slide, text), 0);
        check.due("one left", deck.clear(slide, text, 0), 1);
        check.due("that of the base again", deck.value(slide, text, 0), 10);
        check.noIndex("not again", deck, () -> deck.clear(slide, text, 0));
        check.noIndex("not at home", deck, () -> deck.clear(0, text, 0));
        check.noIndex("no sheet", deck, () -> deck.clear(5, text, 6));
        check.noIndex("no shape", deck, () -> deck.clear(slide, 5, 6));
        check.noIndex("what 8", deck, () -> deck.clear(slide, text, 8));
        check.noIndex("what -1", deck, () -> deck.clear(slide, text, -1));
        check.due("edits", deck.states(), 10);
        check.due("none left", deck.clear(slide, text, 6), 0);
        check.noIndex("overrides of no sheet", deck, () -> deck.overrides(5));
        check.noIndex("overrides of -1", deck, () -> deck.overrides(-1));
    }

    private static void overridesGoWithTheShape() {
        SlideDeck deck = new SlideDeck();
        int slide = deck.addSlide(0, 0);
        int a = Decks.box(deck, 0);
        int b = Decks.box(deck, 0);
        int group = Decks.group(deck, b);
        deck.set(slide, a, 0, 1);
        deck.set(slide, b, 0, 1);
        deck.set(slide, group, 6, 1);
        deck.ungroup(group);
        check.due("that of the group is gone", deck.overrides(slide), 2);
        deck.remove(a);
        check.due("that of the shape is gone", deck.overrides(slide), 1);
        int next = Decks.box(deck, 0);
        check.due("a new shape has none", deck.value(slide, next, 0), 0);
        Decks.run(deck, 0, "pick 1;drop;");
        check.due("gone by a script", deck.overrides(slide), 0);
        deck.undo();
        check.due("and back", deck.overrides(slide), 1);
        check.due("with its value", deck.value(slide, b, 0), 1);
    }

    private static void noMoreStates() {
        SlideDeck deck = new SlideDeck();
        int slide = deck.addSlide(0, 0);
        int text = deck.add(0, 1, 0, 0, 1, 1);
        deck.set(slide, text, 0, 1);
        Decks.fillStates(deck);
        check.badState("add", deck, () -> deck.add(0, 0, 0, 0, 1, 1));
        check.badState("remove", deck, () -> deck.remove(text));
        check.badState("set", deck, () -> deck.set(0, text, 0, 1));
        check.badState("write", deck, () -> deck.write(0, text));
        check.badState("clear", deck, () -> deck.clear(slide, text, 0));
        check.badArgument("add's arguments first", deck, () -> deck.add(0, 4, 0, 0, 1, 1));
        check.noIndex("clear's index first", deck, () -> deck.clear(slide, text, 1));
        check.due("an override yet", deck.overrides(slide), 1);
    }
}
