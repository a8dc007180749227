/** Promises 37 to 42: the tree of states. */
final class StatesTest {
    private static final Check check = new Check();

    public static void main(String[] arguments) {
        forthAndBack();
        tree();
        latestOnes();
        ways();
        allGoesBack();
        refused();
        mostStates();
        check.end();
    }

    private static void edit(SlideDeck deck, int shade) {
        deck.setShade(0, 1, shade);
    }

    private static String told(SlideDeck deck, int state) {
        StringBuilder row = new StringBuilder();
        for (int what = 0; what < 4; what++) {
            row.append(what > 0 ? " " : "").append(deck.told(state, what));
        }
        return row.toString();
    }

    private static void forthAndBack() {
        SlideDeck deck = new SlideDeck();
        check.due("begins", deck.state(), 0);
        check.due("one", deck.states(), 1);
        check.due("state 0", told(deck, 0), "-1 0 -1 0");
        edit(deck, 10);
        edit(deck, 20);
        check.due("second", deck.state(), 2);
        check.due("three", deck.states(), 3);
        check.due("undo", deck.undo(), 1);
        check.due("the deck", deck.shade(0, 1), 10);
        check.due("states stay", deck.states(), 3);
        check.due("undo again", deck.undo(), 0);
        check.due("the deck at first", deck.shade(0, 1), 30);
        check.due("redo", deck.redo(), 1);
        check.due("redo again", deck.redo(), 2);
        check.due("the deck at last", deck.shade(0, 1), 20);
        check.due("the present state", deck.state(), 2);
        edit(deck, 20);
        check.due("what changes nothing is a state too", deck.state(), 3);
    }

    private static void tree() {
        SlideDeck deck = new SlideDeck();
        edit(deck, 1);
        edit(deck, 2);
        deck.undo();
        edit(deck, 3);
        deck.undo();
        deck.undo();
        edit(deck, 4);
        check.due("state 0", told(deck, 0), "-1 2 4 0");
        check.due("state 1", told(deck, 1), "0 2 3 1");
        check.due("state 2", told(deck, 2), "1 0 -1 2");
        check.due("state 3", told(deck, 3), "1 0 -1 2");
        check.due("state 4", told(deck, 4), "0 0 -1 1");
    }

    /** 0 has 1 and 2; 1 has 3 and 4; 2 has 5. */
    private static SlideDeck five() {
        SlideDeck deck = new SlideDeck();
        edit(deck, 1);
        deck.undo();
        edit(deck, 2);
        deck.go(1);
        edit(deck, 3);
        deck.go(1);
        edit(deck, 4);
        deck.go(2);
        edit(deck, 5);
        return deck;
    }

    private static void latestOnes() {
        SlideDeck deck = five();
        check.due("of 0", deck.told(0, 2), 2);
        check.due("of 1", deck.told(1, 2), 4);
        deck.go(3);
        check.due("a state below counts", deck.told(0, 2), 1);
        check.due("itself counts", deck.told(1, 2), 3);
        deck.go(5);
        check.due("below the other", deck.told(0, 2), 2);
        check.due("1 is passed on the way alone", deck.told(1, 2), 3);
        deck.go(0);
        check.due("at 0, that which was last", deck.told(0, 2), 2);
        check.due("redo", deck.redo(), 2);
        deck.go(1);
        check.due("redo", deck.redo(), 3);
        deck.go(4);
        deck.go(0);
        check.due("redo the way of 4", deck.redo(), 1);
        check.due("redo to 4", deck.redo(), 4);
        deck.go(2);
        deck.go(3);
        deck.undo();
        check.due("undo leaves it behind", deck.redo(), 3);
        deck.undo();
        deck.undo();
        check.due("twice", deck.redo(), 1);
        check.due("and 3", deck.redo(), 3);
    }

    private static void ways() {
        SlideDeck deck = five();
        check.due("from 5 to 4", deck.go(4), 4);
        check.due("to its sister", deck.go(3), 2);
        check.due("up", deck.go(0), 2);
        check.due("down", deck.go(5), 2);
        check.due("nowhere", deck.go(5), 0);
        check.due("to 1", deck.go(1), 3);
        check.due("present", deck.state(), 1);
        check.due("the deck", deck.shade(0, 1), 1);
        deck.go(4);
        check.due("the deck of 4", deck.shade(0, 1), 4);
        check.due("no states are made", deck.states(), 6);
    }

    private static void allGoesBack() {
        SlideDeck deck = new SlideDeck();
        int slide = deck.addSlide(0, 0);
        int a = deck.add(0, 1, 1, 2, 3, 4);
        int b = deck.add(0, 0, 1, 2, 3, 4);
        deck.set(slide, a, 0, 9);
        Decks.write(deck, slide, a, "text");
        Decks.group(deck, a, b);
        deck.setShade(0, 3, 77);
        int there = deck.state();
        long digest = deck.digest();
        deck.ungroup(2);
        deck.remove(a);
        deck.removeSlide(slide);
        deck.setShade(0, 3, -1);
        deck.addMaster(0);
        deck.go(there);
        check.due("number", deck.count(0), 1);
        check.due("slides", Decks.slides(deck), "" + slide);
        check.due("group", Decks.told(deck, 2), "3 0 -1 0 2 0");
        check.due("member", Decks.told(deck, b), "0 0 2 1 0 0");
        check.due("override", deck.value(slide, a, 0), 9);
        check.due("text", Decks.text(deck, slide, a), "text");
        check.due("overrides", deck.overrides(slide), 2);
        check.due("shade", deck.shade(slide, 3), 77);
        check.due("next shape", Decks.box(deck, 0), 3);
        check.due("next sheet", deck.addMaster(0), 2);
        deck.go(there);
        deck.feed(0, 1);
        check.due("the tape does not go back", deck.feed(0, 1), 2);
        deck.undo();
        check.due("behind undo too", deck.feed(0, 1), 3);
        check.due("another digest with other states", deck.digest() == digest, false);
    }

    private static void refused() {
        SlideDeck deck = new SlideDeck();
        check.badState("undo at 0", deck, deck::undo);
        check.badState("redo without children", deck, deck::redo);
        edit(deck, 5);
        check.badState("redo at the end", deck, deck::redo);
        check.noIndex("go to 2", deck, () -> deck.go(2));
        check.noIndex("go to -1", deck, () -> deck.go(-1));
        check.noIndex("told of 2", deck, () -> deck.told(2, 0));
        check.noIndex("told of -1", deck, () -> deck.told(-1, 0));
        check.noIndex("what 4", deck, () -> deck.told(0, 4));
        check.noIndex("what -1", deck, () -> deck.told(0, -1));
        deck.undo();
        check.badState("undo at 0 again", deck, deck::undo);
        Decks.box(deck, 0);
        deck.select(0, true);
        check.noIndex("go to 3", deck, () -> deck.go(3));
        check.badState("redo", deck, deck::redo);
        check.due("the selection stays behind a refusal", deck.isSelected(0), true);
    }

    private static void mostStates() {
        SlideDeck deck = new SlideDeck();
        Decks.fillStates(deck);
        check.due("120", deck.states(), 120);
        check.due("the last", deck.state(), 119);
        check.due("edits to it", deck.told(119, 3), 119);
        check.badState("no 121st", deck, () -> edit(deck, 1));
        deck.undo();
        check.badState("nor from another", deck, () -> edit(deck, 1));
        check.due("redo", deck.redo(), 119);
        check.due("go", deck.go(0), 119);
        check.due("go back", deck.go(60), 60);
    }
}
