/** The calls that README.md shows, with the answers that it tells. */
final class ReadmeTest {
    private static final Check check = new Check();

    public static void main(String[] arguments) {
        SlideDeck deck = new SlideDeck();
        int slide = deck.addSlide(0, 0);
        int title = deck.add(0, 1, 100, 50, 800, 120);
        deck.set(slide, title, 4, 3);
        check.due("the colour on the slide", deck.value(slide, title, 4), 3);
        check.due("the colour on the master", deck.value(0, title, 4), 0);
        states(deck, slide, title);
        tape(deck, title);
        scripts(deck, slide);
        refusals(deck);
        check.end();
    }

    private static void states(SlideDeck deck, int slide, int title) {
        deck.undo();
        check.due("the colour behind undo", deck.value(slide, title, 4), 0);
        deck.redo();
        check.due("the colour behind redo", deck.value(slide, title, 4), 3);
        check.due("the latest child of state 2", deck.told(2, 2), 3);
    }

    private static void tape(SlideDeck deck, int title) {
        deck.feed(0x48656c6c6f21L, 6);
        check.due("write", deck.write(0, title), 6);
        check.due("the text", Decks.text(deck, 0, title), "Hello!");
        check.due("the tape is empty", deck.trim(0), 0);
    }

    private static void scripts(SlideDeck deck, int slide) {
        feed(deck, "repeat 3 { box 10, 20, 30, 40; } pick kind = 0; shift rank * 50, 0;");
        check.due("a script", deck.run(slide), 0);
        for (int box = 1; box <= 3; box++) {
            check.due("box " + box, Decks.values(deck, slide, box, 0, 3), (box * 50 - 40) + " 20 30 40");
        }
        int states = deck.states();
        feed(deck, "box 1, 2, 3, 4; let a = 1 / 0;");
        check.due("a script with an error", deck.run(slide), 2);
        check.due("its position", deck.errorAt(), 16);
        check.due("no box is added", deck.count(2), 4);
        check.due("no state is made", deck.states(), states);
    }

    private static void refusals(SlideDeck deck) {
        check.noIndex("sheet 0 is no slide", deck, () -> deck.removeSlide(0));
    }

    private static void feed(SlideDeck deck, String text) {
        for (int i = 0; i < text.length(); i++) {
            deck.feed(text.charAt(i), 1);
        }
    }
}
