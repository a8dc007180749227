/** Promises 43 and 44: the tape. */
final class TapeTest {
    private static final Check check = new Check();

    public static void main(String[] arguments) {
        fed();
        fullTape();
        trimmed();
        check.end();
    }

    private static void fed() {
        SlideDeck deck = new SlideDeck();
        int text = deck.add(0, 1, 0, 0, 1, 1);
        check.due("one", deck.feed(0x4142434445464748L, 1), 1);
        check.due("three", deck.feed(0x4142434445464748L, 3), 4);
        check.due("eight", deck.feed(0x4142434445464748L, 8), 12);
        check.due("written", deck.write(0, text), 12);
        check.due("the highest first", Decks.text(deck, 0, text), "HFGHABCDEFGH");
        check.badArgument("n 0", deck, () -> deck.feed(1, 0));
        check.badArgument("n 9", deck, () -> deck.feed(1, 9));
        check.badArgument("n -1", deck, () -> deck.feed(1, -1));
        check.due("a negative number", deck.feed(-1L, 8), 8);
        check.badArgument("its bytes are 255", deck, () -> deck.write(0, text));
        check.due("no edits", deck.states(), 3);
    }

    private static void fullTape() {
        SlideDeck deck = new SlideDeck();
        for (int i = 0; i < 74; i++) {
            deck.feed(0, 8);
        }
        check.due("599", deck.feed(0, 7), 599);
        check.badState("601", deck, () -> deck.feed(0, 2));
        check.badArgument("n first", deck, () -> deck.feed(0, 9));
        check.due("600", deck.feed(0, 1), 600);
        check.badState("601 again", deck, () -> deck.feed(0, 1));
        check.due("all are kept", deck.trim(600), 600);
        check.badArgument("more than there are", deck, () -> deck.trim(601));
    }

    private static void trimmed() {
        SlideDeck deck = new SlideDeck();
        int text = deck.add(0, 1, 0, 0, 1, 1);
        check.due("of an empty tape", deck.trim(0), 0);
        Decks.feed(deck, "abcdef");
        check.badArgument("7", deck, () -> deck.trim(7));
        check.badArgument("-1", deck, () -> deck.trim(-1));
        check.due("6", deck.trim(6), 6);
        check.due("2", deck.trim(2), 2);
        check.badArgument("3 of 2", deck, () -> deck.trim(3));
        check.due("one more", deck.feed('x', 1), 3);
        deck.write(0, text);
        check.due("the first bytes are kept", Decks.text(deck, 0, text), "abx");
    }
}
