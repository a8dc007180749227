/** Promise 48: the checksum, reckoned here from the numbers that it is made of. */
final class DigestTest {
    private static final Check check = new Check();

    public static void main(String[] arguments) {
        ofANewDeck();
        ofAll();
        ofShadesAndGroups();
        check.end();
    }

    private static long folded(long[]... rows) {
        long d = 281;
        for (long[] row : rows) {
            for (long x : row) {
                d = d * 31 + x;
            }
        }
        return d;
    }

    private static long[] row(long... numbers) {
        return numbers;
    }

    private static void ofANewDeck() {
        long[] shades = row(0, 30, 60, 90, 120, 150, 180, 210);
        check.due("new", new SlideDeck().digest(),
                folded(row(0, 1, 1, 0, 0), row(0, -1), shades, row(0, 0), row(0, 0)));
    }

    private static void ofAll() {
        SlideDeck deck = new SlideDeck();
        int slide = deck.addSlide(0, 0);
        int master = deck.addMaster(0);
        deck.setShade(0, 1, 200);
        int text = deck.add(0, 1, -1, 2, 3, 4);
        Decks.write(deck, 0, text, "ab");
        int box = deck.add(slide, 0, 5, 6, 7, 8);
        deck.set(slide, text, 4, 3);
        deck.addSlide(master, 0);
        deck.select(text, true);
        deck.select(box, true);
        deck.feed(1, 3);
        long[] shades = row(0, 200, 60, 90, 120, 150, 180, 210);
        long[] textAtHome = row(0, -1, 2, 3, 4, 0, 20, 0, 2);
        long due = folded(row(8, 9, 2, 2, 2),
                row(0, -1), shades, row(0, 1), textAtHome,
                row(1, 0), shades, row(1, 2), row(0, -1, 2, 3, 4, 3, 20, 0, 2), row(1, 5, 6, 7, 8, 0, 20, 0, 0),
                row(2, 0), shades, row(0, 1), textAtHome,
                row(3, 2), shades, row(0, 1), textAtHome,
                row(3, 1), row(3, 2));
        check.due("of all", deck.digest(), due);
        check.due("it changes nothing", deck.digest(), due);
        deck.undo();
        check.due("behind undo", deck.digest(), folded(row(7, 9, 2, 1, 2),
                row(0, -1), shades, row(0, 1), textAtHome,
                row(1, 0), shades, row(1, 2), row(0, -1, 2, 3, 4, 3, 20, 0, 2), row(1, 5, 6, 7, 8, 0, 20, 0, 0),
                row(2, 0), shades, row(0, 1), textAtHome,
                row(1), row(3, 0)));
    }

    private static void ofShadesAndGroups() {
        SlideDeck deck = new SlideDeck();
        int master = deck.addMaster(0);
        deck.setShade(master, 0, 9);
        int hidden = deck.add(master, 0, 1, 1, 1, 1);
        int member = deck.add(master, 2, 1, 1, 1, 1);
        int group = Decks.group(deck, member, hidden);
        deck.set(master, hidden, 6, 1);
        deck.arrange(member, 0);
        deck.select(group, true);
        check.due("groups and hidden shapes are not painted", deck.digest(), folded(row(7, 8, 2, 0, 3),
                row(0, -1), row(0, 30, 60, 90, 120, 150, 180, 210), row(0, 0),
                row(1, 0), row(9, 30, 60, 90, 120, 150, 180, 210), row(0, 1), row(1, 1, 1, 1, 1, 0, 20, 0, 0),
                row(0, 1)));
    }
}
