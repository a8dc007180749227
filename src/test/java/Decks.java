/** What the tests do again and again with a deck. */
final class Decks {
    private Decks() {
    }

    /** Puts a text at the end of the tape, eight bytes a call. */
    static void feed(SlideDeck deck, String text) {
        for (int from = 0; from < text.length(); from += 8) {
            int n = Math.min(8, text.length() - from);
            long bytes = 0;
            for (int i = 0; i < n; i++) {
                bytes = bytes * 256 + text.charAt(from + i);
            }
            deck.feed(bytes, n);
        }
    }

    static int run(SlideDeck deck, int sheet, String script) {
        feed(deck, script);
        return deck.run(sheet);
    }

    static int write(SlideDeck deck, int sheet, int shape, String text) {
        feed(deck, text);
        return deck.write(sheet, shape);
    }

    static String text(SlideDeck deck, int sheet, int shape) {
        StringBuilder text = new StringBuilder();
        int size = deck.textSize(sheet, shape);
        for (int i = 0; i < size; i++) {
            text.append((char) deck.textByte(sheet, shape, i));
        }
        return text.toString();
    }

    /** The shapes that are painted, as "0 3 2". */
    static String painted(SlideDeck deck, int sheet) {
        StringBuilder row = new StringBuilder();
        int size = deck.painted(sheet);
        for (int i = 0; i < size; i++) {
            row.append(i > 0 ? " " : "").append(deck.paintedAt(sheet, i));
        }
        return row.toString();
    }

    static String slides(SlideDeck deck) {
        StringBuilder row = new StringBuilder();
        int size = deck.count(1);
        for (int i = 0; i < size; i++) {
            row.append(i > 0 ? " " : "").append(deck.slideAt(i));
        }
        return row.toString();
    }

    /** The first values of a shape as seen on a sheet, as "1 2 3 4". */
    static String values(SlideDeck deck, int sheet, int shape, int first, int last) {
        StringBuilder row = new StringBuilder();
        for (int what = first; what <= last; what++) {
            row.append(what > first ? " " : "").append(deck.value(sheet, shape, what));
        }
        return row.toString();
    }

    static String box(SlideDeck deck, int sheet, int shape) {
        return values(deck, sheet, shape, 0, 3);
    }

    /** Kind, home, group, place, members and lock of a shape. */
    static String told(SlideDeck deck, int shape) {
        StringBuilder row = new StringBuilder();
        for (int what = 0; what < 6; what++) {
            row.append(what > 0 ? " " : "").append(deck.shape(shape, what));
        }
        return row.toString();
    }

    static int box(SlideDeck deck, int sheet) {
        return deck.add(sheet, 0, 0, 0, 10, 10);
    }

    /** Makes states without changing anything until there are 120. */
    static void fillStates(SlideDeck deck) {
        while (deck.states() < 120) {
            deck.setShade(0, 0, -1);
        }
    }

    static void select(SlideDeck deck, int... shapes) {
        for (int shape : shapes) {
            deck.select(shape, true);
        }
    }

    static int group(SlideDeck deck, int... shapes) {
        select(deck, shapes);
        int group = deck.group();
        deck.select(group, false);
        return group;
    }
}
