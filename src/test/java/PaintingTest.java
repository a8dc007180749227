/** Promises 30 to 36: what is painted, and what is told of it. */
final class PaintingTest {
    private static final Check check = new Check();

    public static void main(String[] arguments) {
        orderOfPainting();
        hidden();
        paintRefused();
        topmost();
        areas();
        linesOfText();
        longWords();
        linesOfLetters();
        overfull();
        changed();
        check.end();
    }

    private static void orderOfPainting() {
        SlideDeck deck = new SlideDeck();
        int one = deck.addMaster(0);
        int slide = deck.addSlide(one, 0);
        int top = Decks.box(deck, slide);
        int low = Decks.box(deck, 0);
        int mid = Decks.box(deck, one);
        int a = Decks.box(deck, 0);
        int b = Decks.box(deck, 0);
        Decks.group(deck, low, b);
        check.due("from below", Decks.painted(deck, slide), a + " " + low + " " + b + " " + mid + " " + top);
        check.due("on the master", Decks.painted(deck, one), a + " " + low + " " + b + " " + mid);
        check.due("on sheet 0", deck.painted(0), 3);
        check.due("the last one", deck.paintedAt(slide, 4), top);
        deck.setBase(slide, 0);
        check.due("with another base", Decks.painted(deck, slide), a + " " + low + " " + b + " " + top);
    }

    private static void hidden() {
        SlideDeck deck = new SlideDeck();
        int slide = deck.addSlide(0, 0);
        int a = Decks.box(deck, 0);
        int b = Decks.box(deck, 0);
        int c = Decks.box(deck, 0);
        int inner = Decks.group(deck, b);
        int outer = Decks.group(deck, inner, c);
        deck.set(slide, a, 6, 1);
        check.due("hidden on the slide", Decks.painted(deck, slide), b + " " + c);
        check.due("not on the master", deck.painted(0), 3);
        deck.set(slide, a, 6, 6);
        check.due("other marks hide nothing", deck.painted(slide), 3);
        deck.set(0, inner, 6, 1);
        check.due("in a hidden group", Decks.painted(deck, slide), a + " " + c);
        deck.set(slide, inner, 6, 0);
        check.due("which is not hidden there", Decks.painted(deck, slide), a + " " + b + " " + c);
        deck.set(slide, outer, 6, 3);
        check.due("in a group within a hidden one", Decks.painted(deck, slide), "" + a);
        deck.set(slide, a, 6, 7);
        check.due("none", deck.painted(slide), 0);
        check.due("they are seen yet", deck.value(slide, b, 2), 10);
        check.due("and count as shapes", deck.count(2), 5);
    }

    private static void paintRefused() {
        SlideDeck deck = new SlideDeck();
        Decks.box(deck, 0);
        check.noIndex("painted", deck, () -> deck.painted(1));
        check.noIndex("painted -1", deck, () -> deck.painted(-1));
        check.noIndex("paintedAt", deck, () -> deck.paintedAt(1, 0));
        check.noIndex("place 1", deck, () -> deck.paintedAt(0, 1));
        check.noIndex("place -1", deck, () -> deck.paintedAt(0, -1));
        check.noIndex("top", deck, () -> deck.top(1, 0, 0));
        check.noIndex("common", deck, () -> deck.common(1, 0, 0));
        check.noIndex("common, first shape", deck, () -> deck.common(0, 1, 0));
        check.noIndex("common, second shape", deck, () -> deck.common(0, 0, 1));
        check.noIndex("lines", deck, () -> deck.lines(1, 0));
        check.noIndex("lines, shape", deck, () -> deck.lines(0, 1));
        check.noIndex("overfull", deck, () -> deck.overfull(1));
        check.noIndex("changed", deck, () -> deck.changed(1));
        int slide = deck.addSlide(0, 0);
        int own = Decks.box(deck, slide);
        check.noIndex("common, not seen", deck, () -> deck.common(0, 0, own));
        check.noIndex("lines, not seen", deck, () -> deck.lines(0, own));
    }

    private static void topmost() {
        SlideDeck deck = new SlideDeck();
        int slide = deck.addSlide(0, 0);
        int low = deck.add(0, 0, -10, -20, 30, 40);
        int high = deck.add(0, 2, 0, 0, 5, 5);
        int group = Decks.group(deck, low);
        check.due("first point", deck.top(0, -10, -20), low);
        check.due("left of it", deck.top(0, -11, -20), -1);
        check.due("above it", deck.top(0, -10, -21), -1);
        check.due("last point", deck.top(0, 19, 19), low);
        check.due("right of it", deck.top(0, 20, 19), -1);
        check.due("below it", deck.top(0, 19, 20), -1);
        check.due("both", deck.top(0, 4, 4), high);
        check.due("one beside", deck.top(0, 5, 4), low);
        deck.set(slide, high, 0, 1);
        check.due("as seen on the slide", deck.top(slide, 0, 0), low);
        check.due("moved there", deck.top(slide, 5, 0), high);
        deck.set(slide, high, 6, 1);
        check.due("hidden ones cover nothing", deck.top(slide, 5, 0), low);
        deck.arrange(high, 0);
        check.due("the group above", deck.top(0, 4, 4), low);
        deck.set(0, group, 6, 1);
        check.due("a hidden group", deck.top(0, 4, 4), high);
        check.due("far away", deck.top(0, Integer.MAX_VALUE, Integer.MIN_VALUE), -1);
    }

    private static void areas() {
        SlideDeck deck = new SlideDeck();
        int slide = deck.addSlide(0, 0);
        int a = deck.add(0, 0, 0, 0, 10, 20);
        int b = deck.add(0, 0, 5, 15, 100, 100);
        int c = deck.add(0, 0, 10, 0, 5, 5);
        int own = deck.add(slide, 0, -2000, -2000, 2000, 2000);
        check.due("a corner", deck.common(0, a, b), 25);
        check.due("the other way round", deck.common(0, b, a), 25);
        check.due("edges only", deck.common(0, a, c), 0);
        check.due("far", deck.common(0, b, c), 0);
        check.due("itself", deck.common(0, a, a), 200);
        check.due("nothing", deck.common(slide, own, a), 0);
        deck.set(slide, a, 0, 2);
        deck.set(slide, a, 6, 1);
        check.due("as seen on the slide, hidden too", deck.common(slide, a, b), 35);
        int group = Decks.group(deck, a, c);
        check.due("a group", deck.common(0, group, b), 50);
        check.due("a group and its member", deck.common(0, group, c), 25);
        int far = deck.add(0, 0, 2000, 2000, 2000, 2000);
        int all = Decks.group(deck, far, group, deck.add(0, 0, -2000, -2000, 1, 1));
        check.due("the largest", deck.common(0, all, all), 36000000);
    }

    private static int lines(SlideDeck deck, String text) {
        deck.trim(0);
        Decks.write(deck, 0, 0, text);
        return deck.lines(0, 0);
    }

    /** A line has room for 10 bytes: 2 * 100 / 20. */
    private static void linesOfText() {
        SlideDeck deck = new SlideDeck();
        deck.add(0, 1, 0, 0, 100, 10);
        check.due("none", deck.lines(0, 0), 0);
        check.due("blanks alone", lines(deck, "   "), 0);
        check.due("one word", lines(deck, "a"), 1);
        check.due("10 bytes", lines(deck, "aaaa bbbbb"), 1);
        check.due("11 bytes", lines(deck, "aaaaa bbbbb"), 2);
        check.due("one blank between is enough", lines(deck, "  aaaa      bbbbb  "), 1);
        check.due("a whole line", lines(deck, "aaaaaaaaaa"), 1);
        check.due("no room beside it", lines(deck, "aaaaaaaaaa b"), 2);
        check.due("three", lines(deck, "aaaaaa bbbbbb cccccc"), 3);
        check.due("put together as they fit", lines(deck, "aaa bbb ccc ddd eee fff"), 3);
        check.due("nine bytes and one letter", lines(deck, "aaaaaaaaa b"), 2);
        check.due("eight bytes and one letter", lines(deck, "aaaaaaaa b"), 1);
        check.due("three words in a line", lines(deck, "aaa bbb cc"), 1);
        check.due("not quite", lines(deck, "aaa bbb ccc"), 2);
        check.due("five", lines(deck, "a b c d ef"), 1);
        int box = Decks.box(deck, 0);
        check.due("no TEXT", deck.lines(0, box), 0);
    }

    private static void longWords() {
        SlideDeck deck = new SlideDeck();
        deck.add(0, 1, 0, 0, 100, 10);
        check.due("11 bytes", lines(deck, "aaaaaaaaaaa"), 2);
        check.due("the rest begins the next line", lines(deck, "aaaaaaaaaaa bbbbbbbb"), 2);
        check.due("no room beside the rest", lines(deck, "aaaaaaaaaaa bbbbbbbbb"), 3);
        check.due("lines of its own", lines(deck, "b aaaaaaaaaaa"), 3);
        check.due("20 bytes leave no rest", lines(deck, "aaaaaaaaaaaaaaaaaaaa b"), 3);
        check.due("21 do", lines(deck, "aaaaaaaaaaaaaaaaaaaaa b"), 3);
        check.due("two long ones", lines(deck, "aaaaaaaaaaaa bbbbbbbbbbbb"), 4);
        check.due("40 bytes", lines(deck, "aaaaaaaaaaaaaaaaaaaaaaaaaaaaaaaaaaaaaaaa"), 4);
    }

    private static void linesOfLetters() {
        SlideDeck deck = new SlideDeck();
        int slide = deck.addSlide(0, 0);
        int text = deck.add(0, 1, 0, 0, 1, 10);
        check.due("room for one at least", lines(deck, "abc de"), 5);
        deck.set(slide, text, 2, 19);
        deck.set(slide, text, 5, 13);
        check.due("2 * 19 / 13 is 2", deck.lines(slide, text), 3);
        deck.set(slide, text, 6, 2);
        check.due("3 * 19 / 26 is 2 as well", deck.lines(slide, text), 3);
        deck.set(slide, text, 2, 20);
        check.due("60 / 26 is 2", deck.lines(slide, text), 3);
        deck.set(slide, text, 6, 4);
        check.due("40 / 13 is 3", deck.lines(slide, text), 2);
        deck.set(slide, text, 2, 26);
        check.due("52 / 13 is 4", deck.lines(slide, text), 2);
        deck.set(slide, text, 6, 3);
        check.due("bold: 78 / 26 is 3", deck.lines(slide, text), 2);
        deck.set(slide, text, 2, 25);
        check.due("bold: 75 / 26 is 2", deck.lines(slide, text), 3);
        Decks.write(deck, slide, text, "a b");
        check.due("the text of the slide", deck.lines(slide, text), 2);
        check.due("that of the master", deck.lines(0, text), 5);
    }

    private static void overfull() {
        SlideDeck deck = new SlideDeck();
        int slide = deck.addSlide(0, 0);
        int text = deck.add(0, 1, 0, 0, 100, 48);
        deck.add(0, 0, 0, 0, 1, 1);
        check.due("no text", deck.overfull(0), 0);
        lines(deck, "aaaaaa bbbbbb");
        check.due("2 * 20 * 6 / 5 is 48", deck.overfull(0), 0);
        deck.set(slide, text, 3, 47);
        check.due("more than 47", deck.overfull(slide), 1);
        check.due("not on the master", deck.overfull(0), 0);
        deck.set(slide, text, 6, 1);
        check.due("not painted", deck.overfull(slide), 0);
        int other = deck.add(slide, 1, 0, 0, 2000, 1);
        check.due("no words", deck.overfull(slide), 0);
        Decks.write(deck, slide, other, "x");
        deck.set(slide, other, 3, 24);
        check.due("24 are enough", deck.overfull(slide), 0);
        deck.set(slide, other, 5, 21);
        check.due("21 * 6 / 5 is 25", deck.overfull(slide), 1);
        deck.set(slide, text, 6, 0);
        check.due("both", deck.overfull(slide), 2);
        deck.set(slide, other, 3, 25);
        check.due("25 are enough", deck.overfull(slide), 1);
    }

    private static void changed() {
        SlideDeck deck = new SlideDeck();
        int one = deck.addMaster(0);
        int slide = deck.addSlide(one, 0);
        check.due("no shapes", deck.changed(slide), 0.0);
        int a = Decks.box(deck, 0);
        int b = Decks.box(deck, 0);
        int own = Decks.box(deck, slide);
        check.due("no overrides", deck.changed(slide), 0.0);
        deck.set(slide, a, 0, 5);
        check.due("one of two", deck.changed(slide), 0.5);
        Decks.group(deck, a, b);
        check.due("a group is a shape", deck.changed(slide), 1.0 / 3);
        Decks.box(deck, one);
        check.due("one of four", deck.changed(slide), 0.25);
        deck.set(slide, a, 1, 5);
        deck.set(slide, a, 2, 5);
        deck.set(slide, a, 3, 5);
        deck.set(slide, b, 6, 1);
        check.due("five of four", deck.changed(slide), 1.25);
        check.due("three seen on one", deck.changed(one), 0.0);
        check.due("sheet 0 sees no other", deck.changed(0), 0.0);
        deck.set(one, a, 0, 1);
        check.due("one of three", deck.changed(one), 1.0 / 3);
        check.due("as it was", deck.value(slide, own, 0), 0);
    }
}
