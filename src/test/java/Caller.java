/** Makes calls by their names, for tests that go through long rows of calls. */
final class Caller {
    /** Every method of the face, its number of arguments, and the exceptions that it names (i, a, s). */
    static final String[] FACE = {
        "addMaster 1 is", "addSlide 2 is", "duplicate 1 is", "removeSlide 1 is", "moveSlide 2 is",
        "setBase 2 ias", "base 1 i", "count 1 i", "slideAt 1 i", "setShade 3 ias", "shade 2 i", "add 6 ias",
        "remove 1 is", "shape 2 i", "set 4 ias", "value 3 i", "write 2 ias", "textSize 2 i", "textByte 3 i",
        "clear 3 is", "overrides 1 i", "select 2 i", "isSelected 1 i", "group 0 s", "ungroup 1 is",
        "arrange 2 is", "align 1 as", "spread 1 s", "painted 1 i", "paintedAt 2 i", "top 3 i", "common 3 i",
        "lines 2 i", "overfull 1 i", "changed 1 i", "state 0 -", "states 0 -", "told 2 i", "undo 0 s",
        "redo 0 s", "go 1 i", "feed 2 as", "trim 1 a", "run 1 is", "errorAt 0 -", "steps 0 -", "digest 0 -"};

    private Caller() {
    }

    /** The answer as a text; an exception as "throws." and its name. */
    static String answer(SlideDeck deck, String name, long[] a) {
        try {
            switch (name) {
                case "changed":
                    return "" + deck.changed((int) a[0]);
                case "isSelected":
                    return "" + deck.isSelected((int) a[0]);
                default:
                    return "" + number(deck, name, a);
            }
        } catch (RuntimeException thrown) {
            return "throws." + thrown.getClass().getSimpleName();
        }
    }

    private static long number(SlideDeck deck, String name, long[] a) {
        int[] n = new int[6];
        for (int i = 0; i < a.length && i < 6; i++) {
            n[i] = (int) a[i];
        }
        switch (name) {
            case "addMaster": return deck.addMaster(n[0]);
            case "addSlide": return deck.addSlide(n[0], n[1]);
            case "duplicate": return deck.duplicate(n[0]);
            case "removeSlide": return deck.removeSlide(n[0]);
            case "moveSlide": return deck.moveSlide(n[0], n[1]);
            case "setBase": return deck.setBase(n[0], n[1]);
            case "base": return deck.base(n[0]);
            case "count": return deck.count(n[0]);
            case "slideAt": return deck.slideAt(n[0]);
            case "setShade": return deck.setShade(n[0], n[1], n[2]);
            case "shade": return deck.shade(n[0], n[1]);
            case "add": return deck.add(n[0], n[1], n[2], n[3], n[4], n[5]);
            case "remove": return deck.remove(n[0]);
            case "shape": return deck.shape(n[0], n[1]);
            case "set": return deck.set(n[0], n[1], n[2], n[3]);
            case "value": return deck.value(n[0], n[1], n[2]);
            case "write": return deck.write(n[0], n[1]);
            case "textSize": return deck.textSize(n[0], n[1]);
            case "textByte": return deck.textByte(n[0], n[1], n[2]);
            case "clear": return deck.clear(n[0], n[1], n[2]);
            case "overrides": return deck.overrides(n[0]);
            default: return numberOfMore(deck, name, a, n);
        }
    }

    private static long numberOfMore(SlideDeck deck, String name, long[] a, int[] n) {
        switch (name) {
            case "select": return deck.select(n[0], n[1] != 0);
            case "group": return deck.group();
            case "ungroup": return deck.ungroup(n[0]);
            case "arrange": return deck.arrange(n[0], n[1]);
            case "align": return deck.align(n[0]);
            case "spread": return deck.spread(n[0] != 0);
            case "painted": return deck.painted(n[0]);
            case "paintedAt": return deck.paintedAt(n[0], n[1]);
            case "top": return deck.top(n[0], n[1], n[2]);
            case "common": return deck.common(n[0], n[1], n[2]);
            case "lines": return deck.lines(n[0], n[1]);
            case "overfull": return deck.overfull(n[0]);
            case "state": return deck.state();
            case "states": return deck.states();
            case "told": return deck.told(n[0], n[1]);
            case "undo": return deck.undo();
            case "redo": return deck.redo();
            case "go": return deck.go(n[0]);
            case "feed": return deck.feed(a[0], n[1]);
            case "trim": return deck.trim(n[0]);
            case "run": return deck.run(n[0]);
            case "errorAt": return deck.errorAt();
            case "steps": return deck.steps();
            case "digest": return deck.digest();
            default: throw new IllegalStateException("no such method: " + name);
        }
    }
}
