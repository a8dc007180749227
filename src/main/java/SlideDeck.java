import java.util.Arrays;

/**
 * The core of an editor for slide decks. The methods of this class look at the arguments and throw; the
 * classes inside it hold the deck and never throw out of a call of the face.
 */
public final class SlideDeck {
    private static final int KINDS_TO_ADD = 3;
    private static final int MOST_SHADE = 255;
    private static final int MOST_AT_ONCE = 8;
    private static final int FIRST_CHECKSUM = 281;

    private final Sheets sheets;
    private final Shapes shapes;
    private final Overrides overrides;
    private final Texts texts;
    private final Deck deck;
    private final Selection selection;
    private final History history;
    private final Tape tape;
    private final Script script;

    public SlideDeck() {
        sheets = new Sheets();
        shapes = new Shapes();
        overrides = new Overrides();
        texts = new Texts();
        deck = new Deck(sheets, shapes, overrides, texts);
        selection = new Selection(deck, shapes);
        history = new History();
        tape = new Tape();
        script = new Script(deck, sheets, shapes);
        history.begin(deck.saved());
    }

    // ---- sheets

    public int addMaster(int base) throws IndexOutOfBoundsException, IllegalStateException {
        int baseSlot = masterSlot(base);
        if (sheets.masters() >= Sheets.MASTERS) {
            throw new IllegalStateException("there are 8 masters");
        }
        refuseIfFull();
        int slot = sheets.newMaster(baseSlot);
        keep();
        return sheets.numberOf(slot);
    }

    public int addSlide(int master, int place) throws IndexOutOfBoundsException, IllegalStateException {
        int baseSlot = masterSlot(master);
        if (place < 0 || place > sheets.slides()) {
            throw new IndexOutOfBoundsException("no such place");
        }
        if (sheets.slides() >= Sheets.SLIDES) {
            throw new IllegalStateException("there are 24 slides");
        }
        refuseIfFull();
        int slot = sheets.newSlide(baseSlot, place);
        keep();
        return sheets.numberOf(slot);
    }

    public int duplicate(int slide) throws IndexOutOfBoundsException, IllegalStateException {
        int slot = slideSlot(slide);
        if (sheets.slides() >= Sheets.SLIDES) {
            throw new IllegalStateException("there are 24 slides");
        }
        if (shapes.size() + shapes.homedOn(slot) > Shapes.ROOM) {
            throw new IllegalStateException("there would be more than 100 shapes");
        }
        refuseIfFull();
        int copy = deck.copySlide(slot);
        keep();
        return sheets.numberOf(copy);
    }

    public int removeSlide(int slide) throws IndexOutOfBoundsException, IllegalStateException {
        int slot = slideSlot(slide);
        if (shapes.anyLockedOn(slot)) {
            throw new IllegalStateException("a shape of the slide is locked");
        }
        refuseIfFull();
        deck.dropSlide(slot);
        keep();
        return sheets.slides();
    }

    public int moveSlide(int slide, int place) throws IndexOutOfBoundsException, IllegalStateException {
        int slot = slideSlot(slide);
        if (place < 0 || place >= sheets.slides()) {
            throw new IndexOutOfBoundsException("no such place");
        }
        refuseIfFull();
        int before = sheets.placeOf(slot);
        sheets.putAt(slot, place);
        keep();
        return before;
    }

    public int setBase(int sheet, int base)
            throws IndexOutOfBoundsException, IllegalArgumentException, IllegalStateException {
        int slot = sheetSlot(sheet);
        int baseSlot = masterSlot(base);
        if (slot == 0) {
            throw new IllegalArgumentException("sheet 0 has no base");
        }
        if (sheets.isOrFollows(baseSlot, slot)) {
            throw new IllegalArgumentException("the base is the sheet or follows it");
        }
        refuseIfFull();
        sheets.rebase(slot, baseSlot);
        int gone = deck.dropUnseen();
        keep();
        return gone;
    }

    public int base(int sheet) throws IndexOutOfBoundsException {
        int slot = sheetSlot(sheet);
        return sheets.numberOf(sheets.baseOf(slot));
    }

    public int count(int what) throws IndexOutOfBoundsException {
        switch (what) {
            case 0:
                return sheets.masters();
            case 1:
                return sheets.slides();
            case 2:
                return shapes.size();
            default:
                throw new IndexOutOfBoundsException("what is not 0 to 2");
        }
    }

    public int slideAt(int place) throws IndexOutOfBoundsException {
        if (place < 0 || place >= sheets.slides()) {
            throw new IndexOutOfBoundsException("no such place");
        }
        return sheets.numberOf(sheets.slotAt(place));
    }

    public int setShade(int master, int colour, int shade)
            throws IndexOutOfBoundsException, IllegalArgumentException, IllegalStateException {
        int slot = masterSlot(master);
        checkColour(colour);
        if (shade < -1 || shade > MOST_SHADE) {
            throw new IllegalArgumentException("the shade is not -1 to 255");
        }
        refuseIfFull();
        int before = sheets.ownShade(slot, colour);
        sheets.giveShade(slot, colour, shade);
        keep();
        return before;
    }

    public int shade(int sheet, int colour) throws IndexOutOfBoundsException {
        int slot = sheetSlot(sheet);
        checkColour(colour);
        return sheets.shadeOn(slot, colour);
    }

    // ---- shapes and values

    public int add(int sheet, int kind, int x, int y, int w, int h)
            throws IndexOutOfBoundsException, IllegalArgumentException, IllegalStateException {
        int home = sheetSlot(sheet);
        if (kind < 0 || kind >= KINDS_TO_ADD) {
            throw new IllegalArgumentException("the kind is not 0 to 2");
        }
        if (!Shapes.isBox(x, y, w, h)) {
            throw new IllegalArgumentException("a value is not in its range");
        }
        if (shapes.size() >= Shapes.ROOM) {
            throw new IllegalStateException("there are 100 shapes");
        }
        refuseIfFull();
        int slot = shapes.create(home, kind);
        shapes.giveBox(slot, x, y, w, h);
        keep();
        return shapes.numberOf(slot);
    }

    public int remove(int shape) throws IndexOutOfBoundsException, IllegalStateException {
        int slot = shapeSlot(shape);
        if (shapes.isLockedInside(slot)) {
            throw new IllegalStateException("the shape or a member of it is locked");
        }
        refuseIfFull();
        int gone = deck.dropShape(slot);
        keep();
        return gone;
    }

    public int shape(int shape, int what) throws IndexOutOfBoundsException {
        int slot = shapeSlot(shape);
        switch (what) {
            case 0:
                return shapes.kindOf(slot);
            case 1:
                return sheets.numberOf(shapes.homeOf(slot));
            case 2:
                return shapes.numberOf(shapes.groupOf(slot));
            case 3:
                return shapes.placeOf(slot);
            case 4:
                return shapes.membersOf(slot);
            case 5:
                return shapes.isLocked(slot) ? 1 : 0;
            default:
                throw new IndexOutOfBoundsException("what is not 0 to 5");
        }
    }

    public int set(int sheet, int shape, int what, int value)
            throws IndexOutOfBoundsException, IllegalArgumentException, IllegalStateException {
        int on = sheetSlot(sheet);
        int slot = seenSlot(on, shape);
        checkValueName(what);
        if (!Shapes.isInRange(what, value)) {
            throw new IllegalArgumentException("the value is not in its range");
        }
        if (shapes.isGroup(slot) && what != Shapes.MARKS) {
            throw new IllegalArgumentException("a group has its marks alone");
        }
        if (what != Shapes.MARKS) {
            refuseIfLockedAtHome(on, slot);
        }
        refuseIfFull();
        int before = deck.seen(on, slot, what);
        deck.give(on, slot, what, value);
        keep();
        return before;
    }

    public int value(int sheet, int shape, int what) throws IndexOutOfBoundsException {
        int on = sheetSlot(sheet);
        int slot = seenSlot(on, shape);
        checkValueName(what);
        return deck.valueOn(on, slot, what);
    }

    public int write(int sheet, int shape)
            throws IndexOutOfBoundsException, IllegalArgumentException, IllegalStateException {
        int on = sheetSlot(sheet);
        int slot = seenSlot(on, shape);
        if (shapes.kindOf(slot) != Shapes.TEXT) {
            throw new IllegalArgumentException("the shape is no TEXT");
        }
        if (!tape.isText()) {
            throw new IllegalArgumentException("the tape is no text");
        }
        refuseIfLockedAtHome(on, slot);
        refuseIfFull();
        int text = texts.keepText(tape);
        deck.give(on, slot, Shapes.WORDS, text);
        tape.cutTo(0);
        keep();
        return texts.sizeOf(text);
    }

    public int textSize(int sheet, int shape) throws IndexOutOfBoundsException {
        int on = sheetSlot(sheet);
        int slot = seenSlot(on, shape);
        return texts.sizeOf(deck.seen(on, slot, Shapes.WORDS));
    }

    public int textByte(int sheet, int shape, int index) throws IndexOutOfBoundsException {
        int on = sheetSlot(sheet);
        int slot = seenSlot(on, shape);
        int text = deck.seen(on, slot, Shapes.WORDS);
        if (index < 0 || index >= texts.sizeOf(text)) {
            throw new IndexOutOfBoundsException("no such byte");
        }
        return texts.byteAt(text, index);
    }

    public int clear(int sheet, int shape, int what) throws IndexOutOfBoundsException, IllegalStateException {
        int on = sheetSlot(sheet);
        int slot = shapeSlot(shape);
        if (what < 0 || what >= Shapes.VALUES || !overrides.isGiven(on, slot, what)) {
            throw new IndexOutOfBoundsException("no such override");
        }
        refuseIfFull();
        overrides.take(on, slot, what);
        keep();
        return overrides.sizeOn(on);
    }

    public int overrides(int sheet) throws IndexOutOfBoundsException {
        return overrides.sizeOn(sheetSlot(sheet));
    }

    // ---- selection, groups and places

    public int select(int shape, boolean isOn) throws IndexOutOfBoundsException {
        selection.mark(shapeSlot(shape), isOn);
        return selection.size();
    }

    public boolean isSelected(int shape) throws IndexOutOfBoundsException {
        return selection.has(shapeSlot(shape));
    }

    public int group() throws IllegalStateException {
        if (selection.size() == 0) {
            throw new IllegalStateException("nothing is selected");
        }
        if (!selection.isOneOrder()) {
            throw new IllegalStateException("the shapes do not stand in the same order");
        }
        if (selection.hasLocked()) {
            throw new IllegalStateException("a selected shape is locked");
        }
        if (shapes.size() >= Shapes.ROOM) {
            throw new IllegalStateException("there are 100 shapes");
        }
        if (selection.isTooDeepToGroup()) {
            throw new IllegalStateException("there would be four groups in one another");
        }
        refuseIfFull();
        int slot = selection.makeGroup();
        keep();
        return shapes.numberOf(slot);
    }

    public int ungroup(int group) throws IndexOutOfBoundsException, IllegalStateException {
        int slot = shapeSlot(group);
        if (!shapes.isGroup(slot)) {
            throw new IndexOutOfBoundsException("no such group");
        }
        if (shapes.isLocked(slot)) {
            throw new IllegalStateException("the group is locked");
        }
        refuseIfFull();
        int members = selection.dissolve(slot);
        keep();
        return members;
    }

    public int arrange(int shape, int place) throws IndexOutOfBoundsException, IllegalStateException {
        int slot = shapeSlot(shape);
        if (place < 0 || place >= shapes.orderSizeOf(slot)) {
            throw new IndexOutOfBoundsException("no such place");
        }
        if (shapes.isLocked(slot)) {
            throw new IllegalStateException("the shape is locked");
        }
        refuseIfFull();
        int before = shapes.placeOf(slot);
        shapes.moveTo(slot, place);
        keep();
        return before;
    }

    public int align(int how) throws IllegalArgumentException, IllegalStateException {
        if (how < 0 || how > 5) {
            throw new IllegalArgumentException("how is not 0 to 5");
        }
        if (selection.size() < 2) {
            throw new IllegalStateException("fewer than 2 shapes are selected");
        }
        refuseIfUnmovable();
        int axis = how < 4 ? how / 2 : how - 4;
        int edge = how < 4 ? how % 2 : Selection.MIDST;
        selection.measure(axis);
        selection.planAlignment(edge);
        return moveAsPlanned(axis);
    }

    public int spread(boolean isAcross) throws IllegalStateException {
        if (selection.size() < 3) {
            throw new IllegalStateException("fewer than 3 shapes are selected");
        }
        refuseIfUnmovable();
        int axis = isAcross ? 0 : 1;
        selection.measure(axis);
        int space = selection.planSpreading();
        moveAsPlanned(axis);
        return space;
    }

    // ---- painting

    public int painted(int sheet) throws IndexOutOfBoundsException {
        return deck.paint(sheetSlot(sheet));
    }

    public int paintedAt(int sheet, int index) throws IndexOutOfBoundsException {
        int size = deck.paint(sheetSlot(sheet));
        if (index < 0 || index >= size) {
            throw new IndexOutOfBoundsException("no such place");
        }
        return shapes.numberOf(deck.paintedSlot(index));
    }

    public int top(int sheet, int px, int py) throws IndexOutOfBoundsException {
        int on = sheetSlot(sheet);
        int size = deck.paint(on);
        for (int i = size - 1; i >= 0; i--) {
            int slot = deck.paintedSlot(i);
            if (deck.covers(on, slot, px, py)) {
                return shapes.numberOf(slot);
            }
        }
        return -1;
    }

    public int common(int sheet, int a, int b) throws IndexOutOfBoundsException {
        int on = sheetSlot(sheet);
        int first = seenSlot(on, a);
        int second = seenSlot(on, b);
        return deck.overlap(on, first, second, 0) * deck.overlap(on, first, second, 1);
    }

    public int lines(int sheet, int shape) throws IndexOutOfBoundsException {
        int on = sheetSlot(sheet);
        return deck.linesOf(on, seenSlot(on, shape));
    }

    public int overfull(int sheet) throws IndexOutOfBoundsException {
        int on = sheetSlot(sheet);
        int size = deck.paint(on);
        int found = 0;
        for (int i = 0; i < size; i++) {
            if (deck.isOverfull(on, deck.paintedSlot(i))) {
                found++;
            }
        }
        return found;
    }

    public double changed(int sheet) throws IndexOutOfBoundsException {
        int on = sheetSlot(sheet);
        int foreign = deck.foreignOn(on);
        return foreign == 0 ? 0.0 : (double) overrides.sizeOn(on) / foreign;
    }

    // ---- states

    public int state() {
        return history.present();
    }

    public int states() {
        return history.size();
    }

    public int told(int state, int what) throws IndexOutOfBoundsException {
        if (!history.has(state)) {
            throw new IndexOutOfBoundsException("no such state");
        }
        switch (what) {
            case 0:
                return history.parentOf(state);
            case 1:
                return history.childrenOf(state);
            case 2:
                return history.latestOf(state);
            case 3:
                return history.depthOf(state);
            default:
                throw new IndexOutOfBoundsException("what is not 0 to 3");
        }
    }

    public int undo() throws IllegalStateException {
        int parent = history.parentOf(history.present());
        if (parent < 0) {
            throw new IllegalStateException("this is state 0");
        }
        visit(parent);
        return parent;
    }

    public int redo() throws IllegalStateException {
        int child = history.latestOf(history.present());
        if (child < 0) {
            throw new IllegalStateException("the present state has no children");
        }
        visit(child);
        return child;
    }

    public int go(int state) throws IndexOutOfBoundsException {
        if (!history.has(state)) {
            throw new IndexOutOfBoundsException("no such state");
        }
        int way = history.distance(history.present(), state);
        visit(state);
        return way;
    }

    // ---- the tape and scripts

    public int feed(long bytes, int n) throws IllegalArgumentException, IllegalStateException {
        if (n < 1 || n > MOST_AT_ONCE) {
            throw new IllegalArgumentException("n is not 1 to 8");
        }
        if (tape.size() + n > Tape.ROOM) {
            throw new IllegalStateException("there would be more than 600 bytes");
        }
        for (int i = n - 1; i >= 0; i--) {
            tape.append((int) (bytes >>> (8 * i)) & 255);
        }
        return tape.size();
    }

    public int trim(int n) throws IllegalArgumentException {
        if (n < 0 || n > tape.size()) {
            throw new IllegalArgumentException("n is not 0 to the number of bytes");
        }
        tape.cutTo(n);
        return n;
    }

    public int run(int sheet) throws IndexOutOfBoundsException, IllegalStateException {
        int first = sheetSlot(sheet);
        refuseIfFull();
        int error = script.perform(tape, first);
        tape.cutTo(0);
        selection.forgetAll();
        if (error == 0) {
            keep();
        } else {
            deck.load(history.presentRow());
        }
        return error;
    }

    public int errorAt() {
        return script.errorPlace();
    }

    public int steps() {
        return script.stepsDone();
    }

    public long digest() {
        long d = mixed(mixed(FIRST_CHECKSUM, history.present()), history.size());
        for (int what = 0; what < 3; what++) {
            d = mixed(d, count(what));
        }
        int number = -1;
        for (int i = 0; i < Sheets.ALL; i++) {
            int slot = sheets.nextSlotAfter(number);
            if (slot >= 0) {
                number = sheets.numberOf(slot);
                d = mixedSheet(d, slot);
            }
        }
        for (int place = 0; place < sheets.slides(); place++) {
            d = mixed(d, slideAt(place));
        }
        return mixed(mixed(d, tape.size()), selection.size());
    }

    private long mixedSheet(long start, int slot) {
        long d = mixed(mixed(start, sheets.numberOf(slot)), sheets.numberOf(sheets.baseOf(slot)));
        for (int colour = 0; colour < Sheets.COLOURS; colour++) {
            d = mixed(d, sheets.shadeOn(slot, colour));
        }
        int size = deck.paint(slot);
        d = mixed(mixed(d, overrides.sizeOn(slot)), size);
        for (int i = 0; i < size; i++) {
            int shape = deck.paintedSlot(i);
            d = mixed(d, shapes.numberOf(shape));
            for (int what = 0; what <= Shapes.MARKS; what++) {
                d = mixed(d, deck.valueOn(slot, shape, what));
            }
            d = mixed(d, texts.sizeOf(deck.seen(slot, shape, Shapes.WORDS)));
        }
        return d;
    }

    private static long mixed(long d, long x) {
        return d * 31 + x;
    }

    private int sheetSlot(int sheet) {
        int slot = sheets.find(sheet);
        if (slot < 0) {
            throw new IndexOutOfBoundsException("no such sheet");
        }
        return slot;
    }

    private int masterSlot(int master) {
        int slot = sheets.find(master);
        if (slot < 0 || Sheets.isSlide(slot)) {
            throw new IndexOutOfBoundsException("no such master");
        }
        return slot;
    }

    private int slideSlot(int slide) {
        int slot = sheets.find(slide);
        if (slot < 0 || !Sheets.isSlide(slot)) {
            throw new IndexOutOfBoundsException("no such slide");
        }
        return slot;
    }

    private int shapeSlot(int shape) {
        int slot = shapes.find(shape);
        if (slot < 0) {
            throw new IndexOutOfBoundsException("no such shape");
        }
        return slot;
    }

    private int seenSlot(int on, int shape) {
        int slot = shapes.find(shape);
        if (slot < 0 || !deck.isSeen(on, slot)) {
            throw new IndexOutOfBoundsException("the shape is not seen on the sheet");
        }
        return slot;
    }

    private static void checkColour(int colour) {
        if (colour < 0 || colour >= Sheets.COLOURS) {
            throw new IndexOutOfBoundsException("the colour is not 0 to 7");
        }
    }

    private static void checkValueName(int what) {
        if (what < 0 || what > Shapes.MARKS) {
            throw new IndexOutOfBoundsException("what is not 0 to 6");
        }
    }

    private void refuseIfLockedAtHome(int on, int slot) {
        if (shapes.homeOf(slot) == on && shapes.isLocked(slot)) {
            throw new IllegalStateException("the shape is locked");
        }
    }

    private void refuseIfUnmovable() {
        if (!selection.canMove()) {
            throw new IllegalStateException("the selected shapes cannot be moved together");
        }
    }

    private void refuseIfFull() {
        if (history.isFull()) {
            throw new IllegalStateException("there are 120 states");
        }
    }

    private int moveAsPlanned(int axis) {
        if (!selection.isPlanInRange(axis)) {
            throw new IllegalStateException("a value would not be in its range");
        }
        refuseIfFull();
        int moved = selection.moveAll(axis);
        keep();
        return moved;
    }

    /** Every edit ends here: what it left is a state, and removed shapes are selected no more. */
    private void keep() {
        selection.forgetRemoved();
        history.append(deck.saved());
    }

    private void visit(int state) {
        history.enter(state);
        deck.load(history.presentRow());
        selection.forgetAll();
    }

    /** The sheets in slots: masters from slot 0 on, in ascending order, slides in the slots behind them. */
    private static final class Sheets {
        static final int MASTERS = 8;
        static final int SLIDES = 24;
        static final int ALL = MASTERS + SLIDES;
        static final int COLOURS = 8;
        static final int SAVED = 2 * ALL + MASTERS * COLOURS + SLIDES + 3;
        private static final int SHADE_STEP = 30;

        private final int[] numbers = new int[ALL];
        private final int[] bases = new int[ALL];
        private final int[] shades = new int[MASTERS * COLOURS];
        private final int[] row = new int[SLIDES];
        private int masters = 1;
        private int slides;
        private int next = 1;

        Sheets() {
            Arrays.fill(numbers, -1);
            Arrays.fill(bases, -1);
            Arrays.fill(shades, -1);
            numbers[0] = 0;
        }

        int masters() {
            return masters;
        }

        int slides() {
            return slides;
        }

        static boolean isSlide(int slot) {
            return slot >= MASTERS;
        }

        int find(int number) {
            if (number < 0) {
                return -1;
            }
            for (int slot = 0; slot < ALL; slot++) {
                if (numbers[slot] == number) {
                    return slot;
                }
            }
            return -1;
        }

        /** The slot of the sheet with the next greater number, -1 if there is none. */
        int nextSlotAfter(int number) {
            int best = -1;
            for (int slot = 0; slot < ALL; slot++) {
                if (numbers[slot] > number && (best < 0 || numbers[slot] < numbers[best])) {
                    best = slot;
                }
            }
            return best;
        }

        int numberOf(int slot) {
            return slot < 0 || slot >= ALL ? -1 : numbers[slot];
        }

        int baseOf(int slot) {
            return slot < 0 || slot >= ALL ? -1 : bases[slot];
        }

        int newMaster(int baseSlot) {
            if (masters >= MASTERS) {
                return -1;
            }
            int slot = masters;
            masters++;
            fill(slot, baseSlot);
            return slot;
        }

        int newSlide(int baseSlot, int place) {
            int slot = freeSlideSlot();
            if (slot < 0 || slides >= SLIDES) {
                return -1;
            }
            fill(slot, baseSlot);
            row[slides] = slot;
            slides++;
            putAt(slot, place);
            return slot;
        }

        private int freeSlideSlot() {
            for (int slot = MASTERS; slot < ALL; slot++) {
                if (numbers[slot] < 0) {
                    return slot;
                }
            }
            return -1;
        }

        private void fill(int slot, int baseSlot) {
            if (slot < 0 || slot >= ALL) {
                return;
            }
            numbers[slot] = next;
            bases[slot] = baseSlot;
            next++;
        }

        int slotAt(int place) {
            return place < 0 || place >= slides ? -1 : row[place];
        }

        int placeOf(int slot) {
            for (int place = 0; place < slides; place++) {
                if (row[place] == slot) {
                    return place;
                }
            }
            return -1;
        }

        void putAt(int slot, int place) {
            int at = placeOf(slot);
            if (at < 0 || place < 0 || place >= slides) {
                return;
            }
            for (; at < place; at++) {
                row[at] = row[at + 1];
            }
            for (; at > place; at--) {
                row[at] = row[at - 1];
            }
            row[place] = slot;
        }

        void dropSlide(int slot) {
            if (slides == 0 || placeOf(slot) < 0) {
                return;
            }
            putAt(slot, slides - 1);
            slides--;
            numbers[slot] = -1;
            bases[slot] = -1;
        }

        void rebase(int slot, int baseSlot) {
            if (slot > 0 && slot < ALL) {
                bases[slot] = baseSlot;
            }
        }

        boolean isOrFollows(int slot, int other) {
            int at = slot;
            for (int left = ALL; left > 0 && at >= 0; left--) {
                if (at == other) {
                    return true;
                }
                at = baseOf(at);
            }
            return false;
        }

        int ownShade(int slot, int colour) {
            int at = slot * COLOURS + colour;
            return at < 0 || at >= shades.length ? -1 : shades[at];
        }

        void giveShade(int slot, int colour, int value) {
            int at = slot * COLOURS + colour;
            if (at >= 0 && at < shades.length) {
                shades[at] = value;
            }
        }

        int shadeOn(int slot, int colour) {
            int at = slot;
            for (int left = ALL; left > 0 && at >= 0; left--) {
                int own = ownShade(at, colour);
                if (own >= 0) {
                    return own;
                }
                at = baseOf(at);
            }
            return SHADE_STEP * colour;
        }

        void save(int[] into, int from) {
            if (from < 0 || into.length - from < SAVED) {
                return;
            }
            int at = from;
            System.arraycopy(numbers, 0, into, at, ALL);
            at += ALL;
            System.arraycopy(bases, 0, into, at, ALL);
            at += ALL;
            System.arraycopy(shades, 0, into, at, shades.length);
            at += shades.length;
            System.arraycopy(row, 0, into, at, SLIDES);
            at += SLIDES;
            into[at] = masters;
            into[at + 1] = slides;
            into[at + 2] = next;
        }

        void load(int[] saved, int from) {
            if (from < 0 || saved.length - from < SAVED) {
                return;
            }
            int at = from;
            System.arraycopy(saved, at, numbers, 0, ALL);
            at += ALL;
            System.arraycopy(saved, at, bases, 0, ALL);
            at += ALL;
            System.arraycopy(saved, at, shades, 0, shades.length);
            at += shades.length;
            System.arraycopy(saved, at, row, 0, SLIDES);
            at += SLIDES;
            masters = saved[at];
            slides = saved[at + 1];
            next = saved[at + 2];
        }
    }

    /**
     * The shapes in slots, and one row of all of them, in which each group stands directly ahead of all that
     * is within it (its block), so that the shapes of one home stand in it as they would be painted.
     */
    private static final class Shapes {
        static final int ROOM = 100;
        static final int BOX = 0;
        static final int TEXT = 1;
        static final int LINE = 2;
        static final int GROUP = 3;
        static final int MARKS = 6;
        static final int WORDS = 7;
        static final int VALUES = 8;
        static final int MOST_NESTED = 3;
        private static final int SAVED_OF_ONE = 5 + VALUES;
        static final int HIDDEN = 1;
        static final int BOLD = 2;
        private static final int LOCKED = 4;
        private static final int LETTERS = 5;
        private static final int NEW_LETTERS = 20;
        private static final int[] LEAST = {-2000, -2000, 1, 1, 0, 4, 0};
        private static final int[] MOST = {2000, 2000, 2000, 2000, 7, 100, 7};

        private final int[] numbers = new int[ROOM];
        private final int[] kinds = new int[ROOM];
        private final int[] homes = new int[ROOM];
        private final int[] groups = new int[ROOM];
        private final int[] values = new int[ROOM * VALUES];
        private final int[] row = new int[ROOM];
        private final int[] lifted = new int[ROOM];
        private int size;
        private int next;

        Shapes() {
            Arrays.fill(numbers, -1);
            Arrays.fill(groups, -1);
        }

        static boolean isInRange(int what, long value) {
            return what >= 0 && what < LEAST.length && value >= LEAST[what] && value <= MOST[what];
        }

        static boolean isBox(long x, long y, long w, long h) {
            return isInRange(0, x) && isInRange(1, y) && isInRange(2, w) && isInRange(3, h);
        }

        private static boolean isSlot(int slot) {
            return slot >= 0 && slot < ROOM;
        }

        int size() {
            return size;
        }

        int find(int number) {
            if (number < 0) {
                return -1;
            }
            for (int slot = 0; slot < ROOM; slot++) {
                if (numbers[slot] == number) {
                    return slot;
                }
            }
            return -1;
        }

        int numberOf(int slot) {
            return isSlot(slot) ? numbers[slot] : -1;
        }

        int kindOf(int slot) {
            return isSlot(slot) ? kinds[slot] : -1;
        }

        boolean isGroup(int slot) {
            return kindOf(slot) == GROUP;
        }

        int homeOf(int slot) {
            return isSlot(slot) ? homes[slot] : -1;
        }

        int groupOf(int slot) {
            return isSlot(slot) ? groups[slot] : -1;
        }

        int own(int slot, int what) {
            return isSlot(slot) && what >= 0 && what < VALUES ? values[slot * VALUES + what] : 0;
        }

        void give(int slot, int what, int value) {
            if (isSlot(slot) && what >= 0 && what < VALUES) {
                values[slot * VALUES + what] = value;
            }
        }

        void giveBox(int slot, int x, int y, int w, int h) {
            give(slot, 0, x);
            give(slot, 1, y);
            give(slot, 2, w);
            give(slot, 3, h);
        }

        /** Puts a new shape on top of its home; -1 if there is no room for it. */
        int create(int home, int kind) {
            int slot = freeSlot();
            if (slot < 0 || size >= ROOM) {
                return -1;
            }
            numbers[slot] = next;
            next++;
            kinds[slot] = kind;
            homes[slot] = home;
            groups[slot] = -1;
            Arrays.fill(values, slot * VALUES, slot * VALUES + VALUES, 0);
            give(slot, LETTERS, NEW_LETTERS);
            row[size] = slot;
            size++;
            return slot;
        }

        private int freeSlot() {
            for (int slot = 0; slot < ROOM; slot++) {
                if (numbers[slot] < 0) {
                    return slot;
                }
            }
            return -1;
        }

        /** A new shape on top of a home with the kind, the values and the text of another one. */
        int createLike(int slot, int home) {
            int made = create(home, kindOf(slot));
            for (int what = 0; what < VALUES; what++) {
                give(made, what, own(slot, what));
            }
            return made;
        }

        void join(int slot, int group) {
            if (isSlot(slot)) {
                groups[slot] = group;
            }
        }

        int slotAt(int position) {
            return position < 0 || position >= size ? -1 : row[position];
        }

        int positionOf(int slot) {
            for (int position = 0; position < size; position++) {
                if (row[position] == slot) {
                    return position;
                }
            }
            return -1;
        }

        /** Whether a shape is the other one, or a member of it, perhaps by way of others. */
        boolean isWithin(int slot, int other) {
            int at = slot;
            for (int left = MOST_NESTED + 1; left >= 0 && at >= 0; left--) {
                if (at == other) {
                    return true;
                }
                at = at < ROOM ? groups[at] : -1;
            }
            return false;
        }

        /** The position behind the block that begins at this one. */
        int endOfBlock(int position) {
            int holder = slotAt(position);
            int end = position + 1;
            while (end < size && isWithin(row[end], holder)) {
                end++;
            }
            return end;
        }

        int groupsAbove(int slot) {
            int above = 0;
            int at = groupOf(slot);
            while (at >= 0 && above <= MOST_NESTED) {
                above++;
                at = groupOf(at);
            }
            return above;
        }

        /** Whether both stand in the same order: on the same home, or in the same group. */
        boolean standsWith(int slot, int other) {
            return isSlot(slot) && isSlot(other) && groups[slot] == groups[other] && homes[slot] == homes[other];
        }

        int placeOf(int slot) {
            int place = 0;
            for (int position = 0; position < size && row[position] != slot; position++) {
                if (standsWith(row[position], slot)) {
                    place++;
                }
            }
            return place;
        }

        int orderSizeOf(int slot) {
            int found = 0;
            for (int position = 0; position < size; position++) {
                if (standsWith(row[position], slot)) {
                    found++;
                }
            }
            return found;
        }

        int membersOf(int group) {
            int found = 0;
            for (int position = 0; position < size; position++) {
                if (groupOf(row[position]) == group) {
                    found++;
                }
            }
            return found;
        }

        int homedOn(int sheet) {
            int found = 0;
            for (int position = 0; position < size; position++) {
                if (homeOf(row[position]) == sheet) {
                    found++;
                }
            }
            return found;
        }

        boolean isLocked(int slot) {
            int at = slot;
            for (int left = MOST_NESTED + 1; left >= 0 && at >= 0; left--) {
                if ((own(at, MARKS) & LOCKED) != 0) {
                    return true;
                }
                at = groupOf(at);
            }
            return false;
        }

        /** Whether a shape or anything within it is locked. */
        boolean isLockedInside(int slot) {
            int position = positionOf(slot);
            if (position < 0) {
                return false;
            }
            int end = endOfBlock(position);
            for (int at = position; at < end; at++) {
                if (isLocked(slotAt(at))) {
                    return true;
                }
            }
            return false;
        }

        boolean anyLockedOn(int sheet) {
            for (int position = 0; position < size; position++) {
                if (homeOf(row[position]) == sheet && isLocked(row[position])) {
                    return true;
                }
            }
            return false;
        }

        /** Moves a shape, with all within it, to a place in its order (behind all others, if it is beyond). */
        void moveTo(int slot, int place) {
            int from = positionOf(slot);
            if (from < 0) {
                return;
            }
            int length = endOfBlock(from) - from;
            System.arraycopy(row, from, lifted, 0, length);
            System.arraycopy(row, from + length, row, from, size - from - length);
            size -= length;
            int to = positionFor(slot, place);
            System.arraycopy(row, to, row, to + length, size - to);
            System.arraycopy(lifted, 0, row, to, length);
            size += length;
        }

        private int positionFor(int slot, int place) {
            int left = place;
            for (int position = 0; position < size; position++) {
                if (standsWith(row[position], slot)) {
                    if (left == 0) {
                        return position;
                    }
                    left--;
                }
            }
            int holder = positionOf(groupOf(slot));
            return holder < 0 ? size : endOfBlock(holder);
        }

        /** Takes one shape alone out of the row; who calls this sees to its members and overrides. */
        void drop(int slot) {
            int position = positionOf(slot);
            if (position < 0 || !isSlot(slot)) {
                return;
            }
            System.arraycopy(row, position + 1, row, position, size - position - 1);
            size--;
            numbers[slot] = -1;
            groups[slot] = -1;
        }

        int savedLength() {
            return 2 + size * SAVED_OF_ONE;
        }

        /** Only the shapes that there are are saved, in the order in which they stand in the row. */
        void save(int[] into, int from) {
            if (from < 0 || into.length - from < savedLength()) {
                return;
            }
            into[from] = size;
            into[from + 1] = next;
            for (int position = 0; position < size; position++) {
                saveOne(row[position], into, from + 2 + position * SAVED_OF_ONE);
            }
        }

        private void saveOne(int slot, int[] into, int at) {
            if (!isSlot(slot) || at < 0 || into.length - at < SAVED_OF_ONE) {
                return;
            }
            into[at] = slot;
            into[at + 1] = numbers[slot];
            into[at + 2] = kinds[slot];
            into[at + 3] = homes[slot];
            into[at + 4] = groups[slot];
            System.arraycopy(values, slot * VALUES, into, at + 5, VALUES);
        }

        void load(int[] saved, int from) {
            if (from < 0 || saved.length - from < 2) {
                return;
            }
            Arrays.fill(numbers, -1);
            Arrays.fill(groups, -1);
            int most = Math.min(ROOM, (saved.length - from - 2) / SAVED_OF_ONE);
            size = Math.max(0, Math.min(saved[from], most));
            next = saved[from + 1];
            for (int position = 0; position < size; position++) {
                int at = from + 2 + position * SAVED_OF_ONE;
                row[position] = saved[at];
                loadOne(saved[at], saved, at);
            }
        }

        private void loadOne(int slot, int[] saved, int at) {
            if (!isSlot(slot) || at < 0 || saved.length - at < SAVED_OF_ONE) {
                return;
            }
            numbers[slot] = saved[at + 1];
            kinds[slot] = saved[at + 2];
            homes[slot] = saved[at + 3];
            groups[slot] = saved[at + 4];
            System.arraycopy(saved, at + 5, values, slot * VALUES, VALUES);
        }
    }

    /** What sheets give of their own to shapes of other homes. */
    private static final class Overrides {
        static final int ABSENT = Integer.MIN_VALUE;
        private static final int OF_SHEET = Shapes.ROOM * Shapes.VALUES;

        private final int[] given = new int[Sheets.ALL * OF_SHEET];
        private final int[] sizes = new int[Sheets.ALL];

        Overrides() {
            Arrays.fill(given, ABSENT);
        }

        private static int indexOf(int sheet, int slot, int what) {
            boolean isThere = sheet >= 0 && sheet < Sheets.ALL && slot >= 0 && slot < Shapes.ROOM
                    && what >= 0 && what < Shapes.VALUES;
            return isThere ? sheet * OF_SHEET + slot * Shapes.VALUES + what : -1;
        }

        int sizeOn(int sheet) {
            return sheet < 0 || sheet >= Sheets.ALL ? 0 : sizes[sheet];
        }

        int of(int sheet, int slot, int what) {
            int index = indexOf(sheet, slot, what);
            return index < 0 ? ABSENT : given[index];
        }

        boolean isGiven(int sheet, int slot, int what) {
            return of(sheet, slot, what) != ABSENT;
        }

        void give(int sheet, int slot, int what, int value) {
            int index = indexOf(sheet, slot, what);
            if (index < 0) {
                return;
            }
            if (given[index] == ABSENT) {
                sizes[sheet]++;
            }
            given[index] = value;
        }

        void take(int sheet, int slot, int what) {
            takeAt(indexOf(sheet, slot, what));
        }

        private void takeAt(int index) {
            if (index >= 0 && index < given.length && given[index] != ABSENT) {
                given[index] = ABSENT;
                sizes[index / OF_SHEET]--;
            }
        }

        void takeShapeFrom(int sheet, int slot) {
            for (int what = 0; what < Shapes.VALUES; what++) {
                take(sheet, slot, what);
            }
        }

        void takeShape(int slot) {
            for (int sheet = 0; sheet < Sheets.ALL; sheet++) {
                for (int what = 0; what < Shapes.VALUES; what++) {
                    takeAt(indexOf(sheet, slot, what));
                }
            }
        }

        void takeSheet(int sheet) {
            for (int slot = 0; slot < Shapes.ROOM; slot++) {
                takeShapeFrom(sheet, slot);
            }
        }

        void copySheet(int from, int to) {
            for (int slot = 0; slot < Shapes.ROOM; slot++) {
                for (int what = 0; what < Shapes.VALUES; what++) {
                    if (isGiven(from, slot, what)) {
                        give(to, slot, what, of(from, slot, what));
                    }
                }
            }
        }

        /** The overrides are saved as pairs of an index and a value, since there are few of them. */
        int savedLength() {
            int all = 0;
            for (int sheet = 0; sheet < Sheets.ALL; sheet++) {
                all += sizes[sheet];
            }
            return 2 * all;
        }

        void save(int[] into, int from) {
            int at = from;
            for (int index = 0; index < given.length && at >= 0 && at < into.length - 1; index++) {
                if (given[index] != ABSENT) {
                    into[at] = index;
                    into[at + 1] = given[index];
                    at += 2;
                }
            }
        }

        void load(int[] saved, int from) {
            Arrays.fill(given, ABSENT);
            Arrays.fill(sizes, 0);
            for (int at = from; at >= 0 && at < saved.length - 1; at += 2) {
                int index = saved[at];
                if (index >= 0 && index < given.length) {
                    given[index] = saved[at + 1];
                    sizes[index / OF_SHEET]++;
                }
            }
        }
    }

    /** All texts that were ever written, so that a deck needs but a number for each; number 0 is empty. */
    private static final class Texts {
        static final int MOST_BYTES = 40;

        private final byte[] bytes = new byte[History.ROOM * MOST_BYTES];
        private final int[] sizes = new int[History.ROOM];
        private int known = 1;

        /** There is room for one text in each state; no text is kept without a new state. */
        int keepText(Tape tape) {
            if (known >= History.ROOM || tape.size() > MOST_BYTES) {
                return 0;
            }
            int text = known;
            known++;
            sizes[text] = tape.size();
            for (int i = 0; i < tape.size(); i++) {
                bytes[text * MOST_BYTES + i] = (byte) tape.byteAt(i);
            }
            return text;
        }

        int sizeOf(int text) {
            return text < 0 || text >= known ? 0 : sizes[text];
        }

        int byteAt(int text, int index) {
            return index < 0 || index >= sizeOf(text) ? 0 : bytes[text * MOST_BYTES + index];
        }

        /** The number of bytes from here to the next blank, or to the end. */
        int wordAt(int text, int index) {
            int end = index;
            while (end < sizeOf(text) && byteAt(text, end) != ' ') {
                end++;
            }
            return end - index;
        }
    }

    /** Sheets, shapes and overrides together: what is seen, and the edits that touch several of them. */
    private static final class Deck {
        private final Sheets sheets;
        private final Shapes shapes;
        private final Overrides overrides;
        private final Texts texts;
        private final int[] chain = new int[Sheets.ALL];
        private final int[] paintRow = new int[Shapes.ROOM];
        private final int[] copies = new int[Shapes.ROOM];

        Deck(Sheets sheets, Shapes shapes, Overrides overrides, Texts texts) {
            this.sheets = sheets;
            this.shapes = shapes;
            this.overrides = overrides;
            this.texts = texts;
        }

        boolean isSeen(int sheet, int slot) {
            return sheets.isOrFollows(sheet, shapes.homeOf(slot));
        }

        /** A value or the text as seen on a sheet; of a group its marks alone are meant by this. */
        int seen(int sheet, int slot, int what) {
            int home = shapes.homeOf(slot);
            int at = sheet;
            for (int left = Sheets.ALL; left > 0 && at >= 0 && at != home; left--) {
                int given = overrides.of(at, slot, what);
                if (given != Overrides.ABSENT) {
                    return given;
                }
                at = sheets.baseOf(at);
            }
            return shapes.own(slot, what);
        }

        void give(int sheet, int slot, int what, int value) {
            if (shapes.homeOf(slot) == sheet) {
                shapes.give(slot, what, value);
            } else {
                overrides.give(sheet, slot, what, value);
            }
        }

        int valueOn(int sheet, int slot, int what) {
            if (!shapes.isGroup(slot) || what == Shapes.MARKS) {
                return seen(sheet, slot, what);
            }
            switch (what) {
                case 0:
                case 1:
                    return lowEdge(sheet, slot, what);
                case 2:
                case 3:
                    return highEdge(sheet, slot, what - 2) - lowEdge(sheet, slot, what - 2);
                default:
                    return 0;
            }
        }

        /** The left (axis 0) or the upper edge (axis 1) of a box as seen on a sheet. */
        int lowEdge(int sheet, int slot, int axis) {
            int position = shapes.positionOf(slot);
            int end = shapes.endOfBlock(position);
            int low = Integer.MAX_VALUE;
            for (int at = position; at < end; at++) {
                int leaf = shapes.slotAt(at);
                if (!shapes.isGroup(leaf)) {
                    low = Math.min(low, seen(sheet, leaf, axis));
                }
            }
            return low;
        }

        /** The right or the lower edge: the first coordinate that is beyond the box. */
        int highEdge(int sheet, int slot, int axis) {
            int position = shapes.positionOf(slot);
            int end = shapes.endOfBlock(position);
            int high = Integer.MIN_VALUE;
            for (int at = position; at < end; at++) {
                int leaf = shapes.slotAt(at);
                if (!shapes.isGroup(leaf)) {
                    high = Math.max(high, seen(sheet, leaf, axis) + seen(sheet, leaf, axis + 2));
                }
            }
            return high;
        }

        int overlap(int sheet, int first, int second, int axis) {
            int low = Math.max(lowEdge(sheet, first, axis), lowEdge(sheet, second, axis));
            int high = Math.min(highEdge(sheet, first, axis), highEdge(sheet, second, axis));
            return Math.max(0, high - low);
        }

        boolean covers(int sheet, int slot, int px, int py) {
            int x = seen(sheet, slot, 0);
            int y = seen(sheet, slot, 1);
            return x <= px && px < x + seen(sheet, slot, 2) && y <= py && py < y + seen(sheet, slot, 3);
        }

        private boolean isHidden(int sheet, int slot) {
            int at = slot;
            for (int left = Shapes.MOST_NESTED + 1; left >= 0 && at >= 0; left--) {
                if ((seen(sheet, at, Shapes.MARKS) & Shapes.HIDDEN) != 0) {
                    return true;
                }
                at = shapes.groupOf(at);
            }
            return false;
        }

        /** Lays out the row of the shapes that are painted on a sheet, and tells how many there are. */
        int paint(int sheet) {
            int sheetsInChain = 0;
            int at = sheet;
            while (at >= 0 && sheetsInChain < chain.length) {
                chain[sheetsInChain] = at;
                sheetsInChain++;
                at = sheets.baseOf(at);
            }
            int size = 0;
            for (int i = sheetsInChain - 1; i >= 0; i--) {
                size = paintShapesOf(chain[i], sheet, size);
            }
            return size;
        }

        private int paintShapesOf(int home, int sheet, int start) {
            int size = start;
            for (int position = 0; position < shapes.size() && size < paintRow.length; position++) {
                int slot = shapes.slotAt(position);
                if (shapes.homeOf(slot) == home && !shapes.isGroup(slot) && !isHidden(sheet, slot)) {
                    paintRow[size] = slot;
                    size++;
                }
            }
            return size;
        }

        int paintedSlot(int index) {
            return index < 0 || index >= paintRow.length ? -1 : paintRow[index];
        }

        int linesOf(int sheet, int slot) {
            int text = seen(sheet, slot, Shapes.WORDS);
            int room = bytesInLine(sheet, slot);
            int lines = 0;
            int used = 0;
            int at = 0;
            while (at < texts.sizeOf(text)) {
                int word = texts.wordAt(text, at);
                if (word > 0 && lines > 0 && used + 1 + word <= room) {
                    used += 1 + word;
                } else if (word > 0) {
                    lines += (word + room - 1) / room;
                    used = (word - 1) % room + 1;
                }
                at += Math.max(1, word);
            }
            return lines;
        }

        private int bytesInLine(int sheet, int slot) {
            int width = seen(sheet, slot, 2);
            int letters = Math.max(1, seen(sheet, slot, Shapes.LETTERS));
            boolean isBold = (seen(sheet, slot, Shapes.MARKS) & Shapes.BOLD) != 0;
            return Math.max(1, isBold ? 3 * width / (2 * letters) : 2 * width / letters);
        }

        boolean isOverfull(int sheet, int slot) {
            int needed = linesOf(sheet, slot) * seen(sheet, slot, Shapes.LETTERS) * 6 / 5;
            return needed > seen(sheet, slot, 3);
        }

        /** The number of shapes that are seen on a sheet and have another home. */
        int foreignOn(int sheet) {
            int found = 0;
            for (int position = 0; position < shapes.size(); position++) {
                int slot = shapes.slotAt(position);
                if (shapes.homeOf(slot) != sheet && isSeen(sheet, slot)) {
                    found++;
                }
            }
            return found;
        }

        int copySlide(int slide) {
            int copy = sheets.newSlide(sheets.baseOf(slide), sheets.placeOf(slide) + 1);
            overrides.copySheet(slide, copy);
            int size = shapes.size();
            for (int position = 0; position < size; position++) {
                int slot = shapes.slotAt(position);
                if (shapes.homeOf(slot) == slide && slot >= 0 && slot < copies.length) {
                    copies[slot] = shapes.createLike(slot, copy);
                    shapes.join(copies[slot], copyOf(shapes.groupOf(slot)));
                }
            }
            return copy;
        }

        private int copyOf(int group) {
            return group < 0 || group >= copies.length ? -1 : copies[group];
        }

        void dropSlide(int slide) {
            for (int position = shapes.size() - 1; position >= 0; position--) {
                int slot = shapes.slotAt(position);
                if (shapes.homeOf(slot) == slide) {
                    dropAlone(slot);
                }
            }
            overrides.takeSheet(slide);
            sheets.dropSlide(slide);
        }

        void dropAlone(int slot) {
            overrides.takeShape(slot);
            shapes.drop(slot);
        }

        /** Removes a shape with all within it, and the groups that it leaves empty; tells how many are gone. */
        int dropShape(int slot) {
            int before = shapes.size();
            int holder = shapes.groupOf(slot);
            int position = shapes.positionOf(slot);
            for (int at = shapes.endOfBlock(position) - 1; at >= position; at--) {
                dropAlone(shapes.slotAt(at));
            }
            for (int left = Shapes.MOST_NESTED; left > 0 && holder >= 0; left--) {
                int above = shapes.groupOf(holder);
                if (shapes.membersOf(holder) > 0) {
                    break;
                }
                dropAlone(holder);
                holder = above;
            }
            return before - shapes.size();
        }

        int dropUnseen() {
            int before = overrides.savedLength();
            for (int sheet = 0; sheet < Sheets.ALL; sheet++) {
                for (int position = 0; position < shapes.size() && overrides.sizeOn(sheet) > 0; position++) {
                    int slot = shapes.slotAt(position);
                    if (!isSeen(sheet, slot)) {
                        overrides.takeShapeFrom(sheet, slot);
                    }
                }
            }
            return (before - overrides.savedLength()) / 2;
        }

        int[] saved() {
            int behindShapes = Sheets.SAVED + shapes.savedLength();
            int[] row = new int[behindShapes + overrides.savedLength()];
            sheets.save(row, 0);
            shapes.save(row, Sheets.SAVED);
            overrides.save(row, behindShapes);
            return row;
        }

        void load(int[] row) {
            if (row == null) {
                return;
            }
            sheets.load(row, 0);
            shapes.load(row, Sheets.SAVED);
            overrides.load(row, Sheets.SAVED + shapes.savedLength());
        }
    }

    /** The selected shapes, and the edits that are about all of them. */
    private static final class Selection {
        static final int MIDST = 2;

        private final Deck deck;
        private final Shapes shapes;
        private final boolean[] isMarked = new boolean[Shapes.ROOM];
        private int size;
        private final int[] row = new int[Shapes.ROOM];
        private final int[] low = new int[Shapes.ROOM];
        private final int[] high = new int[Shapes.ROOM];
        private final int[] way = new int[Shapes.ROOM];

        Selection(Deck deck, Shapes shapes) {
            this.deck = deck;
            this.shapes = shapes;
        }

        int size() {
            return size;
        }

        boolean has(int slot) {
            return slot >= 0 && slot < Shapes.ROOM && isMarked[slot];
        }

        void mark(int slot, boolean isOn) {
            if (slot < 0 || slot >= Shapes.ROOM || isMarked[slot] == isOn) {
                return;
            }
            isMarked[slot] = isOn;
            size += isOn ? 1 : -1;
        }

        void forgetAll() {
            for (int slot = 0; slot < Shapes.ROOM; slot++) {
                mark(slot, false);
            }
        }

        void forgetRemoved() {
            for (int slot = 0; slot < Shapes.ROOM; slot++) {
                if (shapes.numberOf(slot) < 0) {
                    mark(slot, false);
                }
            }
        }

        /** Lays out the selected shapes in the order in which they stand. */
        private void gather() {
            int found = 0;
            for (int position = 0; position < shapes.size() && found < row.length; position++) {
                if (has(shapes.slotAt(position))) {
                    row[found] = shapes.slotAt(position);
                    found++;
                }
            }
        }

        boolean isOneOrder() {
            gather();
            for (int i = 1; i < size; i++) {
                if (!shapes.standsWith(row[i], row[0])) {
                    return false;
                }
            }
            return true;
        }

        boolean hasLocked() {
            gather();
            for (int i = 0; i < size; i++) {
                if (shapes.isLocked(row[i])) {
                    return true;
                }
            }
            return false;
        }

        /** Whether a new group round the selected shapes would make a chain of too many groups. */
        boolean isTooDeepToGroup() {
            gather();
            for (int i = 0; i < size; i++) {
                if (shapes.groupsAbove(row[i]) + 1 > Shapes.MOST_NESTED || isTooDeepInside(row[i])) {
                    return true;
                }
            }
            return false;
        }

        private boolean isTooDeepInside(int slot) {
            int position = shapes.positionOf(slot);
            int end = shapes.endOfBlock(position);
            for (int at = position; at < end; at++) {
                int inner = shapes.slotAt(at);
                if (shapes.isGroup(inner) && shapes.groupsAbove(inner) + 2 > Shapes.MOST_NESTED) {
                    return true;
                }
            }
            return false;
        }

        int makeGroup() {
            gather();
            int highest = size > 0 ? row[size - 1] : -1;
            int group = shapes.create(shapes.homeOf(highest), Shapes.GROUP);
            shapes.join(group, shapes.groupOf(highest));
            shapes.moveTo(group, shapes.placeOf(highest) + 1);
            for (int i = 0; i < size; i++) {
                shapes.join(row[i], group);
                shapes.moveTo(row[i], i);
            }
            forgetAll();
            mark(group, true);
            return group;
        }

        int dissolve(int group) {
            forgetAll();
            for (int position = 0; position < shapes.size(); position++) {
                int slot = shapes.slotAt(position);
                if (shapes.groupOf(slot) == group) {
                    mark(slot, true);
                }
            }
            gather();
            for (int i = 0; i < size; i++) {
                shapes.join(row[i], shapes.groupOf(group));
            }
            deck.dropAlone(group);
            return size;
        }

        /** Whether the selected shapes have one home, none is locked inside and none holds another one. */
        boolean canMove() {
            gather();
            for (int i = 0; i < size; i++) {
                if (shapes.homeOf(row[i]) != shapes.homeOf(row[0]) || shapes.isLockedInside(row[i])) {
                    return false;
                }
                for (int j = 0; j < size; j++) {
                    if (i != j && shapes.isWithin(row[i], row[j])) {
                        return false;
                    }
                }
            }
            return true;
        }

        void measure(int axis) {
            gather();
            for (int i = 0; i < size; i++) {
                low[i] = deck.lowEdge(shapes.homeOf(row[i]), row[i], axis);
                high[i] = deck.highEdge(shapes.homeOf(row[i]), row[i], axis);
                way[i] = 0;
            }
        }

        void planAlignment(int edge) {
            int least = Integer.MAX_VALUE;
            int most = Integer.MIN_VALUE;
            for (int i = 0; i < size; i++) {
                least = Math.min(least, low[i]);
                most = Math.max(most, high[i]);
            }
            for (int i = 0; i < size; i++) {
                if (edge == MIDST) {
                    way[i] = least + (most - least) / 2 - (low[i] + (high[i] - low[i]) / 2);
                } else {
                    way[i] = edge == 0 ? least - low[i] : most - high[i];
                }
            }
        }

        int planSpreading() {
            sortByLow();
            int last = size - 1;
            if (last < 1) {
                return 0;
            }
            int free = low[last] - high[0];
            for (int i = 1; i < last; i++) {
                free -= high[i] - low[i];
            }
            int space = free / last;
            int at = high[0];
            for (int i = 1; i < last; i++) {
                way[i] = at + space - low[i];
                at += space + high[i] - low[i];
            }
            return space;
        }

        private void sortByLow() {
            for (int i = 1; i < size; i++) {
                for (int j = i; j > 0 && isAhead(j, j - 1); j--) {
                    swap(row, j);
                    swap(low, j);
                    swap(high, j);
                }
            }
        }

        private boolean isAhead(int i, int j) {
            return low[i] != low[j] ? low[i] < low[j] : shapes.numberOf(row[i]) < shapes.numberOf(row[j]);
        }

        private static void swap(int[] numbers, int at) {
            if (at < 1 || at >= numbers.length) {
                return;
            }
            int kept = numbers[at];
            numbers[at] = numbers[at - 1];
            numbers[at - 1] = kept;
        }

        boolean isPlanInRange(int axis) {
            for (int i = 0; i < size; i++) {
                int position = shapes.positionOf(row[i]);
                int end = shapes.endOfBlock(position);
                for (int at = position; at < end; at++) {
                    int leaf = shapes.slotAt(at);
                    if (!shapes.isGroup(leaf) && !Shapes.isInRange(axis, shapes.own(leaf, axis) + way[i])) {
                        return false;
                    }
                }
            }
            return true;
        }

        int moveAll(int axis) {
            int moved = 0;
            for (int i = 0; i < size; i++) {
                if (way[i] != 0) {
                    moveOne(row[i], axis, way[i]);
                    moved++;
                }
            }
            return moved;
        }

        private void moveOne(int slot, int axis, int by) {
            int position = shapes.positionOf(slot);
            int end = shapes.endOfBlock(position);
            for (int at = position; at < end; at++) {
                int leaf = shapes.slotAt(at);
                if (!shapes.isGroup(leaf)) {
                    shapes.give(leaf, axis, shapes.own(leaf, axis) + by);
                }
            }
        }
    }

    /** The tree of states, each with the deck as it was in it. */
    private static final class History {
        static final int ROOM = 120;

        private final int[] parents = new int[ROOM];
        private final int[] latest = new int[ROOM];
        private final int[] children = new int[ROOM];
        private final int[] depths = new int[ROOM];
        private final int[][] rows = new int[ROOM][];
        private int size;
        private int present;

        void begin(int[] row) {
            rows[0] = row;
            parents[0] = -1;
            latest[0] = -1;
            size = 1;
        }

        int present() {
            return present;
        }

        int size() {
            return size;
        }

        boolean isFull() {
            return size >= ROOM;
        }

        boolean has(int state) {
            return state >= 0 && state < size;
        }

        int[] presentRow() {
            return rows[present];
        }

        int parentOf(int state) {
            return has(state) ? parents[state] : -1;
        }

        int latestOf(int state) {
            return has(state) ? latest[state] : -1;
        }

        int childrenOf(int state) {
            return has(state) ? children[state] : 0;
        }

        int depthOf(int state) {
            return has(state) ? depths[state] : 0;
        }

        void append(int[] row) {
            if (isFull()) {
                return;
            }
            int made = size;
            size++;
            rows[made] = row;
            parents[made] = present;
            latest[made] = -1;
            depths[made] = depths[present] + 1;
            children[present]++;
            enter(made);
        }

        /** All states above the new present one have it below their latest child from now on. */
        void enter(int state) {
            if (!has(state)) {
                return;
            }
            present = state;
            int at = state;
            for (int left = ROOM; left > 0 && parents[at] >= 0; left--) {
                latest[parents[at]] = at;
                at = parents[at];
            }
        }

        int distance(int from, int to) {
            int a = from;
            int b = to;
            int way = 0;
            for (int left = 2 * ROOM; left > 0 && a != b; left--) {
                if (depthOf(a) >= depthOf(b)) {
                    a = parentOf(a);
                } else {
                    b = parentOf(b);
                }
                way++;
            }
            return way;
        }
    }

    /** The bytes that were fed, 0 to 255 each. */
    private static final class Tape {
        static final int ROOM = 600;

        private final int[] bytes = new int[ROOM];
        private int size;

        int size() {
            return size;
        }

        int byteAt(int index) {
            return index < 0 || index >= size ? -1 : bytes[index];
        }

        void append(int one) {
            if (size < ROOM) {
                bytes[size] = one;
                size++;
            }
        }

        void cutTo(int n) {
            if (n >= 0 && n <= size) {
                size = n;
            }
        }

        boolean isText() {
            for (int i = 0; i < size; i++) {
                if (bytes[i] < ' ' || bytes[i] > '~') {
                    return false;
                }
            }
            return size <= Texts.MOST_BYTES;
        }
    }

    /** The tokens of scripts; those without a text are read in ways of their own. */
    private enum Sign {
        END(""), BAD(""), NUMBER(""), VARIABLE(""),
        PX("px", 0), PY("py", 1), PW("pw", 2), PH("ph", 3), PC("pc", 4), PS("ps", 5), PM("pm", 6),
        LET("let"), SHEET("sheet"), PICK("pick"), SET("set"), SHIFT("shift"), BOX("box"), TEXT("text"),
        LINE("line"), COPY("copy"), DROP("drop"), FRONT("front"), BACK("back"), REPEAT("repeat"), IF("if"),
        ELSE("else"), OR("or"), AND("and"), NOT("not"), MIN("min"), MAX("max"), ABS("abs"),
        KIND("kind"), RANK("rank"), MANY("many"), HERE("here"), SLIDES("slides"),
        SEMICOLON(";"), COMMA(","), EQUAL("="), PLUS("+"), MINUS("-"), TIMES("*"), OVER("/"), REST("%"),
        LESS("<"), MORE(">"), AT_MOST("<="), AT_LEAST(">="), UNEQUAL("<>"),
        OPEN("("), CLOSE(")"), BEGIN("{"), FINISH("}");

        private final String text;
        private final int valueMeant;

        Sign(String text) {
            this(text, -1);
        }

        Sign(String text, int valueMeant) {
            this.text = text;
            this.valueMeant = valueMeant;
        }

        /** The value that is meant by px to pm, -1 for all other signs. */
        int valueMeant() {
            return valueMeant;
        }
    }

    /** A tape as a row of tokens, with END behind the last one. */
    private static final class Tokens {
        private static final Sign[] SIGNS = Sign.values();
        private static final int MOST_LETTERS = 6;
        private static final int MOST_DIGITS = 6;

        private final Sign[] signs = new Sign[Tape.ROOM + 1];
        private final int[] starts = new int[Tape.ROOM + 1];
        private final int[] numbers = new int[Tape.ROOM + 1];
        private int size;

        Sign signAt(int index) {
            return index < 0 || index >= size ? Sign.END : signs[index];
        }

        int startOf(int index) {
            return index < 0 || index >= size ? 0 : starts[index];
        }

        int numberAt(int index) {
            return index < 0 || index >= size ? 0 : numbers[index];
        }

        void read(Tape tape) {
            size = 0;
            int at = 0;
            for (int left = Tape.ROOM; left > 0 && at < tape.size(); left--) {
                int one = tape.byteAt(at);
                if (one == ' ' || one == '\n') {
                    at++;
                } else if (isLetter(one)) {
                    at = readWord(tape, at);
                } else if (isDigit(one)) {
                    at = readNumber(tape, at);
                } else {
                    at = readSymbol(tape, at);
                }
            }
            note(Sign.END, tape.size(), 0);
        }

        private void note(Sign sign, int start, int number) {
            if (size < signs.length) {
                signs[size] = sign;
                starts[size] = start;
                numbers[size] = number;
                size++;
            }
        }

        private static boolean isLetter(int one) {
            return one >= 'a' && one <= 'z';
        }

        private static boolean isDigit(int one) {
            return one >= '0' && one <= '9';
        }

        private int readWord(Tape tape, int start) {
            int end = start;
            while (end < tape.size() && isLetter(tape.byteAt(end))) {
                end++;
            }
            int length = end - start;
            if (length == 1) {
                note(Sign.VARIABLE, start, tape.byteAt(start) - 'a');
            } else {
                note(length > MOST_LETTERS ? Sign.BAD : wordOf(tape, start, length), start, 0);
            }
            return end;
        }

        private static Sign wordOf(Tape tape, int start, int length) {
            for (int i = 0; i < SIGNS.length; i++) {
                if (SIGNS[i].text.length() == length && stands(SIGNS[i].text, tape, start)) {
                    return SIGNS[i];
                }
            }
            return Sign.BAD;
        }

        private static boolean stands(String text, Tape tape, int start) {
            for (int i = 0; i < text.length(); i++) {
                if (tape.byteAt(start + i) != text.charAt(i)) {
                    return false;
                }
            }
            return true;
        }

        private int readNumber(Tape tape, int start) {
            int end = start;
            int number = 0;
            while (end < tape.size() && isDigit(tape.byteAt(end))) {
                if (end - start < MOST_DIGITS) {
                    number = number * 10 + tape.byteAt(end) - '0';
                }
                end++;
            }
            note(end - start > MOST_DIGITS ? Sign.BAD : Sign.NUMBER, start, number);
            return end;
        }

        private int readSymbol(Tape tape, int start) {
            Sign longest = Sign.BAD;
            for (int i = 0; i < SIGNS.length; i++) {
                int length = SIGNS[i].text.length();
                if (length > longest.text.length() && stands(SIGNS[i].text, tape, start)) {
                    longest = SIGNS[i];
                }
            }
            note(longest, start, 0);
            return start + Math.max(1, longest.text.length());
        }
    }

    /**
     * Runs scripts. Every part of the grammar has one method, which reads its tokens and, if it is called
     * live, does what they say; called dead it reads alone. A first dead pass over all finds error 1.
     */
    private static final class Script {
        private static final int STEPS = 500;
        private static final int MOST_DEEP = 10;
        private static final int LETTERS = 26;
        private static final int WRONG_TOKEN = 1;
        private static final int BY_ZERO = 2;
        private static final int NO_SHAPE = 3;
        private static final int OUT_OF_RANGE = 4;
        private static final int LOCKED = 5;
        private static final int TOO_LONG = 6;

        private final Deck deck;
        private final Sheets sheets;
        private final Shapes shapes;
        private final Tokens tokens = new Tokens();
        private final long[] variables = new long[LETTERS];
        private final int[] picked = new int[Shapes.ROOM];
        private final int[] found = new int[Shapes.ROOM];
        private int many;
        private int sheet;
        /** The shape at hand within pick, set and shift, -1 elsewhere. */
        private int hand = -1;
        private int rank;
        private int now;
        private int depth;
        private int begun;
        private int steps;
        private int error;
        private int errorAt = -1;

        Script(Deck deck, Sheets sheets, Shapes shapes) {
            this.deck = deck;
            this.sheets = sheets;
            this.shapes = shapes;
        }

        int errorPlace() {
            return errorAt;
        }

        int stepsDone() {
            return steps;
        }

        /** Answers 0, or the error; behind an error the deck may be changed by half of the script. */
        int perform(Tape tape, int first) {
            tokens.read(tape);
            Arrays.fill(variables, 0);
            many = 0;
            sheet = first;
            steps = 0;
            error = 0;
            errorAt = -1;
            try {
                startAgain();
                statements(Sign.END, false);
                startAgain();
                statements(Sign.END, true);
            } catch (IllegalStateException stopped) {
                return error;
            }
            return 0;
        }

        private void startAgain() {
            now = 0;
            depth = 0;
            leaveHand();
        }

        private void statements(Sign end, boolean live) {
            for (int left = Tape.ROOM; left > 0 && !is(end); left--) {
                statement(live);
            }
        }

        private void fail(int code, int at) {
            error = code;
            errorAt = at;
            throw new IllegalStateException("the script has an error");
        }

        private boolean is(Sign sign) {
            return tokens.signAt(now) == sign;
        }

        private void need(Sign sign) {
            if (tokens.signAt(now) != sign) {
                fail(WRONG_TOKEN, tokens.startOf(now));
            }
            now++;
        }

        /** Reads a token that goes one level deeper; who calls this comes back by depth--. */
        private void needDeeper(Sign sign) {
            if (depth >= MOST_DEEP) {
                fail(WRONG_TOKEN, tokens.startOf(now));
            }
            need(sign);
            depth++;
        }

        private void step(int at) {
            if (steps >= STEPS) {
                fail(TOO_LONG, at);
            }
            steps++;
        }

        private void leaveHand() {
            hand = -1;
            rank = 0;
        }

        private void takeInHand(int slot, int place) {
            hand = slot;
            rank = place;
        }

        private void statement(boolean live) {
            int start = tokens.startOf(now);
            if (live) {
                step(start);
                begun = start;
            }
            Sign sign = tokens.signAt(now);
            now++;
            switch (sign) {
                case LET:
                    giveVariable(live);
                    break;
                case SHEET:
                    goToSheet(live);
                    break;
                case PICK:
                    pickShapes(live);
                    break;
                case SET:
                    setShapes(live);
                    break;
                case SHIFT:
                    shiftShapes(live);
                    break;
                case BOX:
                case TEXT:
                case LINE:
                    putShape(sign, live);
                    break;
                case COPY:
                    copyShapes(live);
                    break;
                case DROP:
                    dropShapes(live);
                    break;
                case FRONT:
                case BACK:
                    moveShapes(sign == Sign.FRONT, live);
                    break;
                case REPEAT:
                    repeatBlock(start, live);
                    break;
                case IF:
                    chooseBlock(live);
                    break;
                default:
                    fail(WRONG_TOKEN, start);
                    break;
            }
        }

        private void block(boolean live) {
            needDeeper(Sign.BEGIN);
            statements(Sign.FINISH, live);
            need(Sign.FINISH);
            depth--;
        }

        private void repeatBlock(int start, boolean live) {
            // One round more than there can be steps is as good as any greater number.
            long rounds = Math.min(expression(live), STEPS + 1);
            int first = now;
            for (int done = 0; live && done < rounds; done++) {
                step(start);
                now = first;
                block(true);
            }
            now = first;
            block(false);
        }

        private void chooseBlock(boolean live) {
            boolean holds = expression(live) != 0;
            block(live && holds);
            if (is(Sign.ELSE)) {
                now++;
                block(live && !holds);
            }
        }

        private void giveVariable(boolean live) {
            int letter = tokens.numberAt(now);
            need(Sign.VARIABLE);
            need(Sign.EQUAL);
            long value = expression(live);
            need(Sign.SEMICOLON);
            if (live && letter >= 0 && letter < LETTERS) {
                variables[letter] = value;
            }
        }

        private void goToSheet(boolean live) {
            long number = expression(live);
            need(Sign.SEMICOLON);
            if (!live) {
                return;
            }
            int slot = number < 0 || number > Integer.MAX_VALUE ? -1 : sheets.find((int) number);
            if (slot < 0) {
                fail(OUT_OF_RANGE, begun);
            }
            sheet = slot;
            many = 0;
        }

        private void pickShapes(boolean live) {
            int first = now;
            int size = 0;
            for (int position = 0; live && position < shapes.size(); position++) {
                int slot = shapes.slotAt(position);
                if (shapes.homeOf(slot) == sheet && !shapes.isGroup(slot)) {
                    takeInHand(slot, size);
                    now = first;
                    if (expression(true) != 0 && size < found.length) {
                        found[size] = slot;
                        size++;
                    }
                }
            }
            leaveHand();
            now = first;
            expression(false);
            need(Sign.SEMICOLON);
            if (live) {
                pickFound(size);
            }
        }

        private void pickFound(int size) {
            many = Math.max(0, Math.min(size, picked.length));
            System.arraycopy(found, 0, picked, 0, many);
        }

        private void setShapes(boolean live) {
            int what = tokens.signAt(now).valueMeant();
            if (what < 0) {
                fail(WRONG_TOKEN, tokens.startOf(now));
            }
            now++;
            need(Sign.EQUAL);
            int first = now;
            for (int i = 0; live && i < many; i++) {
                takeInHand(picked[i], i);
                now = first;
                long value = expression(true);
                if (what != Shapes.MARKS) {
                    failIfLocked(picked[i]);
                }
                giveValue(picked[i], what, value);
            }
            leaveHand();
            now = first;
            expression(false);
            need(Sign.SEMICOLON);
        }

        private void failIfLocked(int slot) {
            if (shapes.isLocked(slot)) {
                fail(LOCKED, begun);
            }
        }

        private void giveValue(int slot, int what, long value) {
            if (!Shapes.isInRange(what, value)) {
                fail(OUT_OF_RANGE, begun);
            }
            shapes.give(slot, what, (int) value);
        }

        private void shiftShapes(boolean live) {
            int first = now;
            for (int i = 0; live && i < many; i++) {
                takeInHand(picked[i], i);
                now = first;
                long across = expression(true);
                need(Sign.COMMA);
                long down = expression(true);
                failIfLocked(picked[i]);
                giveValue(picked[i], 0, shapes.own(picked[i], 0) + across);
                giveValue(picked[i], 1, shapes.own(picked[i], 1) + down);
            }
            leaveHand();
            now = first;
            expression(false);
            need(Sign.COMMA);
            expression(false);
            need(Sign.SEMICOLON);
        }

        private void putShape(Sign sign, boolean live) {
            long x = expression(live);
            need(Sign.COMMA);
            long y = expression(live);
            need(Sign.COMMA);
            long w = expression(live);
            need(Sign.COMMA);
            long h = expression(live);
            need(Sign.SEMICOLON);
            if (!live) {
                return;
            }
            if (!Shapes.isBox(x, y, w, h)) {
                fail(OUT_OF_RANGE, begun);
            }
            failIfNoRoom();
            int kind = sign == Sign.BOX ? Shapes.BOX : sign == Sign.TEXT ? Shapes.TEXT : Shapes.LINE;
            int slot = shapes.create(sheet, kind);
            shapes.giveBox(slot, (int) x, (int) y, (int) w, (int) h);
            picked[0] = slot;
            many = 1;
        }

        private void failIfNoRoom() {
            if (shapes.size() >= Shapes.ROOM) {
                fail(OUT_OF_RANGE, begun);
            }
        }

        private void copyShapes(boolean live) {
            need(Sign.SEMICOLON);
            for (int i = 0; live && i < many; i++) {
                failIfNoRoom();
                picked[i] = shapes.createLike(picked[i], sheet);
            }
        }

        private void dropShapes(boolean live) {
            need(Sign.SEMICOLON);
            if (!live) {
                return;
            }
            for (int i = 0; i < many; i++) {
                failIfLocked(picked[i]);
            }
            for (int i = 0; i < many; i++) {
                deck.dropShape(picked[i]);
            }
            many = 0;
        }

        private void moveShapes(boolean toFront, boolean live) {
            need(Sign.SEMICOLON);
            for (int i = 0; live && i < many; i++) {
                failIfLocked(picked[i]);
                shapes.moveTo(picked[i], toFront ? Shapes.ROOM : 0);
            }
        }

        private long expression(boolean live) {
            long left = both(live);
            for (int tokensLeft = Tape.ROOM; tokensLeft > 0 && is(Sign.OR); tokensLeft--) {
                now++;
                boolean isDecided = left != 0;
                long right = both(live && !isDecided);
                left = isDecided || right != 0 ? 1 : 0;
            }
            return left;
        }

        private long both(boolean live) {
            long left = relation(live);
            for (int tokensLeft = Tape.ROOM; tokensLeft > 0 && is(Sign.AND); tokensLeft--) {
                now++;
                boolean isOpen = left != 0;
                long right = relation(live && isOpen);
                left = isOpen && right != 0 ? 1 : 0;
            }
            return left;
        }

        private long relation(boolean live) {
            long left = sum(live);
            Sign sign = tokens.signAt(now);
            switch (sign) {
                case EQUAL:
                case UNEQUAL:
                case LESS:
                case MORE:
                case AT_MOST:
                case AT_LEAST:
                    now++;
                    return holds(left, sign, sum(live)) ? 1 : 0;
                default:
                    return left;
            }
        }

        private static boolean holds(long left, Sign sign, long right) {
            switch (sign) {
                case EQUAL:
                    return left == right;
                case UNEQUAL:
                    return left != right;
                case LESS:
                    return left < right;
                case MORE:
                    return left > right;
                case AT_MOST:
                    return left <= right;
                default:
                    return left >= right;
            }
        }

        private long sum(boolean live) {
            long left = product(live);
            for (int tokensLeft = Tape.ROOM; tokensLeft > 0 && (is(Sign.PLUS) || is(Sign.MINUS)); tokensLeft--) {
                boolean isPlus = is(Sign.PLUS);
                now++;
                long right = product(live);
                left = isPlus ? left + right : left - right;
            }
            return left;
        }

        private long product(boolean live) {
            long left = factor(live);
            for (int tokensLeft = Tape.ROOM; tokensLeft > 0 && isOfProduct(tokens.signAt(now)); tokensLeft--) {
                Sign sign = tokens.signAt(now);
                now++;
                long right = factor(live);
                if (sign == Sign.TIMES) {
                    left *= right;
                } else {
                    left = divided(left, right, sign == Sign.OVER, live);
                }
            }
            return left;
        }

        private static boolean isOfProduct(Sign sign) {
            return sign == Sign.TIMES || sign == Sign.OVER || sign == Sign.REST;
        }

        private long divided(long left, long right, boolean isOver, boolean live) {
            if (!live) {
                return 0;
            }
            if (right == 0) {
                fail(BY_ZERO, begun);
                return 0;
            }
            return isOver ? left / right : left % right;
        }

        private long factor(boolean live) {
            Sign sign = tokens.signAt(now);
            switch (sign) {
                case OPEN:
                    return inParentheses(live);
                case MINUS:
                    return -factorBehind(sign, live);
                case NOT:
                    return factorBehind(sign, live) == 0 ? 1 : 0;
                case MIN:
                case MAX:
                    return ofTwo(sign == Sign.MIN, live);
                case ABS:
                    now++;
                    return Math.abs(inParentheses(live));
                default:
                    return plainFactor(live);
            }
        }

        private long inParentheses(boolean live) {
            needDeeper(Sign.OPEN);
            long value = expression(live);
            need(Sign.CLOSE);
            depth--;
            return value;
        }

        private long factorBehind(Sign sign, boolean live) {
            needDeeper(sign);
            long value = factor(live);
            depth--;
            return value;
        }

        private long ofTwo(boolean isLeast, boolean live) {
            now++;
            needDeeper(Sign.OPEN);
            long first = expression(live);
            need(Sign.COMMA);
            long second = expression(live);
            need(Sign.CLOSE);
            depth--;
            return isLeast ? Math.min(first, second) : Math.max(first, second);
        }

        private long plainFactor(boolean live) {
            Sign sign = tokens.signAt(now);
            int number = tokens.numberAt(now);
            if (sign.valueMeant() >= 0) {
                now++;
                return live ? shapes.own(shapeAtHand(), sign.valueMeant()) : 0;
            }
            switch (sign) {
                case NUMBER:
                    now++;
                    return number;
                case VARIABLE:
                    now++;
                    return number >= 0 && number < LETTERS ? variables[number] : 0;
                case KIND:
                    now++;
                    return live ? shapes.kindOf(shapeAtHand()) : 0;
                case RANK:
                    now++;
                    return rank;
                case MANY:
                    now++;
                    return many;
                case HERE:
                    now++;
                    return sheets.numberOf(sheet);
                case SLIDES:
                    now++;
                    return sheets.slides();
                default:
                    fail(WRONG_TOKEN, tokens.startOf(now));
                    return 0;
            }
        }

        private int shapeAtHand() {
            if (hand >= 0) {
                return hand;
            }
            if (many == 0) {
                fail(NO_SHAPE, begun);
            }
            return picked[0];
        }
    }
}
