/** The boundary cases of what section 1 says of painting, and of promises 30 to 36. */
final class PaintingBoundsTest {
    private static final Bounds bounds = new Bounds();
    private static final Story NEW = new Story();
    private static final String[] NO_NUMBERS = {"-1", "99", "2147483647", "-2147483648"};

    public static void main(String[] arguments) {
        sheetsThatAreThere();
        placesOfPainting();
        nothingAndAHundredPainted();
        paintedFromEightMastersBelow();
        groupsAreNotPainted();
        hiddenByThreeGroups();
        hiddenAsSeenOnTheSheet();
        edgesOfAPoint();
        pointsFarAway();
        thePaintedLast();
        shapesThatAreSeen();
        areasFromNoneToAll();
        roomForOneByteAtLeast();
        roomIsCutTowardsZero();
        boldRoomIsCutTowardsZero();
        noWordsNoLines();
        wordsUpToTheRoom();
        longWordsFillLines();
        overfullByOne();
        overfullIsCutTowardsZero();
        overfullCountsThePainted();
        changedOfNone();
        bounds.end();
    }

    /** painted, paintedAt, top, common, lines, overfull, changed: "if there is no such sheet". */
    private static void sheetsThatAreThere() {
        Story story = NEW.then("addSlide 0 0", "addSlide 0 1", "removeSlide 1", "add 0 1 0 0 1 1");
        for (String none : new String[] {"1", "3", "-1", "99", "2147483647", "-2147483648"}) {
            bounds.noIndex(story, "painted " + none, "paintedAt " + none + " 0", "top " + none + " 0 0",
                    "common " + none + " 0 0", "lines " + none + " 0", "overfull " + none, "changed " + none);
        }
        for (int sheet = 0; sheet <= 2; sheet += 2) {
            bounds.answers(story, "painted " + sheet, "1", "paintedAt " + sheet + " 0", "0", "top " + sheet + " 0 0",
                    "0", "common " + sheet + " 0 0", "1", "lines " + sheet + " 0", "0", "overfull " + sheet, "0",
                    "changed " + sheet, "0.0");
        }
    }

    /** paintedAt: "if there is no such sheet or place". */
    private static void placesOfPainting() {
        Story story = NEW.then("addSlide 0 0", "add 0 0 0 0 1 1", "add 1 0 0 0 1 1", "add 0 0 0 0 1 1");
        bounds.answers(story, "painted 1", "3", "paintedAt 1 0", "0", "paintedAt 1 1", "2", "paintedAt 1 2", "1",
                "painted 0", "2", "paintedAt 0 1", "2");
        bounds.noIndex(story, "paintedAt 1 3", "paintedAt 0 2");
        for (String none : NO_NUMBERS) {
            bounds.noIndex(story, "paintedAt 0 " + none, "paintedAt 1 " + none);
        }
        bounds.answers(story.then("set 1 2 6 1"), "painted 1", "2", "paintedAt 1 1", "1", "paintedAt 0 1", "2");
        bounds.noIndex(story.then("set 1 2 6 1"), "paintedAt 1 2");
        bounds.noIndex(story.then("remove 1"), "paintedAt 1 2");
    }

    /** At most 100 shapes, all of one home or of many, and none. */
    private static void nothingAndAHundredPainted() {
        bounds.answers(NEW, "painted 0", "0", "overfull 0", "0", "top 0 0 0", "-1");
        bounds.noIndex(NEW, "paintedAt 0 0", "paintedAt 0 -1");
        Story hundred = NEW.ran(0, "repeat 100{box 1,1,1,1;}").then("addSlide 0 0");
        bounds.answers(hundred, "painted 0", "100", "paintedAt 0 0", "0", "paintedAt 0 99", "99", "painted 1", "100",
                "paintedAt 1 99", "99", "top 1 1 1", "99");
        bounds.noIndex(hundred, "paintedAt 0 100", "paintedAt 1 100");
        bounds.answers(hundred.ran(0, "pick 1;set pm=1;"), "painted 0", "0", "painted 1", "0", "top 0 1 1", "-1");
        bounds.noIndex(hundred.ran(0, "pick 1;set pm=1;"), "paintedAt 0 0");
    }

    /** "those that are seen on its base, and above them those whose home it is", 8 masters deep. */
    private static void paintedFromEightMastersBelow() {
        Story chain = NEW;
        for (int base = 0; base < 7; base++) {
            chain = chain.then("addMaster " + base);
        }
        chain = chain.then("addSlide 7 0");
        for (int sheet = 8; sheet >= 0; sheet--) {
            chain = chain.then("add " + sheet + " 0 0 0 9 9");
        }
        for (int place = 0; place < 9; place++) {
            bounds.answers(chain, "paintedAt 8 " + place, "" + (8 - place), "painted " + place, "" + (place + 1),
                    "top " + place + " 0 0", "" + (8 - place));
        }
        bounds.noIndex(chain, "paintedAt 8 9", "paintedAt 7 8");
        Story given = chain.then("set 0 8 0 1", "set 3 8 0 4", "set 6 8 0 7");
        int[] due = {1, 1, 1, 4, 4, 4, 7, 7, 7};
        for (int sheet = 0; sheet < 9; sheet++) {
            bounds.answers(given, "value " + sheet + " 8 0", "" + due[sheet]);
        }
        bounds.answers(given, "setBase 5 2", "0", "value 5 8 0", "1", "value 6 8 0", "7", "painted 8", "7");
    }

    /** "groups themselves are not painted": the members stand in their place, in their order. */
    private static void groupsAreNotPainted() {
        Story story = NEW.then("add 0 0 0 0 9 9", "add 0 0 0 0 9 9", "add 0 0 0 0 9 9", "select 0 1", "select 2 1",
                "group", "group", "group");
        bounds.answers(story, "painted 0", "3", "paintedAt 0 0", "1", "paintedAt 0 1", "0", "paintedAt 0 2", "2",
                "top 0 0 0", "2", "arrange 5 0", "1", "paintedAt 0 0", "0", "paintedAt 0 2", "1", "top 0 0 0", "1");
        bounds.noIndex(story, "paintedAt 0 3");
    }

    /** "nor hidden shapes, nor members of hidden groups (nor members of groups within)". */
    private static void hiddenByThreeGroups() {
        Story story = NEW.then("add 0 0 0 0 9 9", "add 0 0 0 0 9 9", "select 0 1", "group", "group", "group");
        for (int hidden : new int[] {0, 2, 3, 4}) {
            for (int marks = 0; marks < 8; marks++) {
                bounds.answers(story.then("set 0 " + hidden + " 6 " + marks), "painted 0", marks % 2 == 1 ? "1" : "2",
                        "paintedAt 0 0", marks % 2 == 1 ? "1" : "0");
            }
        }
        bounds.answers(story.then("set 0 1 6 1", "set 0 4 6 1"), "painted 0", "0", "top 0 0 0", "-1");
    }

    /** A mark is one as seen on the sheet: an override can hide, and show. */
    private static void hiddenAsSeenOnTheSheet() {
        Story story = NEW.then("addMaster 0", "addSlide 1 0", "add 0 0 0 0 9 9", "add 0 0 0 0 9 9", "select 0 1",
                "group", "group", "group");
        for (int hidden : new int[] {0, 2, 3, 4}) {
            Story one = story.then("set 1 " + hidden + " 6 1");
            bounds.answers(one, "painted 0", "2", "painted 1", "1", "painted 2", "1", "paintedAt 2 0", "1");
            bounds.answers(one.then("set 2 " + hidden + " 6 6"), "painted 0", "2", "painted 1", "1", "painted 2",
                    "2");
            bounds.answers(one.then("setBase 2 0"), "painted 2", "2");
        }
    }

    /** "A shape covers the points (px, py) with x <= px < x + w and y <= py < y + h." */
    private static void edgesOfAPoint() {
        int[][] boxes = {{0, 0, 1, 1}, {-2000, -2000, 1, 2000}, {2000, 2000, 2000, 2000}, {-5, 7, 11, 3}};
        for (int[] box : boxes) {
            int right = box[0] + box[2];
            int low = box[1] + box[3];
            Story story = NEW.then("add 0 2 " + box[0] + " " + box[1] + " " + box[2] + " " + box[3]);
            bounds.answers(story, top(box[0], box[1]), "0", top(right - 1, low - 1), "0", top(right - 1, box[1]), "0",
                    top(box[0], low - 1), "0");
            bounds.answers(story, top(box[0] - 1, box[1]), "-1", top(box[0], box[1] - 1), "-1", top(right, box[1]),
                    "-1", top(box[0], low), "-1", top(right, low), "-1", top(right, low - 1), "-1",
                    top(right - 1, low), "-1");
        }
    }

    private static String top(int px, int py) {
        return "top 0 " + px + " " + py;
    }

    /** All points are allowed. */
    private static void pointsFarAway() {
        Story story = NEW.then("add 0 0 -2000 -2000 2000 2000", "add 0 0 2000 2000 2000 2000");
        bounds.answers(story, top(Integer.MAX_VALUE, 0), "-1", top(Integer.MIN_VALUE, 0), "-1",
                top(-1, Integer.MAX_VALUE), "-1", top(2000, Integer.MIN_VALUE), "-1",
                top(Integer.MIN_VALUE, Integer.MIN_VALUE), "-1", top(Integer.MAX_VALUE, Integer.MAX_VALUE), "-1",
                top(3999, 3999), "1", top(-2000, -2000), "0", top(4000, 3999), "-1");
    }

    /** "the shape that is painted last of those that cover the point; -1 if there is none". */
    private static void thePaintedLast() {
        Story story = NEW.then("addSlide 0 0", "add 1 0 0 0 5 5", "add 0 0 0 0 9 9", "add 0 0 0 0 9 9");
        bounds.answers(story, "top 1 4 4", "0", "top 1 5 5", "2", "top 0 4 4", "2", "top 1 9 9", "-1");
        bounds.answers(story.then("set 1 2 6 1"), "top 1 5 5", "1", "top 0 5 5", "2", "arrange 2 0", "1",
                "top 0 5 5", "1");
        bounds.answers(story.then("set 1 2 0 2000"), "top 1 2000 0", "2", "top 1 5 5", "1", "top 0 5 5", "2");
    }

    /** common, lines: "or a shape is not seen on it". */
    private static void shapesThatAreSeen() {
        Story story = NEW.then("addSlide 0 0", "addSlide 0 1", "add 0 1 0 0 9 9", "add 1 1 0 0 9 9");
        bounds.answers(story, "common 1 0 1", "81", "common 1 1 0", "81", "common 0 0 0", "81", "lines 1 1", "0");
        bounds.noIndex(story, "common 0 0 1", "common 0 1 0", "common 2 1 1", "common 2 0 1", "lines 0 1",
                "lines 2 1",
                "common 1 0 2", "common 1 2 0", "lines 0 2");
        for (String none : NO_NUMBERS) {
            bounds.noIndex(story, "common 0 0 " + none, "common 0 " + none + " 0", "lines 0 " + none);
        }
        bounds.noIndex(story.then("remove 0"), "common 1 0 1", "common 1 1 0", "lines 0 0");
    }

    private static void area(String first, String second, int due) {
        Story story = NEW.then("add 0 0 " + first, "add 0 2 " + second);
        bounds.answers(story, "common 0 0 1", "" + due, "common 0 1 0", "" + due);
        Story grouped = story.then("select 0 1", "group", "select 2 0", "select 1 1", "group", "set 0 3 6 1");
        bounds.answers(grouped, "common 0 2 3", "" + due, "common 0 3 0", "" + due, "common 0 1 2", "" + due);
    }

    /** "the area that their boxes as seen on the sheet have in common": none where edges touch. */
    private static void areasFromNoneToAll() {
        area("0 0 10 10", "10 0 10 10", 0);
        area("0 0 10 10", "0 10 10 10", 0);
        area("0 0 10 10", "10 10 10 10", 0);
        area("0 0 10 10", "9 0 10 10", 10);
        area("0 0 10 10", "9 9 10 10", 1);
        area("0 0 10 10", "-9 -9 10 10", 1);
        area("0 0 10 10", "-10 -9 10 10", 0);
        area("0 0 10 10", "3 4 2 5", 10);
        area("-2000 -2000 1 1", "2000 2000 2000 2000", 0);
        area("2000 2000 2000 2000", "2000 2000 2000 2000", 4000000);
        area("-2000 2000 2000 1", "-2000 2000 1 2000", 1);
        Story all = NEW.then("add 0 0 -2000 -2000 1 1", "add 0 0 2000 2000 2000 2000", "select 0 1", "select 1 1",
                "group");
        bounds.answers(all, "common 0 2 2", "36000000", "common 0 2 1", "4000000", "common 0 0 2", "1");
    }

    private static Story text(int width, int letters, int marks, String text) {
        return NEW.then("add 0 1 0 0 " + width + " 10", "set 0 0 5 " + letters).wrote(0, 0, text)
                .then("set 0 0 6 " + marks);
    }

    private static void lines(int width, int letters, int marks, String text, int due) {
        bounds.answers(text(width, letters, marks, text), "lines 0 0", "" + due);
    }

    /** "but at least 1". */
    private static void roomForOneByteAtLeast() {
        lines(1, 100, 0, "abcdefghijklmnopqrstuvwxyzabcdefghijklmn", 40);
        lines(1, 100, 2, "ab cd", 4);
        lines(49, 100, 0, "abc", 3);
        lines(50, 100, 0, "abc", 3);
        lines(99, 100, 0, "abc", 3);
        lines(100, 100, 0, "abc", 2);
        lines(66, 100, 2, "abc", 3);
        lines(133, 100, 2, "abc", 3);
        lines(134, 100, 2, "abc", 2);
        lines(1, 4, 0, "ab", 2);
        lines(2000, 4, 0, "abcdefghijklmnopqrstuvwxyzabcdefghijklmn", 1);
        lines(2000, 4, 2, "a b c d e f g h i j k l m n o p q r s t ", 1);
        lines(2000, 100, 0, "abcdefghijklmnopqrstuvwxyzabcdefghijklmn", 1);
        lines(1999, 100, 0, "abcdefghijklmnopqrstuvwxyzabcdefghijklmn", 2);
    }

    /** "twice its w, divided by the size of its letters": cut towards 0, so 10 to 11 bytes here. */
    private static void roomIsCutTowardsZero() {
        lines(100, 20, 0, "aaaaaaaaaa", 1);
        lines(109, 20, 0, "aaaaaaaaaaa", 2);
        lines(110, 20, 0, "aaaaaaaaaaa", 1);
        lines(99, 20, 0, "aaaaaaaaaa", 2);
        lines(33, 7, 0, "aaaaaaaaa", 1);
        lines(31, 7, 0, "aaaaaaaaa", 2);
    }

    /** "or 3 times w, divided by 2 * size, if it is bold". */
    private static void boldRoomIsCutTowardsZero() {
        lines(100, 15, 2, "aaaaaaaaaa", 1);
        lines(99, 15, 2, "aaaaaaaaaa", 2);
        lines(100, 15, 6, "aaaaaaaaaaa", 2);
        lines(100, 15, 3, "aaaaaaaaaa", 1);
        lines(100, 15, 4, "aaaaaaaaaaaaa", 1);
        lines(100, 15, 1, "aaaaaaaaaaaaaa", 2);
        lines(100, 15, 1, "aaaaaaaaaaaaa", 1);
        lines(100, 15, 5, "aaaaaaaaaaaaa", 1);
        lines(100, 15, 7, "aaaaaaaaaaa", 2);
        lines(15, 7, 2, "aaa", 1);
        lines(15, 7, 2, "aaaa", 2);
    }

    /** "0 if there are no words"; a shape without a text has none. */
    private static void noWordsNoLines() {
        lines(100, 20, 0, "", 0);
        lines(100, 20, 0, " ", 0);
        lines(1, 100, 2, " ".repeat(40), 0);
        lines(100, 20, 0, " ".repeat(39) + "a", 1);
        lines(100, 20, 0, "a" + " ".repeat(39), 1);
        Story others = NEW.then("add 0 0 0 0 9 9", "add 0 2 0 0 9 9", "select 0 1", "group");
        bounds.answers(others, "lines 0 0", "0", "lines 0 1", "0", "lines 0 2", "0");
    }

    /** "with one blank between, as long as there is room for them; otherwise a word begins the next line". */
    private static void wordsUpToTheRoom() {
        lines(100, 20, 0, "aaaaa bbbb", 1);
        lines(100, 20, 0, "aaaaa bbbbb", 2);
        lines(100, 20, 0, "aaaaa    bbbb   ", 1);
        lines(100, 20, 0, "   aaaaa    bbbbb", 2);
        lines(100, 20, 0, "aaaaaaaa b", 1);
        lines(100, 20, 0, "aaaaaaaaa b", 2);
        lines(100, 20, 0, "aaaaaaaaaa b", 2);
        lines(100, 20, 0, "aa bb cc d", 1);
        lines(100, 20, 0, "aa bb cc dd", 2);
        lines(20, 20, 0, "a b c d", 4);
        lines(30, 20, 0, "a b c d", 2);
        lines(10, 20, 0, "a b c d", 4);
    }

    /** "fills lines of its own, n bytes each, and what is left of it begins the next one". */
    private static void longWordsFillLines() {
        lines(100, 20, 0, "aaaaaaaaaa", 1);
        lines(100, 20, 0, "aaaaaaaaaaa", 2);
        lines(100, 20, 0, "b aaaaaaaaaaa", 3);
        lines(100, 20, 0, "aaaaaaaaaaa bbbbbbbb", 2);
        lines(100, 20, 0, "aaaaaaaaaaa bbbbbbbbb", 3);
        lines(100, 20, 0, "aaaaaaaaaaaaaaaaaaaa", 2);
        lines(100, 20, 0, "aaaaaaaaaaaaaaaaaaaa b", 3);
        lines(100, 20, 0, "aaaaaaaaaaaaaaaaaaaaa b", 3);
        lines(100, 20, 0, "aaaaaaaaaaaa bbbbbbbbbbbb", 4);
        lines(100, 20, 0, "aaaaaaaaaaaaaaaaaaaaaaaaaaaaaaaaaaaaaaaa", 4);
        lines(10, 20, 0, "aaa bb", 5);
    }

    /** "and whose lines, times their size, times 6, divided by 5, are more than their h". */
    private static void overfullByOne() {
        Story two = text(100, 20, 0, "aaaaaa bbbbbb");
        bounds.answers(two.then("set 0 0 3 48"), "overfull 0", "0", "set 0 0 3 47", "48", "overfull 0", "1",
                "set 0 0 3 49", "47", "overfull 0", "0");
        Story one = text(2000, 100, 0, "a");
        bounds.answers(one.then("set 0 0 3 120"), "overfull 0", "0", "set 0 0 3 119", "120", "overfull 0", "1");
        Story most = text(1, 100, 0, "abcdefghijklmnopqrstuvwxyzabcdefghijklmn");
        bounds.answers(most.then("set 0 0 3 2000"), "overfull 0", "1");
        bounds.answers(text(100, 20, 0, "").then("set 0 0 3 1"), "overfull 0", "0");
        bounds.answers(text(100, 20, 0, "  ").then("set 0 0 3 1"), "overfull 0", "0");
    }

    /** "divided by 5": cut towards 0. */
    private static void overfullIsCutTowardsZero() {
        bounds.answers(text(2000, 4, 0, "a").then("set 0 0 3 4"), "overfull 0", "0", "set 0 0 3 3", "4",
                "overfull 0", "1");
        bounds.answers(text(2000, 21, 0, "a").then("set 0 0 3 25"), "overfull 0", "0", "set 0 0 3 24", "25",
                "overfull 0", "1");
        bounds.answers(text(10, 7, 0, "aaa bb").then("set 0 0 3 25"), "lines 0 0", "3", "overfull 0", "0",
                "set 0 0 3 24", "25", "overfull 0", "1");
    }

    /** "the number of TEXTs that are painted on it": none, and one hundred. */
    private static void overfullCountsThePainted() {
        Story all = NEW.then("addSlide 0 0", "add 0 1 0 0 1 1").wrote(0, 0, "ab").ran(0, "pick 1;repeat 99{copy;}");
        bounds.answers(all, "count 2", "100", "overfull 0", "100", "overfull 1", "100", "set 1 99 6 1", "0",
                "overfull 1", "99", "overfull 0", "100");
        Story grouped = NEW.then("addSlide 0 0", "add 0 1 0 0 1 1").wrote(0, 0, "ab").then("select 0 1", "group",
                "group");
        bounds.answers(grouped, "overfull 0", "1", "set 1 2 6 1", "0", "overfull 1", "0", "overfull 0", "1");
        bounds.answers(NEW.then("add 0 0 0 0 1 1", "add 0 2 0 0 1 1"), "overfull 0", "0");
    }

    /** changed: "0 if there are none of these", and what is left of whole numbers is not cut. */
    private static void changedOfNone() {
        Story story = NEW.then("addSlide 0 0", "add 1 0 0 0 1 1");
        bounds.answers(story, "changed 0", "0.0", "changed 1", "0.0");
        Story one = story.then("add 0 1 0 0 1 1");
        bounds.answers(one, "changed 1", "0.0", "set 1 1 0 0", "0", "changed 1", "1.0", "write 1 1", "0", "changed 1",
                "2.0", "changed 0", "0.0");
        bounds.answers(one.then("set 1 1 0 0", "remove 1"), "changed 1", "0.0");
        bounds.answers(one.then("add 0 0 0 0 1 1", "add 0 0 0 0 1 1", "set 1 1 0 0"), "changed 1", "" + 1.0 / 3,
                "set 1 2 0 0", "0", "changed 1", "" + 2.0 / 3);
        Story all = NEW.then("addSlide 0 0").ran(0, "repeat 100{box 1,1,1,1;}");
        bounds.answers(all, "changed 1", "0.0", "set 1 99 6 7", "0", "changed 1", "0.01");
    }
}
