/** The boundary cases of section 2 and of promises 37 to 42: the 120 states, and the ways between them. */
final class StateBoundsTest {
    private static final Bounds bounds = new Bounds();
    private static final Story NEW = new Story();
    /** A master 1, a slide 2, the shapes 0 and 1, a group 3 round 2, an override, and three that are selected. */
    private static final Story DECK = NEW.then("addMaster 0", "addSlide 0 0", "add 0 0 0 0 10 10",
            "add 0 1 20 20 10 10", "add 0 0 40 40 10 10", "select 2 1", "group", "set 2 1 0 5", "select 0 1",
                    "select 1 1")
            .fed(" ");
    /** Each edit, with what it answers there. */
    private static final String[] EDITS = {
        "addMaster 0", "3", "addSlide 0 1", "3", "duplicate 2", "3", "removeSlide 2", "0", "moveSlide 2 0", "0",
        "setBase 2 1", "0", "setShade 1 7 255", "-1", "add 2 2 0 0 1 1", "4", "remove 0", "1", "set 0 0 0 3", "0",
        "set 2 0 6 1", "0", "write 0 1", "1", "write 2 1", "1", "clear 2 1 0", "0", "group", "4", "ungroup 3", "1",
        "arrange 0 2", "0", "align 1", "2", "spread 0", "10", "run 0", "0"};
    /** Edits that leave the deck as it was. */
    private static final String[] IDLE = {
        "moveSlide 2 0", "0", "setBase 2 0", "0", "setBase 1 0", "0", "setShade 0 0 -1", "-1", "set 0 0 0 0", "0",
        "set 0 3 6 0", "0", "set 2 1 0 5", "5", "arrange 0 0", "0", "arrange 2 0", "0", "spread 0", "10", "run 0",
                "0"};

    public static void main(String[] arguments) {
        theLastStateOfEachEdit();
        noStateBehindTheLast();
        noStateBehindTheLastFromAnother();
        refusedBehindAllOtherReasons();
        whatLeavesAllAsItWas();
        whatIsNoEdit();
        noEditBehind120();
        numbersOfStates();
        toldOfStates();
        toldOfAChainAndAFan();
        undoToTheBeginning();
        redoToTheEnd();
        goToWhatIsThere();
        waysBetweenStates();
        latestChildren();
        theDeckAsItWas();
        numbersThatComeNext();
        bounds.end();
    }

    /** "there are at most 120": each edit can make the last one of them. */
    private static void theLastStateOfEachEdit() {
        Story story = DECK.withStates(119);
        for (int i = 0; i < EDITS.length; i += 2) {
            bounds.answers(story, EDITS[i], EDITS[i + 1], "states", "120", "state", "119", "told 119 0", "118",
                    "told 119 3", "119", "told 118 2", "119", "undo", "118");
        }
        for (int i = 0; i < IDLE.length; i += 2) {
            bounds.answers(story, IDLE[i], IDLE[i + 1], "states", "120", "state", "119");
        }
    }

    /** "An edit is refused with an IllegalStateException ... if there are 120 states." */
    private static void noStateBehindTheLast() {
        Story story = DECK.withStates(120);
        for (int i = 0; i < EDITS.length; i += 2) {
            bounds.badState(story, EDITS[i]);
        }
        for (int i = 0; i < IDLE.length; i += 2) {
            bounds.badState(story, IDLE[i]);
        }
        bounds.badState(story.fed("?"), "run 0");
        bounds.badState(story.fed("let a=1/0;"), "run 2");
    }

    /** They count wherever one is, also at state 0. */
    private static void noStateBehindTheLastFromAnother() {
        Story story = DECK.withStates(120).then("go 7", "select 0 1", "select 1 1", "select 3 1");
        for (int i = 0; i < EDITS.length; i += 2) {
            bounds.badState(story, EDITS[i]);
        }
        bounds.badState(NEW.withStates(120).then("go 0"), "setShade 0 0 0", "addMaster 0", "run 0",
                "add 0 0 0 0 1 1");
        bounds.badState(NEW.withStates(60).then("go 0").times(60, "setShade 0 0 0"), "addMaster 0");
        bounds.answers(NEW.withStates(60).then("go 0").times(59, "setShade 0 0 0"), "addMaster 0", "1", "states",
                "120");
    }

    /** "behind all other reasons": those that are IndexOutOfBounds- and IllegalArgumentExceptions show. */
    private static void refusedBehindAllOtherReasons() {
        Story story = DECK.withStates(120);
        bounds.noIndex(story, "addMaster 2", "addSlide 2 0", "addSlide 0 2", "duplicate 1", "removeSlide 1",
                "moveSlide 2 1", "moveSlide 1 0", "setBase 3 0", "setBase 2 2", "setShade 2 0 0", "setShade 0 8 0",
                "add 3 0 0 0 1 1", "remove 4", "set 2 4 0 0", "set 0 0 7 0", "write 2 4", "write 3 1", "clear 2 1 1",
                "clear 3 1 0", "ungroup 0", "arrange 0 3", "arrange 4 0", "run 3");
        bounds.badArgument(story, "setBase 0 1", "setBase 1 1", "setShade 0 0 256", "add 0 3 0 0 1 1",
                "add 0 0 2001 0 1 1", "set 0 0 0 2001", "set 0 3 0 0", "write 0 0", "align 6", "align -1");
        bounds.badArgument(story.then("feed 10 1"), "write 0 1");
    }

    /** "Each edit that is not refused (also one that leaves all as it was) makes a new state." */
    private static void whatLeavesAllAsItWas() {
        Story story = DECK.then("write 0 1", "align 0", "arrange 0 0");
        int state = story.played().state();
        bounds.answers(story, "align 0", "0", "state", "" + (state + 1), "told " + (state + 1) + " 0", "" + state);
        for (int i = 0; i < IDLE.length; i += 2) {
            int before = DECK.played().state();
            bounds.answers(DECK, IDLE[i], IDLE[i + 1], "state", "" + (before + 1), "states", "" + (before + 2),
                    "told " + (before + 1) + " 0", "" + before, "told " + before + " 1", "1");
        }
    }

    /** Calls that are not called an edit make no state, and no row of them is too long. */
    private static void whatIsNoEdit() {
        Story story = DECK.then("trim 0", "feed 1 1", "select 0 0", "undo", "redo", "go 3", "go 7", "state", "states",
                "digest", "told 0 0", "painted 0", "errorAt", "steps", "isSelected 0", "lines 0 1", "overfull 0",
                "changed 2", "common 0 0 1", "top 0 0 0", "value 0 0 0", "shape 0 0", "textSize 0 1", "overrides 2",
                "shade 0 0", "slideAt 0", "count 0", "base 2");
        bounds.answers(story, "states", "8", "state", "7", "told 7 1", "0", "told 6 1", "1");
    }

    /** At 120 states all that is no edit goes on. */
    private static void noEditBehind120() {
        Story story = DECK.withStates(120);
        bounds.answers(story, "select 0 0", "2", "trim 0", "0", "feed 0 8", "8", "undo", "118", "undo", "117", "redo",
                "118", "redo", "119", "go 0", "119", "go 119", "119", "select 3 1", "1", "states", "120",
                "painted 0", "3");
        bounds.badState(story, "redo");
    }

    /** "states are numbered in the order in which they were made", from wherever. */
    private static void numbersOfStates() {
        bounds.answers(NEW, "addMaster 0", "1", "state", "1", "undo", "0", "addMaster 0", "1", "state", "2", "undo",
                "0",
                "redo", "2", "go 1", "2", "addMaster 0", "2", "state", "3", "told 3 0", "1", "told 3 3", "2");
        bounds.answers(NEW.then("addMaster 0", "undo").fed("?"), "run 0", "1", "state", "0", "states", "2", "redo",
                "1");
    }

    /** told: "if there is no such state, or what is not 0 to 3". */
    private static void toldOfStates() {
        Story story = NEW.then("setShade 0 0 1", "setShade 0 0 2", "undo");
        bounds.answers(story, "told 0 0", "-1", "told 0 1", "1", "told 0 2", "1", "told 0 3", "0", "told 2 0", "1",
                "told 2 1", "0", "told 2 2", "-1", "told 2 3", "2");
        bounds.noIndex(story, "told 3 0", "told -1 0", "told 2147483647 0", "told -2147483648 0", "told 0 -1",
                "told 0 4",
                "told 2 4", "told 2 -1", "told 0 2147483647", "told 0 -2147483648", "told 119 0", "told 120 0");
        Story all = NEW.withStates(120);
        bounds.answers(all, "told 119 0", "118", "told 119 2", "-1", "told 118 2", "119");
        bounds.noIndex(all, "told 120 0");
    }

    /** A chain of 119 edits, and 119 children of state 0. */
    private static void toldOfAChainAndAFan() {
        Story chain = NEW.withStates(120);
        bounds.answers(chain, "told 119 3", "119", "told 0 1", "1", "told 0 3", "0", "told 60 3", "60", "go 0", "119",
                "told 0 2", "1", "go 119", "119");
        Story fan = NEW;
        for (int i = 0; i < 119; i++) {
            fan = fan.then("setShade 0 0 " + i, "undo");
        }
        bounds.answers(fan, "states", "120", "told 0 1", "119", "told 0 2", "119", "told 119 3", "1", "told 1 0", "0",
                "go 1", "1", "told 0 2", "1", "go 119", "2", "shade 0 0", "118", "go 1", "2", "shade 0 0", "0");
        bounds.badState(fan, "setShade 0 0 1", "undo");
    }

    /** undo: "if it is state 0". */
    private static void undoToTheBeginning() {
        bounds.badState(NEW, "undo");
        bounds.answers(NEW.then("addMaster 0"), "undo", "0", "count 0", "1");
        bounds.badState(NEW.then("addMaster 0", "undo"), "undo");
        bounds.badState(DECK.then("go 0"), "undo");
        bounds.badState(NEW.then("addMaster 0", "undo", "run 0", "undo"), "undo");
    }

    /** redo: "if it has no children". */
    private static void redoToTheEnd() {
        bounds.badState(NEW, "redo");
        bounds.badState(DECK, "redo");
        Story back = NEW.then("addMaster 0", "undo");
        bounds.answers(back, "redo", "1", "count 0", "2");
        bounds.badState(back.then("redo"), "redo");
        bounds.badState(back.then("addSlide 0 0"), "redo");
        bounds.answers(back.then("addSlide 0 0", "undo"), "redo", "2");
        bounds.badState(back.then("redo", "setShade 0 0 1", "go 1", "go 2"), "redo");
    }

    /** go: "if there is no such state". */
    private static void goToWhatIsThere() {
        Story story = NEW.then("addMaster 0", "addMaster 0", "undo");
        bounds.noIndex(story, "go -1", "go 3", "go 119", "go 120", "go 2147483647", "go -2147483648");
        bounds.answers(story, "go 2", "1", "go 2", "0", "go 0", "2", "go 0", "0", "go 1", "1");
        bounds.noIndex(NEW, "go 1", "go -1");
        bounds.answers(NEW.withStates(120), "go 119", "0", "go 0", "119");
        bounds.noIndex(NEW.withStates(120), "go 120");
    }

    /** 1 and 2 below 0, 3 and 4 below 1, 5 below 2, 6 below 5. */
    private static Story tree() {
        return NEW.then("setShade 0 0 1", "undo", "setShade 0 0 2", "go 1", "setShade 0 0 3", "undo",
                "setShade 0 0 4",
                "go 2", "setShade 0 0 5", "setShade 0 0 6");
    }

    /** "Returns how many edits were taken back or done again on the way." */
    private static void waysBetweenStates() {
        int[][] ways = {{0, 1, 1, 2, 2, 2, 3}, {1, 0, 2, 1, 1, 3, 4}, {1, 2, 0, 3, 3, 1, 2}, {2, 1, 3, 0, 2, 4, 5},
            {2, 1, 3, 2, 0, 4, 5}, {2, 3, 1, 4, 4, 0, 1}, {3, 4, 2, 5, 5, 1, 0}};
        for (int from = 0; from < 7; from++) {
            for (int to = 0; to < 7; to++) {
                bounds.answers(tree().then("go " + from), "go " + to, "" + ways[from][to], "state", "" + to,
                        "shade 0 0",
                        "" + to, "states", "7");
            }
        }
        Story two = NEW.withStates(60).then("go 0").times(60, "setShade 0 0 1");
        bounds.answers(two, "go 59", "119", "go 119", "119", "go 1", "61", "go 60", "2");
    }

    /** "The latest child ... was the present one last; states that are only passed on the way do not count." */
    private static void latestChildren() {
        bounds.answers(tree(), "told 0 2", "2", "told 1 2", "4", "told 2 2", "5", "told 5 2", "6", "told 6 2", "-1");
        bounds.answers(tree(), "go 3", "5", "told 0 2", "1", "told 1 2", "3", "told 2 2", "5");
        bounds.answers(tree(), "go 3", "5", "go 6", "5", "told 0 2", "2", "told 1 2", "3", "go 1", "4", "told 0 2",
                "1",
                "redo", "3");
        bounds.answers(tree(), "go 0", "3", "redo", "2", "redo", "5", "redo", "6");
        bounds.answers(tree(), "undo", "5", "undo", "2", "undo", "0", "told 0 2", "2", "told 2 2", "5");
        bounds.answers(tree(), "go 1", "4", "told 0 2", "1", "told 1 2", "4", "go 0", "1", "redo", "1", "redo", "4");
        bounds.answers(tree(), "go 5", "1", "setShade 0 0 7", "5", "undo", "5", "redo", "7", "go 6", "2", "go 5", "1",
                "redo", "6");
        bounds.badState(tree().then("go 3"), "redo");
    }

    /** "When one goes to a state, the deck is as it was in it": whatever the edits did, back and forth. */
    private static void theDeckAsItWas() {
        Story deck = NEW.then("addMaster 0", "addSlide 0 0", "addSlide 1 0", "removeSlide 2", "addSlide 1 1",
                "add 0 0 9 9 9 9", "add 0 0 0 0 10 10", "remove 0", "add 0 1 20 20 10 10", "add 4 1 1 1 1 1",
                "add 0 2 40 40 10 10", "select 4 1", "group", "set 4 2 0 5", "setShade 1 3 77", "setShade 0 3 7")
                .wrote(4, 2, "abc").wrote(0, 2, "de");
        String[] edits = {"addMaster 1", "addSlide 0 0", "duplicate 4", "removeSlide 3", "removeSlide 4",
            "moveSlide 4 0",
            "setBase 4 0", "setBase 1 0", "setShade 1 3 -1", "setShade 0 3 8", "add 3 2 0 0 1 1", "remove 1",
            "remove 2",
            "remove 4", "set 0 1 0 3", "set 4 1 6 1", "write 0 2", "write 4 2", "clear 4 2 0", "clear 4 2 7", "group",
            "ungroup 5", "arrange 1 2", "align 1", "spread 1"};
        int state = deck.played().state();
        for (String edit : edits) {
            Story done = deck.then("select 1 1", "select 2 1", "select 5 1", edit);
            int behind = done.played().state();
            sameWays(deck, state, done.then("trim 0", "go " + behind), behind);
        }
        String[] scripts = {"pick 1;drop;", "pick 1;copy;", "pick 1;set pc=7;set ps=7;", "pick 1;front;",
            "pick 1;back;",
            "sheet 4;pick 1;drop;text 1,1,1,1;", "pick 1;shift 5,5;set pm=7;", "box 1,1,1,1;drop;"};
        for (String script : scripts) {
            sameWays(deck, state, deck.ran(0, script), state + 1);
        }
    }

    private static void sameWays(Story before, int state, Story behind, int latest) {
        Story selectedNone = before.then("go " + state);
        bounds.sameDeck(selectedNone, behind.then("go " + state));
        bounds.sameDeck(selectedNone, behind.then("undo"));
        bounds.sameDeck(selectedNone, behind.then("addMaster 0", "go 0", "go " + state));
        bounds.sameDeck(behind, behind.then("undo", "redo"));
        bounds.sameDeck(behind, behind.then("go 0", "go 1", "go " + latest));
        bounds.sameDeck(behind, behind.then("go " + state, "addMaster 0", "addSlide 0 0", "go " + latest));
    }

    /** "and the numbers that come next" are part of the deck. */
    private static void numbersThatComeNext() {
        bounds.answers(DECK, "add 0 0 0 0 1 1", "4", "addMaster 0", "3", "go 7", "2", "addMaster 0", "3",
                "add 0 0 0 0 1 1", "4", "go 7", "2", "remove 2", "2", "add 0 0 0 0 1 1", "4", "go 10", "3",
                "addSlide 0 0", "4", "add 0 0 0 0 1 1", "4");
        bounds.answers(NEW.ran(0, "repeat 50{box 1,1,1,1;drop;}"), "count 2", "0", "add 0 0 0 0 1 1", "50", "go 0",
                "2",
                "add 0 0 0 0 1 1", "0", "go 1", "2", "add 0 0 0 0 1 1", "50");
        bounds.answers(NEW.fed("repeat 50{box 1,1,1,1;}let a=px/0;"), "run 0", "2", "add 0 0 0 0 1 1", "0");
    }
}
