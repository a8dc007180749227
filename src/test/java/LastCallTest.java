/** "An object is used for at most 512 calls after it has been made": the last of them answers as the first. */
final class LastCallTest {
    private static final Bounds bounds = new Bounds();
    private static final Story NEW = new Story();

    public static void main(String[] arguments) {
        theLastOfQuestions();
        theLastOfEdits();
        theLastOfRuns();
        theLastOfRefusals();
        aDeckAsLargeAsItCanBe();
        bounds.end();
    }

    private static Story upTo(Story story, int calls, String call) {
        return story.times(calls - story.size(), call);
    }

    private static void theLastOfQuestions() {
        Story story = NEW.then("addSlide 0 0", "add 0 1 1 2 3 4", "select 0 1").wrote(0, 0, "abc").then("select 0 1");
        for (String last : new String[] {"value 1 0 3:4", "textByte 1 0 2:99", "isSelected 0:true", "state:3",
            "group:1", "run 1:0", "feed 0 8:8", "undo:2", "go 0:3", "lines 0 0:3", "duplicate 1:2"}) {
            String[] callAndDue = last.split(":");
            bounds.answers(upTo(story, 511, "digest"), callAndDue[0], callAndDue[1]);
        }
    }

    private static void theLastOfEdits() {
        Story full = NEW.then("addSlide 0 0", "add 0 1 1 2 3 4").withStates(119);
        bounds.answers(upTo(full, 511, "painted 1"), "addMaster 0", "2");
        bounds.answers(upTo(full.times(118, "undo"), 509, "go 60").then("go 118"), "addMaster 0", "2", "states",
                "120");
    }

    /** 119 scripts with a state each, and more with errors. */
    private static void theLastOfRuns() {
        Story story = NEW.fed("box 1,1,1,1;").then("run 0");
        for (int i = 0; i < 118; i++) {
            story = story.then("feed " + 0x636f70793b20L + " 6", "run 0");
        }
        bounds.answers(story, "states", "120", "count 2", "1");
        bounds.badState(story, "run 0");
        Story wrong = NEW;
        while (wrong.size() < 510) {
            wrong = wrong.then("feed 120 1", "run 0");
        }
        bounds.answers(wrong, "feed 32 1", "1", "run 0", "0");
    }

    private static void theLastOfRefusals() {
        Story story = NEW.then("addSlide 0 0", "add 0 1 1 2 3 4");
        String[] refused = {"addMaster 9", "run 9", "trim 9", "redo", "group", "go 9", "feed 0 9", "set 0 0 0 9999"};
        while (story.size() < 510) {
            story = story.refused(refused[story.size() % refused.length]);
        }
        bounds.answers(story, "states", "3", "addMaster 0", "2");
    }

    /** 8 masters, 24 slides, 100 shapes in groups, overrides on each slide, 120 states, a full tape. */
    private static void aDeckAsLargeAsItCanBe() {
        Story story = NEW;
        for (int base = 0; base < 7; base++) {
            story = story.then("addMaster " + base);
        }
        story = story.ran(0, "repeat 64{text 1,1,1,1;}").ran(3, "repeat 8{line 2,2,2,2;}")
                .then("select 0 1", "group", "group", "group", "addSlide 7 0").ran(8, "box 3,3,3,3;");
        for (int shape = 0; shape < 40; shape++) {
            story = story.then("set 8 " + shape + " 0 " + shape);
        }
        story = story.wrote(8, 5, "0123456789012345678901234567890123456789").times(23, "duplicate 8");
        story = story.withStates(120).fed(" ".repeat(600));
        bounds.answers(story, "count 0", "8", "count 1", "24", "count 2", "99", "overrides 8", "41", "overrides 31",
                "41",
                "painted 31", "73", "value 31 39 0", "39", "textSize 20 5", "40", "value 7 39 0", "1", "shape 0 2",
                "72",
                "lines 31 5", "40", "overfull 31", "1", "trim 600", "600", "state", "119");
        bounds.badState(story, "addSlide 0 0", "add 0 0 0 0 1 1", "run 0", "feed 0 1", "duplicate 31");
        Story back = story.then("go 0", "go 119", "undo", "redo");
        bounds.answers(back, "overrides 31", "41", "value 31 39 0", "39", "textSize 20 5", "40", "painted 31", "73");
    }
}
