/** The boundary cases of running scripts: section 3, and promises 45 to 47. */
final class RunBoundsTest {
    private static final Bounds bounds = new Bounds();
    private static final Story NEW = new Story();
    private static final String[] VALUES = {"px", "py", "pw", "ph", "pc", "ps", "pm"};
    private static final int[] LEAST = {-2000, -2000, 1, 1, 0, 4, 0};
    private static final int[] MOST = {2000, 2000, 2000, 2000, 7, 100, 7};
    private static final String MIN = "let m=65536*65536*32768*65536;";
    /** A BOX, a TEXT and a LINE on sheet 0, two of them in the group 3; a slide with a box; one is selected. */
    private static final Story DECK = NEW.then("addSlide 0 0", "add 0 0 10 11 1 1", "add 0 1 20 21 2 2",
            "add 0 2 30 31 3 3", "select 1 1", "select 2 1", "group", "add 1 0 0 0 4 4").wrote(0, 1, "abc")
            .then("set 1 1 0 9", "select 3 0", "select 0 1");

    public static void main(String[] arguments) {
        sheetsToBeginWith();
        theLatestScript();
        eachScriptBeginsAnew();
        noScriptYet();
        numbersWrapAround();
        divisionByZero();
        divisionOnlyWhereReckoned();
        leftToRight();
        shapesAtHand();
        noShapeAtHand();
        rankAndMany();
        rangesOfSet();
        rangesOfShift();
        rangesOfNewShapes();
        numbersOfSheets();
        rangesBeyond32Bits();
        theHundredAndFirstShape();
        lockedShapes();
        lockedByThreeGroups();
        marksCanBeSet();
        copiesOfLockedShapes();
        expressionsThenLocksThenRanges();
        numbersThenRangesThenRoom();
        theLastMemberDropped();
        nothingPicked();
        frontAndBack();
        repeatsOfNone();
        fiveHundredSteps();
        theStepThatWouldBeThe501st();
        roundsAreSteps();
        whereTheErrorIs();
        nothingBehindAnError();
        emptyScripts();
        bounds.end();
    }

    private static void fails(String script, int error, int at, int steps) {
        bounds.fails(DECK, 0, script, error, at, steps);
    }

    private static void runs(String script, int steps) {
        bounds.runs(DECK, 0, script, steps);
    }

    /** What an expression is, as px of a box on a new deck (so -2000 to 2000). */
    private static void reckoned(String first, String expression, int due) {
        bounds.answers(NEW.then("addSlide 0 0").ran(0, first + "box " + expression + ",0,1,1;"), "value 0 0 0",
                "" + due);
    }

    /** run: "if there is no such sheet". */
    private static void sheetsToBeginWith() {
        Story story = DECK.then("addSlide 0 0", "addMaster 0", "removeSlide 2").fed("box here,0,1,1;");
        bounds.noIndex(story, "run 2", "run 4", "run -1", "run 99", "run 2147483647", "run -2147483648");
        for (int sheet : new int[] {0, 1, 3}) {
            bounds.answers(story, "run " + sheet, "0", "shape 5 1", "" + sheet, "value " + sheet + " 5 0",
                    "" + sheet);
        }
    }

    /** "of the latest script": a refused run is none, and other calls leave both. */
    private static void theLatestScript() {
        Story wrong = DECK.ran(0, "let a=1;box 1,2,3,4;sheet 7;");
        bounds.answers(wrong, "errorAt", "20", "steps", "3");
        bounds.noIndex(wrong.fed("let a=1;"), "run 7");
        bounds.answers(wrong.fed("let a=1;").refused("run 7").then("trim 0", "undo", "redo", "go 0"), "errorAt", "20",
                "steps", "3");
        Story full = wrong.withStates(120);
        bounds.badState(full, "run 0");
        bounds.answers(full.refused("run 0"), "errorAt", "20", "steps", "3");
        bounds.answers(wrong, "run 0", "0", "errorAt", "-1", "steps", "0");
        bounds.answers(wrong.fed("copy;"), "run 0", "0", "errorAt", "-1", "steps", "1");
        bounds.answers(wrong.fed("copy"), "run 0", "1", "errorAt", "4", "steps", "0");
        bounds.answers(DECK.ran(0, "copy;").fed("let a=1;drop;!"), "steps", "1", "run 0", "1", "errorAt", "13",
                "steps",
                "0");
    }

    /** "shapes that are picked (empty at first), and variables, 0 at first": in each script, also behind an error. */
    private static void eachScriptBeginsAnew() {
        String[] before = {"let a=7;let z=7;pick 1;sheet 1;box 1,1,1,1;", "let a=7;let z=7;pick 1;set px=1/(2-rank);",
            "let a=7;pick 1;shift 0,1/(1-rank);", "let a=7;let z=7;pick 1/(px-20);", "let a=7;pick 1;sheet 9;",
            "let a=7;pick 1;repeat 999{}", "pick 1;let a=7;x", "pick 1;set pm=4;set px=1;"};
        for (String script : before) {
            Story story = DECK.ran(0, script);
            bounds.fails(story, 0, "let a=px;", 3, 0, 1);
            bounds.fails(story, 0, "let a=kind;", 3, 0, 1);
            Story after = story.ran(0, "copy;let b=a+z+many*10+rank*100+here*1000;sheet 1;line b,rank,1,1;");
            String made = after.played().count(2) == 6 ? "5" : "6";
            bounds.answers(after, "errorAt", "-1", "steps", "4", "value 1 " + made + " 0", "0",
                    "value 1 " + made + " 1", "0");
        }
    }

    /** errorAt: "-1 if it had none, or there was none"; steps: "0 if there was none". */
    private static void noScriptYet() {
        bounds.answers(NEW, "errorAt", "-1", "steps", "0");
        bounds.answers(NEW.fed("?"), "errorAt", "-1", "steps", "0");
        bounds.answers(NEW.fed("?").refused("run 1"), "errorAt", "-1", "steps", "0");
        bounds.answers(NEW.fed("?").withStates(120).refused("run 0"), "errorAt", "-1", "steps", "0");
    }

    /** "Numbers are 64-bit integers and wrap around." */
    private static void numbersWrapAround() {
        reckoned(MIN, "(m<0)+(m-1>0)*2+(-m=m)*4+(abs(m)=m)*8+(m/(-1)=m)*16+(m%(-1)=0)*32", 63);
        reckoned(MIN, "(m-1+1=m)+(m*2=0)*2+(m*m=0)*4+(m+m=0)*8+((m-1)*(m-1)=1)*16+((m-1)+(m-1)=-2)*32", 63);
        reckoned(MIN, "(m-1)/999999/999999%2000", (int) (Long.MAX_VALUE / 999999 / 999999 % 2000));
        reckoned(MIN, "m/999999/999999%2000", (int) (Long.MIN_VALUE / 999999 / 999999 % 2000));
        reckoned(MIN, "min(m,m-1)/999999/999999%2000", (int) (Long.MIN_VALUE / 999999 / 999999 % 2000));
        reckoned(MIN, "(max(m,m-1)=m-1)+(m<m-1)*2+(m>m-1)*4+(m<=m)*8+(m>=m-1)*16+(m<>m)*32", 11);
        reckoned("let a=999999;", "a*a*a*a%2000", (int) (999999L * 999999L * 999999L * 999999L % 2000));
        reckoned("", "-7/2*100+-7%3*10+7/-2", -313);
        reckoned("", "7%-3*10+-1/2", 10);
        reckoned(MIN, "not m+(m and 1)*2+(0 or m)*4+not not m*8", 14);
    }

    /** "2, a / or % by 0". */
    private static void divisionByZero() {
        fails("let a=1/0;", 2, 0, 1);
        fails("let a=1%0;", 2, 0, 1);
        fails("let a=0/0;", 2, 0, 1);
        fails("let a=0%(1-1);", 2, 0, 1);
        fails("copy;sheet 1/z;", 2, 5, 2);
        fails("pick 1/0;", 2, 0, 1);
        fails("pick 1;set px=1/rank;", 2, 7, 2);
        fails("pick 1;shift 0,1%rank;", 2, 7, 2);
        fails("pick 1;shift 1%rank,0;", 2, 7, 2);
        fails("repeat 1/0{}", 2, 0, 1);
        fails("if 1/0{}", 2, 0, 1);
        fails("box 1,1,1,1/0;", 2, 0, 1);
        fails("text 1/0,1,1,1;", 2, 0, 1);
        fails("line 1,1%0,1,1;", 2, 0, 1);
        fails("let a=-(not(abs(1/0)));", 2, 0, 1);
        fails("let a=min(1,2%0);", 2, 0, 1);
        runs("let a=1/1;let a=0/1;let a=1/-1;let a=0%-1;", 4);
    }

    /** "and, or do not reckon the right operand if the left one decides", and what is not reached is not reckoned. */
    private static void divisionOnlyWhereReckoned() {
        runs("let a=0 and 1/0;let a=1 or 1/0;let a=-5 or px;let a=0 and kind;", 4);
        runs("let a=1 or 1/0 and 1/0;let a=0 and 1/0 and 1/0;let a=0 and(1 or 1/0);let a=0 and 1/0 or 0;", 4);
        fails("let a=1 and 1/0;", 2, 0, 1);
        fails("let a=0 or 1/0;", 2, 0, 1);
        fails("let a=0 or 0 or 1/0;", 2, 0, 1);
        fails("let a=0 and 0 or 1/0;", 2, 0, 1);
        fails("let a=1 or 1 and 0;let b=1/0 or 1;", 2, 19, 2);
        runs("if 0{let a=1/0;}if 1{}else{let a=1/0;}repeat 0{let a=1/0;}repeat-1{sheet 9;}", 4);
        runs("set px=1/0;shift 1/0,1/0;sheet 1;pick 0;set px=9999;", 5);
        bounds.runs(NEW, 0, "pick 1/0;", 1);
        reckoned("", "(5 and 3)+(5 or 0)*2+(0 or 7)*4+(0 or 0)*8+(9 and 0)*16+(not 5)*32+(not 0)*64", 71);
    }

    /** "Operands and arguments are reckoned from left to right." */
    private static void leftToRight() {
        fails("let a=1/0+px;", 2, 0, 1);
        fails("let a=px+1/0;", 3, 0, 1);
        fails("let a=max(px,1/0);", 3, 0, 1);
        fails("let a=max(1/0,px);", 2, 0, 1);
        fails("let a=1/0<px;", 2, 0, 1);
        fails("let a=px<1/0;", 3, 0, 1);
        fails("let a=px*(1/0);", 3, 0, 1);
        fails("let a=1/0*px;", 2, 0, 1);
        fails("box px,1/0,1,1;", 3, 0, 1);
        fails("box 1,1/0,px,1;", 2, 0, 1);
        fails("let a=px/0;", 3, 0, 1);
    }

    /** "of the shape at hand", "elsewhere they mean those of the first picked shape". */
    private static void shapesAtHand() {
        bounds.answers(DECK.ran(0, "pick px>10;let a=px*1000+kind*100+ps+pc+pm;box a/100,a%100,pw,ph;"),
                "value 0 5 0", "201", "value 0 5 1", "20", "value 0 5 2", "2");
        bounds.answers(DECK.ran(0, "pick kind=2;pick px<>30;set px=px+kind;"), "value 0 0 0", "10", "value 0 1 0",
                "21",
                "value 0 2 0", "30");
        bounds.answers(DECK.ran(0, "pick 1;repeat px/10{shift 1,0;}if py=11{set pc=rank;}"), "value 0 0 0", "11",
                "value 0 2 0", "31", "value 0 2 4", "2");
    }

    /** "3, a value or kind where no shape is at hand (nothing is picked)". */
    private static void noShapeAtHand() {
        for (String value : VALUES) {
            fails("let a=" + value + ";", 3, 0, 1);
            fails("pick 0;box 0,0,1," + value + ";", 3, 7, 2);
        }
        fails("let a=kind;", 3, 0, 1);
        fails("sheet px;", 3, 0, 1);
        fails("repeat kind{}", 3, 0, 1);
        fails("if py{}", 3, 0, 1);
        fails("pick 1;let a=kind;pick 0;let a=kind;", 3, 25, 4);
        fails("pick 1;sheet 0;let a=pm;", 3, 15, 3);
        fails("pick 1;sheet here;let a=pm;", 3, 18, 3);
        fails("pick 1;drop;let a=pm;", 3, 12, 3);
        fails("box 0,0,1,1;drop;let a=pm;", 3, 17, 3);
        runs("let a=rank+many+here+slides;pick px+kind;set px=px;shift px-px,kind-kind;let a=px+kind;", 5);
    }

    /** "rank is the number of shapes that were picked ahead of it (of pick: so far), elsewhere ... 0". */
    private static void rankAndMany() {
        bounds.answers(DECK.ran(0, "pick rank=0;set pc=many;pick rank+1;set pw=rank+1;set ph=many;let a=rank;"
                + "box a,rank,many,1;"), "value 0 0 4", "1", "value 0 1 4", "0", "value 0 0 2", "1", "value 0 2 2",
                        "3",
                "value 0 1 3", "3", "value 0 5 0", "0", "value 0 5 1", "0", "value 0 5 2", "3");
        bounds.answers(DECK.ran(0, "pick 1;pick many=3 and px>10;pick many=2;set pc=many;"), "value 0 0 4", "3");
        bounds.answers(DECK.ran(0, "pick many;box 5,5,many+1,1;set px=many;"), "value 0 5 2", "1", "value 0 5 0",
                "1");
        fails("pick rank;let a=px;", 3, 10, 2);
    }

    /** "4, a number that is not in its range (a value ...)": of set. */
    private static void rangesOfSet() {
        for (int what = 0; what < 7; what++) {
            String set = "pick px=10;set " + VALUES[what] + "=";
            fails(set + (LEAST[what] - 1) + ";", 4, 11, 2);
            fails(set + (MOST[what] + 1) + ";", 4, 11, 2);
            fails("pick 1;set " + VALUES[what] + "=" + LEAST[what] + "-rank/2;", 4, 7, 2);
            bounds.answers(DECK.ran(0, set + LEAST[what] + ";"), "value 0 0 " + what, "" + LEAST[what]);
            bounds.answers(DECK.ran(0, set + MOST[what] + ";"), "value 0 0 " + what, "" + MOST[what], "value 0 1 4",
                    "0");
        }
    }

    /** The same of shift, of x and of y. */
    private static void rangesOfShift() {
        fails("box 2000,0,1,1;shift 1,0;", 4, 15, 2);
        fails("box -2000,0,1,1;shift -1,0;", 4, 16, 2);
        fails("box 0,2000,1,1;shift 0,1;", 4, 15, 2);
        fails("box 0,-2000,1,1;shift 0,-1;", 4, 16, 2);
        fails("box 2000,-2000,1,1;shift 1,-1;", 4, 19, 2);
        fails("pick 1;shift 1970+rank,0;", 4, 7, 2);
        bounds.answers(DECK.ran(0, "box 1999,-1999,1,1;shift 1,-1;"), "value 0 5 0", "2000", "value 0 5 1", "-2000");
        bounds.answers(DECK.ran(0, "box -2000,2000,1,1;shift 4000,-4000;"), "value 0 5 0", "2000", "value 0 5 1",
                "-2000");
        bounds.answers(DECK.ran(0, "pick 1;shift 1970,1969;"), "value 0 2 0", "2000", "value 0 2 1", "2000");
        fails("pick 1;shift 1971,1969;", 4, 7, 2);
        fails("pick 1;shift 1970,1970;", 4, 7, 2);
    }

    /** The same of box, text and line. */
    private static void rangesOfNewShapes() {
        String[] kinds = {"box", "text", "line"};
        for (int kind = 0; kind < 3; kind++) {
            for (int what = 0; what < 4; what++) {
                String[] four = {"5", "5", "5", "5"};
                four[what] = "" + LEAST[what];
                bounds.answers(DECK.ran(0, kinds[kind] + " " + String.join(",", four) + ";"), "shape 5 0", "" + kind,
                        "value 0 5 " + what, "" + LEAST[what], "value 0 5 4", "0", "value 0 5 5", "20",
                        "value 0 5 6", "0");
                four[what] = "" + MOST[what];
                bounds.answers(DECK.ran(1, kinds[kind] + " " + String.join(",", four) + ";"), "shape 5 0", "" + kind,
                        "value 1 5 " + what, "" + MOST[what], "shape 5 1", "1");
                four[what] = "" + (LEAST[what] - 1);
                fails(kinds[kind] + " " + String.join(",", four) + ";", 4, 0, 1);
                four[what] = "" + (MOST[what] + 1);
                fails("copy;" + kinds[kind] + " " + String.join(",", four) + ";", 4, 5, 2);
            }
        }
    }

    /** "... (the number of a sheet)". */
    private static void numbersOfSheets() {
        Story story = DECK.then("addSlide 0 0", "addMaster 0", "removeSlide 2");
        for (String none : new String[] {"2", "4", "-1", "999999", "0-1", "2000*2000*2000"}) {
            bounds.fails(story, 0, "copy;sheet " + none + ";", 4, 5, 2);
        }
        bounds.answers(story.ran(0, "sheet 3;box here,0,1,1;sheet 1;box here,0,1,1;sheet 0;box here,0,1,1;"),
                "shape 5 1", "3", "shape 6 1", "1", "shape 7 1", "0", "value 3 5 0", "3", "value 0 7 0", "0");
    }

    /** Numbers of 64 bits are out of a range even if their lowest 32 bits are not. */
    private static void rangesBeyond32Bits() {
        String big = "let b=65536*65536;";
        fails(big + "sheet b;", 4, 18, 2);
        fails(big + "sheet b+1;", 4, 18, 2);
        fails(big + "sheet -b;", 4, 18, 2);
        fails(big + "box b,0,1,1;", 4, 18, 2);
        fails(big + "text 0,-b,1,1;", 4, 18, 2);
        fails(big + "line 0,0,b+1,1;", 4, 18, 2);
        fails(big + "line 0,0,1,1-b;", 4, 18, 2);
        for (String value : VALUES) {
            fails(big + "pick 1;set " + value + "=b+5;", 4, 25, 3);
            fails(big + "pick 1;set " + value + "=5-b;", 4, 25, 3);
        }
        fails(big + "pick 1;shift b,0;", 4, 25, 3);
        fails(big + "pick 1;shift 0,-b;", 4, 25, 3);
        fails(MIN + "pick 1;shift m,m;", 4, 37, 3);
        fails(MIN + "pick 1;shift m-1,0;", 4, 37, 3);
        runs(big + "repeat -b{let a=1/0;}if b{copy;}", 4);
        fails(big + "repeat b{}", 6, 18, 500);
        runs(MIN + "repeat m{let a=1/0;}", 2);
        fails(MIN + "repeat m-1{}", 6, 30, 500);
    }

    /** "or a 101st shape": of box, text, line and copy; a group is one too. */
    private static void theHundredAndFirstShape() {
        Story ninetyNine = DECK.ran(0, "repeat 94{box 1,1,1,1;}");
        for (String kind : new String[] {"box", "text", "line"}) {
            bounds.runs(ninetyNine, 0, kind + " 1,1,1,1;", 1);
            bounds.fails(ninetyNine, 0, kind + " 1,1,1,1;" + kind + " 1,1,1,1;", 4, kind.length() + 9, 2);
            bounds.fails(ninetyNine.then("add 1 0 0 0 1 1"), 1, kind + " 1,1,1,1;", 4, 0, 1);
        }
        bounds.runs(ninetyNine, 0, "pick px=10;copy;", 2);
        bounds.fails(ninetyNine, 0, "pick px=10 or px=20;copy;", 4, 20, 2);
        bounds.fails(ninetyNine, 0, "pick px=10;copy;copy;", 4, 16, 3);
        bounds.fails(ninetyNine, 1, "pick 1;copy;front;copy;", 4, 18, 4);
        bounds.answers(ninetyNine.ran(0, "box 1,1,1,1;"), "count 2", "100", "shape 99 3", "96");
        bounds.runs(ninetyNine, 0, "repeat 60{box 1,1,1,1;drop;}", 181);
        bounds.runs(ninetyNine, 0, "copy;pick 0;copy;", 3);
        bounds.answers(NEW.ran(0, "repeat 100{line 1,1,1,1;}"), "count 2", "100", "steps", "201");
        bounds.fails(NEW, 0, "repeat 101{line 1,1,1,1;}", 4, 11, 203);
        bounds.answers(NEW.ran(0, "box 1,1,1,1;repeat 6{pick 1;copy;}pick rank<36;copy;"), "count 2", "100");
        bounds.fails(NEW, 0, "box 1,1,1,1;repeat 7{pick 1;copy;}", 4, 28, 23);
        bounds.fails(NEW, 0, "box 1,1,1,1;repeat 6{pick 1;copy;}pick rank<37;copy;", 4, 47, 22);
    }

    private static final String[] CHANGES = {
        "set px=5;", "set py=5;", "set pw=5;", "set ph=5;", "set pc=5;", "set ps=5;", "shift 0,0;", "drop;", "front;",
        "back;"};

    /** "5, a locked shape that would be changed or removed by set (but not by set pm), shift, drop,
                front or back". */
    private static void lockedShapes() {
        for (String change : CHANGES) {
            for (int shape = 0; shape < 3; shape++) {
                Story story = DECK.then("set 0 " + shape + " 6 4");
                bounds.fails(story, 0, "pick 1;" + change, 5, 7, 2);
                bounds.fails(story, 0, "copy;pick pm=4;" + change, 5, 15, 3);
                bounds.runs(story, 0, "pick pm<>4;" + change, 2);
                bounds.runs(story, 0, "pick 0;" + change, 2);
                bounds.runs(story.then("set 0 " + shape + " 6 3"), 0, "pick 1;" + change, 2);
            }
            bounds.runs(DECK.then("set 1 0 6 4", "set 1 3 6 4"), 0, "pick 1;" + change, 2);
        }
    }

    /** "or which is a member of such a group (or of a group within such a one)". */
    private static void lockedByThreeGroups() {
        Story three = DECK.then("select 0 0", "select 3 1", "group", "group");
        for (String change : CHANGES) {
            for (int group : new int[] {3, 5, 6}) {
                Story story = three.then("set 0 " + group + " 6 4");
                bounds.fails(story, 0, "pick px>10;" + change, 5, 11, 2);
                bounds.runs(story, 0, "pick px=10;" + change, 2);
            }
        }
    }

    /** "(but not by set pm)": it unlocks and locks from then on, but not what a group locks. */
    private static void marksCanBeSet() {
        Story story = DECK.then("set 0 0 6 4", "set 0 3 6 4");
        bounds.runs(story, 0, "pick 1;set pm=7;set pm=0;", 3);
        bounds.fails(story, 0, "pick 1;set pm=8;", 4, 7, 2);
        bounds.runs(story, 0, "pick px=10;set pm=3;set px=5;", 3);
        bounds.fails(story, 0, "pick px=20;set pm=3;set px=5;", 5, 20, 3);
        bounds.fails(DECK, 0, "pick 1;set pm=4*(rank=2);shift 1,1;", 5, 25, 3);
        bounds.fails(DECK, 0, "box 1,1,1,1;set pm=4;drop;", 5, 21, 3);
        bounds.answers(DECK.ran(0, "pick 1;set pm=4;"), "shape 0 5", "1", "shape 2 5", "1", "shape 3 5", "0");
    }

    /** copy takes locked shapes: the marks are among the values; the copies stand on top, in no group. */
    private static void copiesOfLockedShapes() {
        Story story = DECK.then("set 0 1 6 4").ran(0, "pick 1;copy;");
        bounds.answers(story, "count 2", "8", "shape 6 5", "1", "shape 6 2", "-1", "shape 6 3", "3", "shape 6 0", "1",
                "textSize 0 6", "3", "value 0 6 0", "20", "value 1 6 0", "20", "shape 5 5", "0", "shape 7 3", "4");
        bounds.fails(DECK.then("set 0 1 6 4"), 0, "pick pm;copy;drop;", 5, 13, 3);
        bounds.answers(DECK.then("set 0 3 6 4").ran(0, "pick kind;copy;drop;"), "count 2", "5");
    }

    /** "For each shape of set and shift the expressions are reckoned first, then ... locked, then at the ranges". */
    private static void expressionsThenLocksThenRanges() {
        Story story = DECK.then("set 0 0 6 4");
        bounds.fails(story, 0, "pick 1;set px=1/0;", 2, 7, 2);
        bounds.fails(story, 0, "pick 1;shift 1,1/0;", 2, 7, 2);
        bounds.fails(story, 0, "pick 1;shift 9999,1/0;", 2, 7, 2);
        bounds.fails(story, 0, "pick 1;set px=9999;", 5, 7, 2);
        bounds.fails(story, 0, "pick 1;shift 9999,9999;", 5, 7, 2);
        bounds.fails(story, 0, "pick 1;set pm=9;", 4, 7, 2);
        Story second = DECK.then("set 0 1 6 4");
        bounds.fails(second, 0, "pick 1;set px=9999;", 4, 7, 2);
        bounds.fails(second, 0, "pick 1;set px=1/(rank-1);", 2, 7, 2);
        bounds.fails(second, 0, "pick 1;set px=1/(rank-2);", 5, 7, 2);
        bounds.fails(second, 0, "pick 1;shift 1990*rank,1/(rank-2);", 5, 7, 2);
        bounds.fails(second, 0, "pick 1;shift 1991-rank,0;", 4, 7, 2);
    }

    /** "reckon all four numbers first, then look at their ranges, then at the number of shapes". */
    private static void numbersThenRangesThenRoom() {
        Story hundred = DECK.ran(0, "repeat 95{box 1,1,1,1;}");
        for (String kind : new String[] {"box", "text", "line"}) {
            fails(kind + " 9999,0,0,1/0;", 2, 0, 1);
            fails(kind + " 9999,0,px,1/0;", 3, 0, 1);
            bounds.fails(hundred, 0, kind + " 1,1,1,1/0;", 2, 0, 1);
            bounds.fails(hundred, 0, kind + " 1,1,1,px;", 3, 0, 1);
            bounds.fails(hundred, 0, kind + " 1,1,1,0;", 4, 0, 1);
            bounds.fails(hundred, 0, kind + " 1,1,1,1;", 4, 0, 1);
        }
    }

    /** "A group whose last member is removed is removed as well", through three groups. */
    private static void theLastMemberDropped() {
        Story three = DECK.then("select 0 0", "select 3 1", "group", "group");
        bounds.answers(three.ran(0, "pick px=20;drop;"), "count 2", "6", "shape 3 4", "1");
        bounds.answers(three.ran(0, "pick px>10;drop;"), "count 2", "2", "shape 0 3", "0", "overrides 1", "0");
        bounds.noIndex(three.ran(0, "pick px>10;drop;"), "shape 3 0", "shape 5 0", "shape 6 0");
        bounds.answers(three.ran(0, "pick px=20;drop;pick px=30;drop;"), "count 2", "2");
        bounds.answers(three.ran(0, "pick 1;drop;"), "count 2", "1", "shape 4 1", "1", "painted 0", "0");
        bounds.answers(three.then("set 0 3 6 1").ran(0, "pick px=30;drop;box 1,1,1,1;"), "count 2", "7",
                "shape 7 2", "-1");
    }

    /** "nothing is picked then", and what statements do with no picked shapes: nothing. */
    private static void nothingPicked() {
        runs("set px=9999;shift 1/0,px;copy;drop;front;back;", 6);
        runs("pick 1;sheet 1;set px=9999;drop;copy;front;back;", 7);
        bounds.answers(DECK.ran(0, "pick 1;drop;copy;let a=many;box a,many,1,1;"), "count 2", "2", "value 0 5 0", "0",
                "value 0 5 1", "0");
        bounds.answers(DECK.ran(0, "pick 1;copy;let a=many;box a,many,1,1;"), "value 0 8 0", "3", "value 0 8 1", "3");
    }

    /** "on top of its sheet, or of its group if it is a member; or below all others there". */
    private static void frontAndBack() {
        bounds.answers(DECK.ran(0, "pick px=10;front;"), "shape 0 3", "1", "shape 3 3", "0");
        bounds.answers(DECK.ran(0, "pick px=10;back;"), "shape 0 3", "0", "shape 3 3", "1");
        bounds.answers(DECK.ran(0, "pick px=20;front;"), "shape 1 3", "1", "shape 2 3", "0", "shape 3 3", "1",
                "shape 1 2",
                "3");
        bounds.answers(DECK.ran(0, "pick px=30;back;"), "shape 1 3", "1", "shape 2 3", "0", "shape 3 3", "1");
        bounds.answers(DECK.ran(0, "pick 1;front;"), "shape 0 3", "1", "shape 1 3", "0", "shape 2 3", "1");
        bounds.answers(DECK.ran(0, "pick 1;back;"), "shape 0 3", "0", "shape 1 3", "1", "shape 2 3", "0");
        bounds.answers(DECK.ran(1, "pick 1;front;back;"), "shape 4 3", "0");
        bounds.answers(NEW.ran(0, "repeat 100{box rank,1,1,1;}pick rank=0;front;"), "shape 0 3", "99", "shape 99 3",
                "98");
        bounds.answers(NEW.ran(0, "repeat 100{box 1,1,1,1;}back;"), "shape 99 3", "0", "shape 0 3", "1", "shape 98 3",
                "99");
        bounds.answers(NEW.ran(0, "repeat 100{box 1,1,1,1;}pick 1;back;"), "shape 99 3", "0", "shape 0 3", "99");
    }

    /** "repeat reckons its number once, and does its block so often (not at all if it is negative)". */
    private static void repeatsOfNone() {
        runs("repeat 0{let a=1/0;}", 1);
        runs("repeat -1{let a=1/0;}", 1);
        runs("repeat -999999{let a=1/0;}", 1);
        runs("repeat 1{}", 2);
        bounds.answers(NEW.ran(0, "let a=3;repeat a{let a=a+1;}box a,0,1,1;"), "value 0 0 0", "6", "steps", "9");
        bounds.answers(NEW.ran(0, "let a=3;repeat a{let a=0;}box a,0,1,1;"), "value 0 0 0", "0", "steps", "9");
        bounds.answers(NEW.ran(0, "repeat 3{repeat 2{let a=a+1;}}box a,0,1,1;"), "value 0 0 0", "6", "steps", "20");
    }

    /** "6, a step that would be the 501st": 500 are fine, whatever the last one is. */
    private static void fiveHundredSteps() {
        String[] statements = {"let a=1;", "sheet 0;", "pick 1;", "set px=1;", "shift 1,1;", "box 1,1,1,1;",
            "text 1,1,1,1;", "line 1,1,1,1;", "copy;", "drop;", "front;", "back;", "repeat 0{}", "if 1{}",
                    "if 0{}else{}"};
        for (String statement : statements) {
            bounds.runs(NEW, 0, "repeat 249{let b=1;}" + statement, 500);
            bounds.fails(NEW, 0, "repeat 249{let b=1;}" + statement + statement, 6, 20 + statement.length(), 500);
            bounds.fails(NEW, 0, "repeat 498{}if 1{" + statement + "}", 6, 17, 500);
            bounds.runs(NEW, 0, "repeat 497{}if 1{" + statement + "}", 500);
        }
        bounds.runs(NEW, 0, "repeat 499{}", 500);
        bounds.runs(NEW, 0, "repeat 1{repeat 497{}}", 500);
    }

    /** "the step that would be the 501st does not count", and does nothing. */
    private static void theStepThatWouldBeThe501st() {
        bounds.fails(NEW, 0, "repeat 249{let b=1;}let a=1;let a=1/0;", 6, 28, 500);
        bounds.fails(NEW, 0, "repeat 249{let b=1;}let a=1;repeat 1/0{}", 6, 28, 500);
        bounds.fails(NEW, 0, "repeat 249{let b=1;}let a=1/0;let a=1;", 2, 20, 500);
        bounds.fails(NEW, 0, "repeat 249{let b=1;}if 0{}else{let a=1;}", 6, 31, 500);
        bounds.fails(DECK, 0, "pick 1;repeat 498{}shift 1,1;", 6, 19, 500);
        bounds.runs(DECK, 0, "pick 1;repeat 497{}shift 1,1;", 500);
    }

    /** "and so is each round of a repeat, ahead of the statements in it"; error 6 of a round is at the repeat. */
    private static void roundsAreSteps() {
        bounds.fails(NEW, 0, "repeat 500{}", 6, 0, 500);
        bounds.fails(NEW, 0, "let a=1;repeat 499{}", 6, 8, 500);
        bounds.runs(NEW, 0, "let a=1;repeat 498{}", 500);
        bounds.fails(NEW, 0, "repeat 250{let a=1;}", 6, 11, 500);
        bounds.fails(NEW, 0, "let b=1;repeat 250{let a=1;}", 6, 8, 500);
        bounds.fails(NEW, 0, "repeat 999999{}", 6, 0, 500);
        bounds.fails(NEW, 0, "repeat 9{repeat 60{}}", 6, 9, 500);
        bounds.fails(NEW, 0, "repeat 1{repeat 498{}}", 6, 9, 500);
        bounds.fails(NEW, 0, "repeat 2{repeat 497{}}", 6, 0, 500);
        bounds.fails(NEW, 0, "let a=1;repeat 2{repeat 496{}}", 6, 8, 500);
        bounds.fails(NEW, 0, "repeat 2{repeat 248{}}", 6, 9, 500);
        bounds.runs(NEW, 0, "repeat 2{repeat 247{}}", 499);
    }

    /** "at the first byte of the statement that was begun last". */
    private static void whereTheErrorIs() {
        fails(" \n let a=1/0;", 2, 3, 1);
        fails("if 1{ let a=1;  sheet 9; }", 4, 16, 3);
        fails("if 0{}else{ sheet 9;}", 4, 12, 2);
        fails("repeat 3{let a=a+1;let b=1/(a-2);}", 2, 19, 7);
        fails("repeat 2{repeat 1/(1-a){let a=1;}}", 2, 9, 7);
        fails("repeat 2{if 1/(1-a){let a=1;}}", 2, 9, 6);
        fails("repeat 2{}if kind{}", 3, 10, 4);
        fails("pick 1;set pc=1;set pc=rank*4;", 4, 16, 3);
    }

    /** "or nothing at all": the deck is as it was, whatever was done ahead of the error. */
    private static void nothingBehindAnError() {
        String[] deeds = {"pick 1;drop;", "pick 1;copy;", "pick 1;set px=9;", "pick 1;shift 5,5;", "pick 1;front;",
            "pick 1;back;", "box 1,1,1,1;", "text 1,1,1,1;", "line 1,1,1,1;", "pick 1;set pm=7;",
                    "sheet 1;pick 1;drop;",
            "pick px=20;drop;pick px=30;drop;", "pick 1;set ps=9;set pc=1;", "repeat 90{box 1,1,1,1;}"};
        for (String deed : deeds) {
            int steps = deed.startsWith("repeat") ? 181 : deed.split(";").length;
            fails(deed + "sheet 9;", 4, deed.length(), steps + 1);
            fails(deed + "let a=1/0;", 2, deed.length(), steps + 1);
            fails(deed + "?", 1, deed.length(), 0);
            runs(deed, steps);
        }
    }

    /** A script can be empty: a state of its own, no step. */
    private static void emptyScripts() {
        runs("", 0);
        runs(" ", 0);
        runs("\n", 0);
        runs(" ".repeat(600), 0);
        bounds.runs(NEW, 0, "", 0);
    }
}
