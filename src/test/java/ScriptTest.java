/** Promises 45 to 47: what scripts do, their errors 2 to 6, and their steps. */
final class ScriptTest {
    private static final Check check = new Check();

    public static void main(String[] arguments) {
        behindARun();
        refused();
        reckoning();
        truth();
        notReckoned();
        wrapping();
        putAndPicked();
        pick();
        pickInOrder();
        setAndShift();
        atHand();
        sheets();
        copies();
        drops();
        frontAndBack();
        loops();
        branches();
        notDone();
        letters();
        zeroDivision();
        noShapeAtHand();
        ranges();
        locks();
        tooManyShapes();
        steps();
        tooManySteps();
        orderOfErrors();
        nothingBehindAnError();
        check.end();
    }

    /** Runs a script on a new deck; px of the box that it leaves picked tells what was reckoned. */
    private static int reckoned(String expression) {
        SlideDeck deck = new SlideDeck();
        deck.addSlide(0, 0);
        int error = Decks.run(deck, 0, "let n=7;let z=0;box " + expression + ",0,1,1;");
        check.due("error of " + expression, error, 0);
        return error == 0 ? deck.value(0, 0, 0) : 9999;
    }

    private static void reckoned(String expression, int due) {
        check.due(expression, reckoned(expression), due);
    }

    private static void fails(SlideDeck deck, String script, int error, int at, int steps) {
        int states = deck.states();
        int state = deck.state();
        check.due("error of " + script, Decks.run(deck, 0, script), error);
        check.due("position in " + script, deck.errorAt(), at);
        check.due("steps of " + script, deck.steps(), steps);
        check.due("states behind " + script, deck.states(), states);
        check.due("state behind " + script, deck.state(), state);
    }

    private static void fails(String script, int error, int at, int steps) {
        fails(new SlideDeck(), script, error, at, steps);
    }

    private static void does(SlideDeck deck, String script, int steps) {
        int states = deck.states();
        check.due("error of " + script, Decks.run(deck, 0, script), 0);
        check.due("position in " + script, deck.errorAt(), -1);
        check.due("steps of " + script, deck.steps(), steps);
        check.due("states behind " + script, deck.states(), states + 1);
    }

    private static void behindARun() {
        SlideDeck deck = new SlideDeck();
        check.due("no script yet", deck.errorAt(), -1);
        check.due("no steps yet", deck.steps(), 0);
        Decks.feed(deck, "let a=1;?");
        check.due("error 1", deck.run(0), 1);
        check.due("at the byte", deck.errorAt(), 8);
        check.due("the tape is empty", deck.feed(' ', 1), 1);
        check.due("no state", deck.states(), 1);
        check.due("a blank is a script", deck.run(0), 0);
        check.due("a state", deck.states(), 2);
        check.due("no error now", deck.errorAt(), -1);
        check.due("empty again", deck.feed(' ', 1), 1);
        deck.trim(0);
        does(deck, "box 1,2,3,4;text 1,2,3,4;", 2);
        deck.undo();
        check.due("all at once taken back", deck.count(2), 0);
        check.due("steps of the latest script", deck.steps(), 2);
        deck.redo();
        check.due("and done again", deck.count(2), 2);
        fails(deck, "drop;pick 1;drop;let a=1/0;", 2, 17, 4);
        check.due("as it was", Decks.painted(deck, 0), "0 1");
        check.due("numbers too", Decks.box(deck, 0), 2);
    }

    private static void refused() {
        SlideDeck deck = new SlideDeck();
        Decks.run(deck, 0, "let a=1;x");
        Decks.box(deck, 0);
        deck.select(0, true);
        Decks.feed(deck, "let a=1;");
        check.noIndex("no sheet", deck, () -> deck.run(1));
        check.noIndex("sheet -1", deck, () -> deck.run(-1));
        check.due("errorAt stays", deck.errorAt(), 8);
        check.due("the tape stays", deck.trim(8), 8);
        check.due("the selection stays", deck.isSelected(0), true);
        Decks.fillStates(deck);
        check.badState("120 states", deck, () -> deck.run(0));
        check.noIndex("the index first", deck, () -> deck.run(1));
        deck.trim(3);
        check.badState("even with an error", deck, () -> deck.run(0));
        check.due("the tape stays again", deck.trim(3), 3);
        check.due("errorAt stays again", deck.errorAt(), 8);
        check.due("the selection stays again", deck.isSelected(0), true);
    }

    private static void reckoning() {
        reckoned("1+2*3", 7);
        reckoned("(1+2)*3", 9);
        reckoned("10-3-2", 5);
        reckoned("100/10/5", 2);
        reckoned("100/7*7", 98);
        reckoned("7/2", 3);
        reckoned("-7/2", -3);
        reckoned("7/-2", -3);
        reckoned("-7%3", -1);
        reckoned("7%-3", 1);
        reckoned("17%5%3", 2);
        reckoned("2*3%4", 2);
        reckoned("n*n", 49);
        reckoned("n-z-1", 6);
        reckoned("q", 0);
        reckoned("--5", 5);
        reckoned("3--5", 8);
        reckoned("-n*2", -14);
        reckoned("min(3,-4)", -4);
        reckoned("max(3,-4)", 3);
        reckoned("abs(-9)+abs(9)", 18);
        reckoned("min(max(1,2),max(3,4))", 2);
        reckoned("000123", 123);
        reckoned("999999/1000", 999);
        reckoned("many", 0);
        reckoned("rank", 0);
        reckoned("here", 0);
        reckoned("slides", 1);
    }

    private static void truth() {
        reckoned("(3=3)+(3=4)*10", 1);
        reckoned("(3<>4)+(3<>3)*10", 1);
        reckoned("(3<4)+(3<3)*10+(4<3)*100", 1);
        reckoned("(4>3)+(3>3)*10+(3>4)*100", 1);
        reckoned("(3<=3)+(3<=4)*10+(4<=3)*100", 11);
        reckoned("(3>=3)+(4>=3)*10+(3>=4)*100", 11);
        reckoned("5 or 0", 1);
        reckoned("0 or 0", 0);
        reckoned("0 or -3", 1);
        reckoned("5 and 3", 1);
        reckoned("5 and 0", 0);
        reckoned("0 and 5", 0);
        reckoned("0 and 0 or 1", 1);
        reckoned("1 or 1 and 0", 1);
        reckoned("1 and 0 or 0", 0);
        reckoned("not 0", 1);
        reckoned("not 7", 0);
        reckoned("not -1", 0);
        reckoned("not not 7", 1);
        reckoned("not 1=0", 1);
        reckoned("not 0+1", 2);
        reckoned("-not 0", -1);
        reckoned("2+3=5", 1);
        reckoned("1+1<3 and 2*2=4", 1);
    }

    private static void notReckoned() {
        reckoned("1 or 1/0", 1);
        reckoned("0 and 1/0", 0);
        reckoned("1 or px", 1);
        reckoned("0 and kind", 0);
        reckoned("1 or (2 and 1%0) or 3/0", 1);
        reckoned("0 and 1/0 or 1", 1);
        reckoned("(0 and 1/0)+2", 2);
        fails("let a=0 or 1/0;", 2, 0, 1);
        fails("let a=1 and 1/0;", 2, 0, 1);
        fails("let a=1/0 or 1;", 2, 0, 1);
    }

    private static void wrapping() {
        SlideDeck deck = new SlideDeck();
        Decks.run(deck, 0, "let a=65536;let a=a*a*a*32768;box a<0,a-1>0,(-a=a)+1,(abs(a)=a)+1;"
                + "let b=a-1;box b>0,b+1=a,(b*2=-2)+1,(a/(-1)=a)+1;"
                + "box a%(-1),abs(b)=b,(min(a,b)=a)+1,(a*2=0)+1;box b/2>0,1,1,1;");
        check.due("2^63 is less than 0", Decks.box(deck, 0, 0), "1 1 2 2");
        check.due("and one less is more", Decks.box(deck, 0, 1), "1 1 2 2");
        check.due("the rest", Decks.box(deck, 0, 2), "0 1 2 2");
        check.due("no error", deck.errorAt(), -1);
        fails("let a=65536;let a=a*a*a*32768;box 0,0,a*2+1,1;pick 1;shift a,0;", 4, 53, 5);
        fails("let a=65536;box a*a,0,1,1;", 4, 12, 2);
        fails("let a=65536;let a=a*a;sheet a;", 4, 22, 3);
        fails("box 1,1,1,1;let a=65536;let a=a*a;set px=a+5;", 4, 34, 4);
    }

    private static void putAndPicked() {
        SlideDeck deck = new SlideDeck();
        int slide = deck.addSlide(0, 0);
        check.due("run", Decks.run(deck, slide, "box 1,-2,3,4;set pc=5;text 5,6,7,8;set pc=6;"
                + "line -2000,2000,2000,1;set pc=many;"), 0);
        check.due("a box", Decks.told(deck, 0), "0 1 -1 0 0 0");
        check.due("a text", Decks.told(deck, 1), "1 1 -1 1 0 0");
        check.due("a line", Decks.told(deck, 2), "2 1 -1 2 0 0");
        check.due("its values", Decks.values(deck, slide, 0, 0, 6), "1 -2 3 4 5 20 0");
        check.due("alone picked", Decks.values(deck, slide, 1, 0, 6), "5 6 7 8 6 20 0");
        check.due("one is many", Decks.values(deck, slide, 2, 0, 6), "-2000 2000 2000 1 1 20 0");
        check.due("an empty text", deck.textSize(slide, 1), 0);
        check.due("nothing is selected", deck.select(0, false), 0);
    }

    private static void pick() {
        SlideDeck deck = new SlideDeck();
        int slide = deck.addSlide(0, 0);
        for (int i = 0; i < 5; i++) {
            deck.add(0, i % 3, i * 10, 0, 1, 1);
        }
        int other = Decks.box(deck, slide);
        deck.set(0, 1, 6, 1);
        does(deck, "pick px>15;set pc=1;pick kind=1;set pc=pc+2;", 4);
        check.due("colours", colours(deck, 0, 5), "0 2 1 1 3");
        deck.undo();
        does(deck, "pick rank<2;set pc=rank+1;", 2);
        check.due("rank is so far", colours(deck, 0, 5), "1 2 0 0 0");
        deck.undo();
        does(deck, "pick px=0;pick rank+many=1 or px=30;set pc=many;", 3);
        check.due("many is as it was ahead", colours(deck, 0, 5), "2 0 0 2 0");
        deck.undo();
        does(deck, "pick 0;set px=1/0;pick 1;pick 0;drop;", 5);
        check.due("none are picked", deck.count(2), 6);
        deck.undo();
        Decks.run(deck, slide, "pick 1;set pc=7;");
        check.due("of this home alone", colours(deck, 0, 5), "0 0 0 0 0");
        check.due("its own", deck.value(slide, other, 4), 7);
        deck.undo();
        does(deck, "pick px-20;set pc=many;", 2);
        check.due("other than 0 is true", colours(deck, 0, 5), "4 4 0 4 4");
    }

    private static String colours(SlideDeck deck, int sheet, int shapes) {
        StringBuilder row = new StringBuilder();
        for (int shape = 0; shape < shapes; shape++) {
            row.append(shape > 0 ? " " : "").append(deck.value(sheet, shape, 4));
        }
        return row.toString();
    }

    private static void pickInOrder() {
        SlideDeck deck = new SlideDeck();
        for (int i = 0; i < 5; i++) {
            Decks.box(deck, 0);
        }
        int group = Decks.group(deck, 3, 1);
        deck.arrange(group, 0);
        deck.arrange(4, 1);
        deck.set(0, group, 6, 1);
        does(deck, "pick 1;set pc=rank;", 2);
        check.due("as they would be painted", colours(deck, 0, 5), "3 0 4 1 2");
        does(deck, "pick rank<3;set pc=7;", 2);
        check.due("groups are none of them", colours(deck, 0, 5), "3 7 4 7 7");
    }

    private static void setAndShift() {
        SlideDeck deck = new SlideDeck();
        int slide = deck.addSlide(0, 0);
        Decks.box(deck, 0);
        Decks.box(deck, 0);
        deck.set(slide, 0, 0, 77);
        does(deck, "pick 1;set px=5;set py=px+1;set pw=py*2;set ph=pw+rank;set pc=ph-10;set ps=ph*7;set pm=3;", 8);
        check.due("first", Decks.values(deck, 0, 0, 0, 6), "5 6 12 12 2 84 3");
        check.due("second", Decks.values(deck, 0, 1, 0, 6), "5 6 12 13 3 91 3");
        check.due("its own values, no override", Decks.box(deck, slide, 0), "77 6 12 12");
        does(deck, "pick 1;shift rank*3-1,pw;", 2);
        check.due("first moved", Decks.box(deck, 0, 0), "4 18 12 12");
        check.due("second moved", Decks.box(deck, 0, 1), "7 18 12 13");
        does(deck, "pick 1;shift 1,px;shift many,-py;", 3);
        check.due("both are reckoned first", Decks.box(deck, 0, 0), "7 0 12 12");
        check.due("the second too", Decks.box(deck, 0, 1), "10 0 12 13");
        does(deck, "set px=9;shift 9,9;", 2);
        check.due("nothing is picked at first", Decks.box(deck, 0, 0), "7 0 12 12");
    }

    private static void atHand() {
        SlideDeck deck = new SlideDeck();
        does(deck, "text 3,4,5,6;let a=px+py*10+pw*100+ph*200;box a,kind,pc+1,ps;", 3);
        check.due("of the picked shape", Decks.box(deck, 0, 1), "1743 1 1 20");
        deck.add(0, 2, 8, 9, 1, 1);
        does(deck, "pick px<10;let a=px+rank;pick 1;box a,px,many,1;", 4);
        check.due("of the first picked", Decks.box(deck, 0, 3), "3 3 3 1");
        does(deck, "pick 1;set pc=rank;let a=px*100+rank;box a,pc,1,1;", 4);
        check.due("of the first picked behind set", Decks.box(deck, 0, 4), "300 0 1 1");
        does(deck, "drop;pick 1;shift 0,rank;let a=px*100+rank;box a,pc,1,1;", 5);
        check.due("and behind shift", Decks.box(deck, 0, 5), "300 0 1 1");
        deck.go(3);
        does(deck, "let a=9;", 1);
        does(deck, "box a,many,1,1;", 1);
        check.due("variables are 0 at first", Decks.box(deck, 0, 4), "0 0 1 1");
        does(deck, "pick px=8;if kind=2{set pc=4;}repeat px-6{set ps=ps+pc;}", 8);
        check.due("in if and repeat", Decks.values(deck, 0, 2, 4, 5), "4 28");
    }

    private static void sheets() {
        SlideDeck deck = new SlideDeck();
        int one = deck.addSlide(0, 0);
        int two = deck.addSlide(0, 0);
        deck.removeSlide(one);
        does(deck, "box here,0,1,1;sheet 2;box here,slides,1,1;sheet here-2;box 7,0,1,1;", 5);
        check.due("on the master", Decks.told(deck, 0), "0 0 -1 0 0 0");
        check.due("on the slide", Decks.told(deck, 1), "0 2 -1 0 0 0");
        check.due("its number", Decks.box(deck, two, 1), "2 1 1 1");
        check.due("on the master again", Decks.told(deck, 2), "0 0 -1 1 0 0");
        does(deck, "box 1,1,1,1;sheet 0;box many,1,1,1;", 3);
        check.due("nothing is picked then", deck.value(0, 4, 0), 0);
        fails(deck, "box 1,1,1,1;sheet 0;let a=px;", 3, 20, 3);
        fails(deck, "sheet 3;", 4, 0, 1);
        fails(deck, "let a=1;sheet -1;", 4, 8, 2);
        fails(deck, "sheet 1;", 4, 0, 1);
        fails(deck, "let a=65536;sheet a*a;", 4, 12, 2);
        check.due("begins on the sheet that is given", Decks.run(deck, two, "box here,0,1,1;"), 0);
        check.due("there", deck.shape(5, 1), two);
    }

    private static void copies() {
        SlideDeck deck = new SlideDeck();
        int slide = deck.addSlide(0, 0);
        int text = deck.add(0, 1, 1, 2, 3, 4);
        int box = Decks.box(deck, 0);
        deck.set(0, text, 4, 3);
        deck.set(0, text, 5, 30);
        Decks.write(deck, 0, text, "abc");
        int group = Decks.group(deck, text, box);
        deck.set(0, text, 6, 6);
        deck.set(slide, text, 0, 55);
        does(deck, "pick 1;copy;set pm=pm%4;set px=rank;", 4);
        check.due("a copy of the text", Decks.told(deck, 3), "1 0 -1 1 0 0");
        check.due("a copy of the box", Decks.told(deck, 4), "0 0 -1 2 0 0");
        check.due("values, and it is picked", Decks.values(deck, 0, 3, 0, 6), "0 2 3 4 3 30 2");
        check.due("in this order", deck.value(0, 4, 0), 1);
        check.due("the text of it", Decks.text(deck, 0, 3), "abc");
        check.due("no override", Decks.box(deck, slide, 3), "0 2 3 4");
        check.due("the old one stays", Decks.values(deck, 0, text, 0, 6), "1 2 3 4 3 30 6");
        check.due("in its group", deck.shape(text, 2), group);
        does(deck, "copy;", 1);
        check.due("of nothing", deck.count(2), 5);
    }

    private static void drops() {
        SlideDeck deck = new SlideDeck();
        int slide = deck.addSlide(0, 0);
        for (int i = 0; i < 6; i++) {
            deck.add(0, 0, i, 0, 1, 1);
        }
        int inner = Decks.group(deck, 0, 1);
        int outer = Decks.group(deck, inner, 2);
        deck.set(slide, 3, 0, 50);
        does(deck, "pick px<2 or px=3;drop;box many,9,1,1;", 3);
        check.due("left", Decks.painted(deck, 0), "2 4 5 8");
        check.due("nothing is picked then", deck.value(0, 8, 0), 0);
        check.due("the inner group is gone", deck.count(2), 5);
        check.due("the outer one stays", deck.shape(outer, 4), 1);
        check.due("overrides are gone", deck.overrides(slide), 0);
        does(deck, "pick px=2;drop;", 2);
        check.due("a last member takes its group with it", deck.count(2), 3);
        check.noIndex("gone", deck, () -> deck.shape(outer, 0));
        does(deck, "drop;", 1);
        check.due("of nothing", deck.count(2), 3);
        does(deck, "pick 1;drop;drop;", 3);
        check.due("all", deck.count(2), 0);
    }

    private static void frontAndBack() {
        SlideDeck deck = new SlideDeck();
        for (int i = 0; i < 6; i++) {
            deck.add(0, 0, i, 0, 1, 1);
        }
        does(deck, "pick px=1 or px=3;front;", 2);
        check.due("each on top", Decks.painted(deck, 0), "0 2 4 5 1 3");
        does(deck, "pick px=2 or px=5;back;", 2);
        check.due("each below all others", Decks.painted(deck, 0), "5 2 0 4 1 3");
        Decks.group(deck, 2, 0, 4);
        does(deck, "pick px=2;front;", 2);
        check.due("on top of its group", Decks.painted(deck, 0), "5 0 4 2 1 3");
        does(deck, "pick px=2 or px=4 or px=3;back;", 2);
        check.due("below in its group", Decks.painted(deck, 0), "3 5 2 4 0 1");
        check.due("a member yet", Decks.told(deck, 2), "0 0 6 0 0 0");
        does(deck, "pick px=1;back;front;set pc=5;", 4);
        check.due("picked yet", deck.value(0, 1, 4), 5);
        check.due("order", Decks.painted(deck, 0), "3 5 2 4 0 1");
    }

    private static int left(String script, int steps) {
        SlideDeck deck = new SlideDeck();
        does(deck, script, steps);
        return deck.value(0, deck.count(2) - 1, 0);
    }

    private static void loops() {
        check.due("the number is reckoned once", left("let n=3;repeat n{let n=10;let c=c+1;}box c,0,1,1;", 12), 3);
        check.due("not at all", left("repeat 0{let c=c+1;}box c,0,1,1;", 2), 0);
        check.due("nor of a negative number", left("repeat -5{let c=c+1;}box c,0,1,1;", 2), 0);
        check.due("in one another", left("repeat 2{repeat 3{let c=c+1;}}box c,0,1,1;", 18), 6);
        check.due("in an if", left("if 1{repeat 2{let c=c+2;}}box c,0,1,1;", 7), 4);
        check.due("growing shapes", left("repeat 4{box many+c,0,1,1;let c=c+1;}", 13), 4);
        check.due("2^63 is negative", left("let a=65536;repeat a*a*a*32768{}box 1,0,1,1;", 3), 1);
    }

    private static void branches() {
        check.due("true", left("if 1{let a=5;}else{let a=6;}box a,0,1,1;", 3), 5);
        check.due("false", left("if 0{let a=5;}else{let a=6;}box a,0,1,1;", 3), 6);
        check.due("any other number is true", left("if -3{let a=5;}else{let a=6;}box a,0,1,1;", 3), 5);
        check.due("nothing", left("if 0{let a=5;}box a,0,1,1;", 2), 0);
        check.due("in one another", left("if 1{if 0{let a=1;}else{let a=2;}let b=4;}else{let a=8;}box a+b,0,1,1;", 5), 6);
        check.due("a loop behind it", left("let a=3;if a>2{let a=1;}if a>2{let a=9;}repeat 2{let a=a*2;}box a,0,1,1;", 10), 4);
    }

    /** Each statement in a branch that is not taken, and in a loop without a round. */
    private static void notDone() {
        String[] statements = {"let a=9;", "sheet 1;", "sheet 9;", "pick 0;", "set px=9;", "set px=1/0;", "shift 9,9;",
            "box 9,9,9,9;", "text 9,9,0,9;", "line 9,9,9,9;", "copy;", "drop;", "front;", "back;", "repeat 3{drop;}",
            "if 1{drop;}else{copy;}", "pick 1/0;", "shift 1/0,pm;", "let a=1%0;"};
        for (String statement : statements) {
            notDone("if 0{" + statement + "}", 3);
            notDone("if 1{}else{" + statement + "}", 3);
            notDone("repeat 0{" + statement + "}", 3);
            notDone("repeat -1{if 1{" + statement + "}}", 3);
        }
    }

    private static void notDone(String script, int steps) {
        SlideDeck deck = new SlideDeck();
        deck.addSlide(0, 0);
        deck.add(0, 1, 3, 4, 5, 6);
        deck.add(0, 0, 1, 1, 1, 1);
        does(deck, "pick px=3;" + script + "box a,many,1+here,px;", steps);
        check.due("order behind " + script, Decks.painted(deck, 0), "0 1 2");
        check.due("the shape behind " + script, Decks.box(deck, 0, 0), "3 4 5 6");
        check.due("what was put behind " + script, Decks.box(deck, 0, 2), "0 1 1 3");
    }

    /** Every letter is a variable of its own. */
    private static void letters() {
        for (char letter = 'a'; letter <= 'z'; letter++) {
            char other = letter == 'z' ? 'a' : (char) (letter + 1);
            SlideDeck deck = new SlideDeck();
            does(deck, "let " + letter + "=5;let " + other + "=" + letter + "+1;box " + letter + "," + other + ",1,1;", 3);
            check.due("the variable " + letter, Decks.box(deck, 0, 0), "5 6 1 1");
        }
    }

    private static void zeroDivision() {
        fails("let a=1/0;", 2, 0, 1);
        fails("let a=1%0;", 2, 0, 1);
        fails("let a=1;let b=1/a;let c=1%z;", 2, 18, 3);
        fails("  let a=1; let b=5/(a-1);", 2, 11, 2);
        fails("if 1{let a=1;let b=1/0;}", 2, 13, 3);
        fails("if 1/0{}", 2, 0, 1);
        fails("let a=1;repeat 1/0{}", 2, 8, 2);
        fails("repeat 3{let a=6/(1-b);let b=b+1;}", 2, 9, 6);
        fails("box 0,0,1,1;pick 1/0;", 2, 12, 2);
        fails("pick 1/0;box 0,0,1,1;set px=1/0;", 2, 21, 3);
        fails("box 0,0,1,1;shift 1/0,0;", 2, 12, 2);
        fails("box 0,0,1,1;shift 0,1/0;", 2, 12, 2);
        fails("sheet 0/0;", 2, 0, 1);
        fails("box 0,0,1,1/0;", 2, 0, 1);
        fails("let a=0/0;", 2, 0, 1);
        fails("if 1{}let a=-(1/0);", 2, 6, 2);
    }

    private static void noShapeAtHand() {
        fails("let a=px;", 3, 0, 1);
        fails("let a=kind;", 3, 0, 1);
        fails("let a=rank+many;let a=pm;", 3, 16, 2);
        fails("box 0,0,ph,1;", 3, 0, 1);
        fails("pick 1;let a=kind;", 3, 7, 2);
        fails("box 0,0,1,1;drop;let a=pc;", 3, 17, 3);
        fails("box 0,0,1,1;pick 0;if py{}", 3, 19, 3);
        fails("box 0,0,1,1;pick px;repeat pw{}", 3, 20, 3);
        fails("sheet kind;", 3, 0, 1);
        fails("let a=px/0;", 3, 0, 1);
        fails("let a=1/0+px;", 2, 0, 1);
        SlideDeck deck = new SlideDeck();
        does(deck, "pick px;set px=px;shift px,py;", 3);
        does(deck, "if 0{let a=px;}repeat 0{let a=kind;}", 2);
    }

    private static void ranges() {
        String[] names = {"px", "py", "pw", "ph", "pc", "ps", "pm"};
        int[] least = {-2000, -2000, 1, 1, 0, 4, 0};
        int[] most = {2000, 2000, 2000, 2000, 7, 100, 7};
        for (int i = 0; i < names.length; i++) {
            fails("box 0,0,1,1;set " + names[i] + "=" + (least[i] - 1) + ";", 4, 12, 2);
            fails("box 0,0,1,1;set " + names[i] + "=" + (most[i] + 1) + ";", 4, 12, 2);
            SlideDeck deck = new SlideDeck();
            does(deck, "box 0,0,1,1;set " + names[i] + "=" + least[i] + ";", 2);
            check.due("least " + names[i], deck.value(0, 0, i), least[i]);
            does(deck, "pick 1;set pm=0;set " + names[i] + "=" + most[i] + ";", 3);
            check.due("most " + names[i], deck.value(0, 0, i), most[i]);
        }
        fails("box 2000,0,1,1;shift 1,0;", 4, 15, 2);
        fails("box 0,-2000,1,1;shift 0,-1;", 4, 16, 2);
        fails("box 2001,0,1,1;", 4, 0, 1);
        fails("text 0,-2001,1,1;", 4, 0, 1);
        fails("line 0,0,0,1;", 4, 0, 1);
        fails("box 0,0,1,2001;", 4, 0, 1);
        fails("let a=65536;box 0,0,a*a+1,1;", 4, 12, 2);
    }

    private static SlideDeck lockedBox() {
        SlideDeck deck = new SlideDeck();
        Decks.box(deck, 0);
        Decks.box(deck, 0);
        deck.set(0, 1, 6, 4);
        return deck;
    }

    private static void locks() {
        SlideDeck deck = lockedBox();
        String[] names = {"px", "py", "pw", "ph", "pc", "ps"};
        for (String name : names) {
            fails(deck, "pick 1;set " + name + "=5;", 5, 7, 2);
        }
        fails(deck, "pick 1;shift 0,0;", 5, 7, 2);
        fails(deck, "pick 1;drop;", 5, 7, 2);
        fails(deck, "pick 1;front;", 5, 7, 2);
        fails(deck, "pick 1;back;", 5, 7, 2);
        check.due("nothing has changed", Decks.painted(deck, 0), "0 1");
        does(deck, "pick 1;copy;", 2);
        check.due("a copy is locked too", deck.shape(3, 5), 1);
        does(deck, "pick 1;set pm=0;set px=5;", 3);
        check.due("marks can be set", deck.value(0, 1, 0), 5);
        does(deck, "pick 1;set pm=5*rank%8;", 2);
        check.due("locked by a script", deck.shape(1, 5), 1);
        SlideDeck inGroup = lockedBox();
        int group = Decks.group(inGroup, 0);
        inGroup.set(0, group, 6, 4);
        inGroup.set(0, 1, 6, 0);
        fails(inGroup, "pick rank=0;drop;", 5, 12, 2);
        fails(inGroup, "pick rank=0;set px=1;", 5, 12, 2);
        does(inGroup, "pick rank=0;set pm=1;", 2);
        int slide = inGroup.addSlide(0, 0);
        inGroup.set(slide, group, 6, 0);
        inGroup.set(slide, 1, 6, 4);
        fails(inGroup, "pick rank=0;front;", 5, 12, 2);
        does(inGroup, "pick pm=0;drop;", 2);
    }

    private static void tooManyShapes() {
        SlideDeck deck = new SlideDeck();
        fails(deck, "repeat 101{box 0,0,1,1;}", 4, 11, 203);
        check.due("none", deck.count(2), 0);
        does(deck, "repeat 100{box 0,0,1,1;}", 201);
        check.due("100", deck.count(2), 100);
        fails(deck, "text 0,0,1,1;", 4, 0, 1);
        fails(deck, "line 0,0,1,1/0;", 2, 0, 1);
        fails(deck, "pick 1;copy;", 4, 7, 2);
        does(deck, "pick rank<40;drop;pick rank<40;copy;", 4);
        check.due("100 again", deck.count(2), 100);
        SlideDeck grouped = new SlideDeck();
        does(grouped, "repeat 99{box 0,0,1,1;}", 199);
        Decks.group(grouped, 5);
        fails(grouped, "box 0,0,1,1;", 4, 0, 1);
    }

    private static void steps() {
        SlideDeck deck = new SlideDeck();
        does(deck, "", 0);
        does(deck, "let a=1;sheet 0;pick 1;set px=1;shift 1,1;copy;drop;front;back;", 9);
        does(deck, "box 1,1,1,1;text 1,1,1,1;line 1,1,1,1;", 3);
        does(deck, "if 1{}if 0{let a=1;}else{let a=1;}", 3);
        does(deck, "repeat 3{}", 4);
        does(deck, "repeat 3{let a=1;if 1{}}", 10);
    }

    private static void tooManySteps() {
        does(new SlideDeck(), "repeat 499{}", 500);
        fails("repeat 500{}", 6, 0, 500);
        fails("repeat 250{let a=1;}", 6, 11, 500);
        does(new SlideDeck(), "repeat 249{let a=1;}let b=1;", 500);
        fails("repeat 249{let a=1;}let b=1;let c=1/0;", 6, 28, 500);
        fails("repeat 10{repeat 60{}}", 6, 10, 500);
        fails("let a=999999;repeat a*a*a{}", 6, 13, 500);
        fails("let a=65536;repeat a*a{}", 6, 12, 500);
        fails("repeat 498{}if 1{let a=1;}", 6, 17, 500);
        fails("repeat 499{}if 1{let a=1;}", 6, 12, 500);
        fails("repeat 249{let a=1;}let a=0;repeat 0{}", 6, 28, 500);
    }

    private static void orderOfErrors() {
        SlideDeck deck = lockedBox();
        fails(deck, "pick rank=0 and pm=4;set px=1/0;", 2, 21, 2);
        fails(deck, "pick pm=4;set px=9999;", 5, 10, 2);
        fails(deck, "pick pm=4;shift 9999,1/0;", 2, 10, 2);
        fails(deck, "pick pm=4;shift 9999,0;", 5, 10, 2);
        fails(deck, "pick pm=4;set pm=9;", 4, 10, 2);
        fails(deck, "pick 1;set px=3000/(1-rank);", 4, 7, 2);
        fails(deck, "pick 1;set px=5/rank;", 2, 7, 2);
        fails(deck, "box 9999,1/0,1,1;", 2, 0, 1);
        fails(deck, "box 9999,px,1/0,1;", 3, 0, 1);
        fails(deck, "let a=max(px,1/0);", 3, 0, 1);
        fails(deck, "let a=max(1/0,px);", 2, 0, 1);
        fails(deck, "let a=px=1/0;", 3, 0, 1);
    }

    private static void nothingBehindAnError() {
        SlideDeck deck = new SlideDeck();
        int slide = deck.addSlide(0, 0);
        int a = deck.add(0, 1, 1, 2, 3, 4);
        int b = deck.add(0, 0, 5, 6, 7, 8);
        int group = Decks.group(deck, a);
        deck.set(slide, a, 0, 9);
        Decks.write(deck, slide, a, "abc");
        long before = deck.digest();
        check.due("error", Decks.run(deck, 0, "pick 1;shift 1,1;copy;front;pick px<9;drop;sheet 1;box 1,1,1,1;x=1;"), 1);
        check.due("error 1 changes nothing", deck.digest(), before);
        check.due("error", Decks.run(deck, 0, "pick 1;shift 1,1;copy;front;pick px<9;drop;sheet 1;box 1,1,1,1;sheet 5;"), 4);
        check.due("error 4 changes nothing", deck.digest(), before);
        check.due("the group", Decks.told(deck, group), "3 0 -1 0 1 0");
        check.due("its member", Decks.told(deck, a), "1 0 2 0 0 0");
        check.due("the text there", Decks.text(deck, slide, a), "abc");
        check.due("the order", Decks.painted(deck, 0), a + " " + b);
        check.due("the next number", Decks.box(deck, 0), 3);
    }
}
