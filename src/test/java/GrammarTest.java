/** Promises 45 to 47: what is a script, and where error 1 is. */
final class GrammarTest {
    private static final Check check = new Check();

    public static void main(String[] arguments) {
        fine();
        wrongBytesAndWords();
        wrongTokens();
        endOfTheTape();
        depth();
        longestTokens();
        errorOneIsFirst();
        check.end();
    }

    /** On a new deck with one box the script has to end with this error at this position. */
    private static void ends(String script, int error, int at) {
        SlideDeck deck = new SlideDeck();
        Decks.box(deck, 0);
        Decks.feed(deck, script);
        check.due("error of " + script, deck.run(0), error);
        check.due("position in " + script, deck.errorAt(), at);
        check.due("states behind " + script, deck.states(), error == 0 ? 3 : 2);
        if (error == 1) {
            check.due("steps of " + script, deck.steps(), 0);
        }
    }

    private static void wrong(String script, int at) {
        ends(script, 1, at);
    }

    private static void fine(String script) {
        ends(script, 0, -1);
    }

    private static void fine() {
        fine("");
        fine(" \n ");
        fine("let a=1;");
        fine("let\na\n=\n1\n;\n");
        fine("let a=0;let z=a+1-2*3/4%5;");
        fine("sheet 0;");
        fine("pick 1;set px=1;set py=1;set pw=1;set ph=1;set pc=1;set ps=9;set pm=1;");
        fine("pick 1;shift 1,-1;");
        fine("box 1,2,3,4;text 1,2,3,4;line 1,2,3,4;");
        fine("copy;drop;front;back;");
        fine("repeat 2{}repeat 2{let a=1;}");
        fine("if 1{}if 0{let a=1;}else{}");
        fine("if 1{if 0{}else{}}else{if 1{}}");
        fine("let a=1=1;let a=1<>1;let a=1<1;let a=1>1;let a=1<=1;let a=1>=1;");
        fine("let a=1 or 2 and 3 or 4;let b=(1=2)=(3=4);");
        fine("let a=rank+many+here+slides;pick kind=0;");
        fine("let a=min(1,2)+max(3,4)*abs(5);");
        fine("let a=not 1;let a=not not 1;let a=--1;let a=-not-1;");
        fine("let a=1-1;let a=1--1;");
        fine("let a=000001;let a=999999;");
        fine("pick px+py+pw+ph+pc+ps+pm;");
    }

    private static void wrongBytesAndWords() {
        wrong("let A=1;", 4);
        wrong("let a=1;?", 8);
        wrong("let a=1;\t", 8);
        wrong("let a=1;\r", 8);
        wrong("let a=1;" + (char) 0, 8);
        wrong("let a=1;" + (char) 233, 8);
        wrong("let a=1!", 7);
        wrong("let a=1.5;", 7);
        wrong("let a=1&2;", 7);
        wrong("let _=1;", 4);
        wrong("repeats 1{}", 0);
        wrong("slide;", 0);
        wrong("let ab=1;", 4);
        wrong("let a=ab;", 6);
        wrong("let a=p;let b=px;let c=pz;", 23);
        wrong("let a=repeatx;", 6);
        wrong("let a=1234567;", 6);
        wrong("let a=0000001;", 6);
        wrong("leta=1;", 0);
        wrong("let a=1;frontback;", 8);
        wrong("Let a=1;", 0);
        wrong("  lets a=1;", 2);
        wrong(" ".repeat(599) + "?", 599);
        wrong("let a=1;" + " ".repeat(591) + ";", 599);
    }

    private static void wrongTokens() {
        wrong("a=1;", 0);
        wrong(";", 0);
        wrong("}", 0);
        wrong("else{}", 0);
        wrong("let a 1;", 6);
        wrong("let 1=1;", 4);
        wrong("let px=1;", 4);
        wrong("let a=;", 6);
        wrong("let a=1 2;", 8);
        wrong("let a=1;;", 8);
        wrong("let a=(1;", 8);
        wrong("let a=1);", 7);
        wrong("let a=();", 7);
        wrong("let a=1<2<3;", 9);
        wrong("let a=1=2=3;", 9);
        wrong("let a=*1;", 6);
        wrong("let a=+1;", 6);
        wrong("let a=1+;", 8);
        wrong("let a=1 or;", 10);
        wrong("let a=or 1;", 6);
        wrong("let a=min(1);", 11);
        wrong("let a=max(1,2,3);", 13);
        wrong("let a=abs(1,2);", 11);
        wrong("let a=abs 1;", 10);
        wrong("let a=min;", 9);
        wrong("set a=1;", 4);
        wrong("set kind=1;", 4);
        wrong("set px 1;", 7);
        wrong("shift 1;", 7);
        wrong("shift 1,2,3;", 9);
        wrong("box 1,2,3;", 9);
        wrong("line 1,2,3,4,5;", 12);
        wrong("text;", 4);
        wrong("copy 1;", 5);
        wrong("drop{", 4);
        wrong("pick;", 4);
        wrong("sheet;", 5);
        wrong("repeat 2 let a=1;", 9);
        wrong("repeat{}", 6);
        wrong("repeat 2{};", 10);
        wrong("if 1 2{}", 5);
        wrong("if 1{}else let a=1;", 11);
        wrong("if 1{}else{}else{}", 12);
        wrong("repeat 1{}else{}", 10);
        wrong("if 1{let a=1}", 12);
        wrong("let a=if;", 6);
        wrong("let a=let;", 6);
    }

    private static void endOfTheTape() {
        wrong("let", 3);
        wrong("let a=1", 7);
        wrong("let a=1  ", 9);
        wrong("let a=", 6);
        wrong("let a=(1", 8);
        wrong("repeat 1{", 9);
        wrong("repeat 1{let a=1;", 17);
        wrong("if 1{}else", 10);
        wrong("box 1,", 6);
        wrong("copy", 4);
        wrong("let a=-", 7);
        wrong("set px=", 7);
    }

    private static void depth() {
        fine("let a=" + "(".repeat(10) + "1" + ")".repeat(10) + ";");
        wrong("let a=" + "(".repeat(11) + "1" + ")".repeat(11) + ";", 16);
        fine("let a=" + "-".repeat(10) + "1;");
        wrong("let a=" + "-".repeat(11) + "1;", 16);
        fine("let a=" + "not ".repeat(10) + "1;");
        wrong("let a=" + "not ".repeat(11) + "1;", 46);
        fine("if 1{".repeat(10) + "}".repeat(10));
        wrong("if 1{".repeat(11) + "}".repeat(11), 54);
        fine("if 1{".repeat(9) + "let a=-1;" + "}".repeat(9));
        wrong("if 1{".repeat(9) + "let a=-(1);" + "}".repeat(9), 52);
        fine("if 1{".repeat(8) + "repeat(1){}" + "}".repeat(8));
        fine("let a=" + "-(".repeat(5) + "1" + ")".repeat(5) + ";");
        wrong("let a=" + "-(".repeat(5) + "-1" + ")".repeat(5) + ";", 16);
        wrong("let a=" + "(-".repeat(5) + "(1" + ")".repeat(6) + ";", 16);
        fine("let a=" + "abs(".repeat(10) + "1" + ")".repeat(10) + ";");
        wrong("let a=" + "abs(".repeat(11) + "1" + ")".repeat(11) + ";", 49);
        wrong("let a=" + "(".repeat(10) + "min(1,2)" + ")".repeat(10) + ";", 19);
        fine("let a=" + "(1)+".repeat(20) + "-1--1*-1;");
        fine("let a=" + "(".repeat(9) + "-1+-2" + ")".repeat(9) + "+(1)+-2;");
        fine("if 1{}".repeat(12) + "let a=(1);");
        fine("let a=" + "min(1,2)+max(1,2)+".repeat(12) + "1;");
        fine("let a=" + "abs(-1)+not 1+".repeat(12) + "1;");
        fine("repeat 1{}".repeat(12) + "if 1{}else{}".repeat(12) + "let a=(1);");
        wrong("if 1{".repeat(10) + "let a=" + "(1);" + "}".repeat(10), 56);
        fine("let a=1" + "-1".repeat(20) + ";");
        wrong("if 1{}else{" + "if 1{".repeat(10) + "}".repeat(11), 60);
    }

    private static void longestTokens() {
        fine("let a=1<=2;let a=1<>2;let a=1>=2;");
        fine("let a=2*3;if a=6and 1or 0{}");
        fine("let a=1or 0and 0;");
        wrong("let a=1 or0;let b=1orb;", 19);
        fine("let a=1 or0;");
        wrong("let a=1< =2;", 9);
        wrong("let a=1> =2;", 9);
        wrong("let a=1< >2;", 9);
        wrong("let a=1=<2;", 8);
        wrong("let a=1==2;", 8);
        wrong("let a=1>>2;", 8);
        wrong("let a=1<>=2;", 9);
        wrong("let a=1 and not1 1;", 17);
        wrong("let a=12 34;", 9);
        wrong("let a=b c;", 8);
        wrong("copydrop;", 0);
    }

    /** A script with error 1 does nothing at all, also ahead of the error. */
    private static void errorOneIsFirst() {
        wrong("let a=1/0;let b", 15);
        wrong("box 0,0,0,0;?", 12);
        wrong("repeat 600{}drop", 16);
        SlideDeck deck = new SlideDeck();
        check.due("error", Decks.run(deck, 0, "box 1,2,3,4;copy;x"), 1);
        check.due("no shapes", deck.count(2), 0);
        check.due("no steps", deck.steps(), 0);
        check.due("the tape is empty", deck.feed(0, 1), 1);
    }
}
