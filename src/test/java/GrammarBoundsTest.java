/** The boundary cases of what section 3 says of the tokens and the grammar: where error 1 is, and where none. */
final class GrammarBoundsTest {
    private static final Bounds bounds = new Bounds();
    /** Two boxes, one of them selected, so that a run has something to lose. */
    private static final Story DECK = new Story("add 0 0 5 5 1 1", "add 0 1 6 6 1 1", "select 0 1");
    private static final String[] WORDS = {
        "let", "sheet", "pick", "set", "shift", "box", "text", "line", "copy", "drop", "front", "back", "repeat",
                "if",
        "else", "or", "and", "not", "min", "max", "abs", "kind", "rank", "many", "here", "slides", "px", "py", "pw",
        "ph", "pc", "ps", "pm"};
    /** Scripts in which a blank stands between any two tokens; together they have every way through the grammar. */
    private static final String[] SCRIPTS = {
        "let a = 1 ;", "let z = a or b and c = d + e * f ;", "let a = ( ( 1 ) ) ;", "let a = - not - 1 ;",
        "let a = 1 + 2 - 3 * 4 / 5 % 6 ;", "let a = 1 <> 2 ;", "let a = 1 < 2 ;", "let a = 1 > 2 ;",
        "let a = 1 <= 2 ;", "let a = 1 >= 2 ;", "let a = min ( 1 , 2 ) + max ( 3 , 4 ) + abs ( 5 ) ;",
        "let a = 0 and px + py + pw + ph + pc + ps + pm + kind ;", "let a = rank + many + here + slides ;",
        "sheet 0 ;", "pick px = 5 ; set px = 6 ; set py = 6 ; set pw = 6 ; set ph = 6 ;",
        "pick 1 ; set pc = 6 ; set ps = 6 ; set pm = 6 ;", "pick kind ; shift 1 , 2 ;", "box 1 , 2 , 3 , 4 ; copy ;",
        "text 1 , 2 , 3 , 4 ; front ; back ;", "line 1 , 2 , 3 , 4 ; drop ;", "repeat 2 { }",
        "repeat 2 { let a = 1 ; copy ; }", "if 1 { }", "if 0 { copy ; } else { drop ; }",
        "if 0 { if 1 { } else { } } else { repeat 1 { } }", "if 1 { } if 0 { } else { } copy ;"};

    public static void main(String[] arguments) {
        eachTokenHasToBeThere();
        whatIsLeftOut();
        theEndOfTheTape();
        aByteThatBeginsNoToken();
        blanksAndLineEnds();
        wordsOfSixLetters();
        wordsThatAreNone();
        numbersOfSixDigits();
        variablesOfOneLetter();
        theLongestTokenIsRead();
        tokensReadAsOne();
        tenDeep();
        elevenDeep();
        deepInTurns();
        asDeepAgain();
        theFirstError();
        theLastByteOfTheTape();
        asManyTokensAsThereCanBe();
        bounds.end();
    }

    private static void fine(String script) {
        SlideDeck deck = DECK.fed(script).played();
        bounds.due("error of " + script, "" + deck.run(0), "0");
        bounds.due("position of " + script, "" + deck.errorAt(), "-1");
        bounds.due("state behind " + script, "" + deck.state(), "3");
    }

    private static void wrong(String script, int at) {
        bounds.fails(DECK, 0, script, 1, at, 0);
    }

    private static boolean isWhole(String start) {
        int open = 0;
        for (char one : start.toCharArray()) {
            open += one == '{' ? 1 : one == '}' ? -1 : 0;
        }
        String row = start.trim();
        return open == 0 && (row.isEmpty() || row.endsWith(";") || row.endsWith("}"));
    }

    /** "the first token with which the tokens so far are not the beginning of a script": at each place of each. */
    private static void eachTokenHasToBeThere() {
        for (String script : SCRIPTS) {
            fine(script);
            fine(script.replace(" ", "\n"));
            fine(" " + script + "  \n");
            for (int at = 0; at < script.length(); at++) {
                if (at == 0 || script.charAt(at - 1) == ' ') {
                    wrong(script.substring(0, at) + "? " + script.substring(at), at);
                    wrong(script.substring(0, at) + "elsewhere " + script.substring(at), at);
                }
            }
            wrong(script + "?", script.length());
            wrong(script + ";", script.length());
            wrong(script + "}", script.length());
        }
        wrong("copy;else{}", 5);
        wrong("else{}", 0);
        wrong("if 1{}copy;else{}", 11);
        wrong("if 1{}else{}else{}", 12);
        wrong("repeat 1{}else{}", 10);
    }

    /** Each place at which an expression, a value, a variable or a block has to be, and none is. */
    private static void whatIsLeftOut() {
        wrong("let a=;", 6);
        wrong("let =1;", 4);
        wrong("sheet;", 5);
        wrong("pick;", 4);
        wrong("set px=;", 7);
        wrong("set =1;", 4);
        wrong("shift ,1;", 6);
        wrong("shift 1,;", 8);
        for (String kind : new String[] {"box ", "text ", "line "}) {
            wrong(kind + ",1,1,1;", kind.length());
            wrong(kind + "1,,1,1;", kind.length() + 2);
            wrong(kind + "1,1,,1;", kind.length() + 4);
            wrong(kind + "1,1,1,;", kind.length() + 6);
            wrong(kind + "1,1,1;", kind.length() + 5);
            wrong(kind + "1,1,1,1,1;", kind.length() + 7);
        }
        wrong("repeat{}", 6);
        wrong("repeat 1;", 8);
        wrong("if{}", 2);
        wrong("if 1;", 4);
        wrong("if 1{}else;", 10);
        wrong("let a=();", 7);
        wrong("let a=min(,1);", 10);
        wrong("let a=max(1,);", 12);
        wrong("let a=min(1);", 11);
        wrong("let a=abs();", 10);
        wrong("let a=abs(1,1);", 11);
        wrong("let a=abs 1;", 10);
        for (String operator : new String[] {"+", "-", "*", "/", "%", "=", "<", ">", "<=", ">=", "<>", " or", " and"}) {
            wrong("let a=1" + operator + ";", 7 + operator.length());
            wrong("let a=(1" + operator + ");", 8 + operator.length());
            if (!operator.equals("-")) {
                wrong("let a=" + operator.trim() + " 1;", 6);
            }
        }
        for (String operator : new String[] {"=", "<", ">", "<=", ">=", "<>"}) {
            wrong("let a=1=2" + operator + "3;", 9);
            wrong("let a=1" + operator + "2>3;", 8 + operator.length());
            fine("let a=(1" + operator + "2)" + operator + "(3" + operator + "4);");
            fine("let a=1" + operator + "2 and 3" + operator + "4 or 5" + operator + "6;");
        }
        wrong("let a=-;", 7);
        wrong("let a=not;", 9);
    }

    /** "the end of the tape (at its length)". */
    private static void theEndOfTheTape() {
        for (String script : SCRIPTS) {
            for (int at = 0; at < script.length(); at++) {
                String start = script.substring(0, at);
                if (at > 0 && script.charAt(at - 1) == ' ' && isWhole(start)) {
                    fine(start);
                } else if (at > 0 && script.charAt(at - 1) == ' ') {
                    wrong(start, at);
                    wrong(start + " \n ", at + 3);
                    wrong(start.trim(), at - 1);
                }
            }
        }
        fine("");
    }

    /** "a byte with which no token begins". */
    private static void aByteThatBeginsNoToken() {
        for (int one = 0; one < 256; one++) {
            char sign = (char) one;
            boolean isInAToken = one >= 'a' && one <= 'z' || one >= '0' && one <= '9'
                    || ";,=+-*/%<>(){}".indexOf(one) >= 0;
            if (one == ' ' || one == '\n') {
                fine("" + sign);
                fine("let a=1" + sign + ";" + sign);
            } else if (!isInAToken) {
                wrong("" + sign, 0);
                wrong("let a=1;" + sign, 8);
                wrong("let a=1" + sign + ";", 7);
            }
        }
        for (char sign : ";,=+-*/%<>(){}".toCharArray()) {
            wrong("" + sign, 0);
            wrong("let a=1;" + sign, 8);
        }
    }

    /** "blanks (32) and line ends (10) can stand between them": no other byte can. */
    private static void blanksAndLineEnds() {
        fine("\n \nlet\n\na =\n1 ; \n");
        for (char one : new char[] {0, 9, 11, 12, 13, 31, 127, 160}) {
            wrong("let" + one + "a=1;", 3);
            wrong("let a=1;" + one, 8);
            wrong(one + "let a=1;", 0);
        }
    }

    /** "A word: letters a to z, at most 6", "a word of more than 6 letters". */
    private static void wordsOfSixLetters() {
        fine("repeat 1{}");
        fine("let a=slides;");
        wrong("repeats 1{}", 0);
        wrong("repeata 1{}", 0);
        wrong("let a=slidess;", 6);
        wrong("let a=slidesa;", 6);
        wrong("abcdef", 0);
        wrong("abcdefg", 0);
        wrong("let a=" + "a".repeat(500) + ";", 6);
        wrong("a".repeat(600), 0);
        wrong("letlet a=1;", 0);
        wrong("let a=1;copycopy;", 8);
        wrong("let repeata=1;", 4);
    }

    /** "one that is none of those above": each word short of a letter, or with one more. */
    private static void wordsThatAreNone() {
        for (String word : WORDS) {
            wrong(word + "q ", 0);
            wrong("q" + word + " ", 0);
            wrong("let a=" + word + "q;", 6);
            wrong("let a=q" + word + ";", 6);
            if (word.length() > 2) {
                wrong("let a=" + word.substring(1) + ";", 6);
                wrong("let a=" + word.substring(0, word.length() - 1) + ";", 6);
            }
            wrong("let a=" + word.toUpperCase() + ";", 6);
        }
        wrong("Let a=1;", 0);
    }

    /** "A number: 1 to 6 digits", "a number of more than 6 digits". */
    private static void numbersOfSixDigits() {
        fine("let a=0;let a=9;let a=10;let a=99999;let a=100000;let a=999999;let a=000000;");
        wrong("let a=1000000;", 6);
        wrong("let a=0000000;", 6);
        wrong("let a=0000001;", 6);
        wrong("let a=9999999;", 6);
        wrong("let a=" + "1".repeat(500) + ";", 6);
        wrong("1".repeat(600), 0);
        wrong("let a=1+1234567;", 8);
        wrong("let a=12345678901234567890;", 6);
        bounds.answers(new Story().ran(0, "let a=999999;box a/999,a%1000,1,1;"), "value 0 0 0", "1001", "value 0 0 1",
                "999");
        bounds.answers(new Story().ran(0, "box 000007,000,000001,0001;"), "value 0 0 0", "7", "value 0 0 1", "0");
    }

    /** "A variable is a word of one letter": each of the 26, "0 at first". */
    private static void variablesOfOneLetter() {
        for (char letter = 'a'; letter <= 'z'; letter++) {
            bounds.answers(new Story().ran(0, "let " + letter + "=" + letter + "+7;box " + letter + ",0,1,1;"),
                    "value 0 0 0", "7");
            wrong("let " + letter + letter + "=1;", 4);
            wrong("" + letter + "=1;", 0);
        }
        StringBuilder sum = new StringBuilder("a");
        StringBuilder script = new StringBuilder();
        for (char letter = 'a'; letter <= 'z'; letter++) {
            script.append("let ").append(letter).append('=').append(letter - 'a' + 1).append(';');
            sum.append(letter > 'a' ? "+" + letter : "");
        }
        bounds.answers(new Story().ran(0, script + "box " + sum + ",0,1,1;"), "value 0 0 0", "351");
        wrong("let 1=1;", 4);
        wrong("let A=1;", 4);
        wrong("let px=1;", 4);
    }

    /** "the longest possible token is read". */
    private static void theLongestTokenIsRead() {
        fine("let a=1<=2;let a=1>=2;let a=1<>2;");
        wrong("let a=1< =2;", 9);
        wrong("let a=1> =2;", 9);
        wrong("let a=1< >2;", 9);
        wrong("let a=1<\n>2;", 9);
        wrong("let a=1=<2;", 8);
        wrong("let a=1=>2;", 8);
        wrong("let a=1><2;", 8);
        wrong("let a=1<<2;", 8);
        wrong("let a=1==2;", 8);
        wrong("let a=1<>=2;", 9);
        wrong("let a=1<=>2;", 9);
        fine("let a=1<-2;let a=1=-2;let a=1>-2;let a=1<=-2;let a=1<>-2;");
        bounds.answers(new Story().ran(0, "box 1<=1,1>=1,1+(1<>1),1;"), "value 0 0 0", "1", "value 0 0 1", "1");
    }

    /** "and have to, where two would otherwise be read as one" - and only there. */
    private static void tokensReadAsOne() {
        fine("let a=1or 2;let a=1and 2;let a=not(1);let a=1or(2)and(3);");
        fine("if 1{copy;}else{drop;}repeat 1{}box 1,2,3,4;let a=2*3;");
        fine("if(1){}repeat(1){}pick(1);sheet(0);let a=min(1,2)or 3;");
        fine("let a=5or 6;pick 1and 1;set px=1;shift-1,-1;sheet-0;box-1,-2,3,4;");
        wrong("leta=1;", 0);
        wrong("let a=1or2 3;", 11);
        wrong("let a=1 ora;", 8);
        wrong("let a=1 andnot 1;", 8);
        wrong("let a=nota;", 6);
        wrong("setpx=1;", 0);
        wrong("let a=1 2;", 8);
        wrong("let a=b c;", 8);
        wrong("if a b{}", 5);
        fine("let a=not1;");
    }

    private static String deep(String open, int times, String inside, String close) {
        return open.repeat(times) + inside + close.repeat(times);
    }

    /** "all together at most 10 deep". */
    private static void tenDeep() {
        fine("let a=" + deep("(", 10, "1", ")") + ";");
        fine("let a=" + deep("-", 10, "1", "") + ";");
        fine("let a=" + deep("not ", 10, "1", "") + ";");
        fine("let a=" + deep("abs(", 10, "1", ")") + ";");
        fine("let a=" + deep("min(1,", 10, "1", ")") + ";");
        fine("let a=" + deep("max(", 10, "1", ",2)") + ";");
        fine(deep("if 1{", 10, "copy;", "}"));
        fine(deep("repeat 1{", 10, "copy;", "}"));
        fine(deep("if 0{}else{", 10, "copy;", "}"));
        fine(deep("if 1{", 9, "let a=(1);", "}"));
        fine(deep("if 1{", 9, "let a=-1;let b=not 1;box -1,(2),abs(3),min(4,4);", "}"));
        fine(deep("if 1{", 9, "if(1){}repeat(1){copy;}if not 0{}else{}", "}"));
    }

    /** "and the '(', '{', '-' or 'not' with which it would be 11 deep": its position is that of its first byte. */
    private static void elevenDeep() {
        wrong("let a=" + deep("(", 11, "1", ")") + ";", 16);
        wrong("let a=" + deep("-", 11, "1", "") + ";", 16);
        wrong("let a=" + deep("not ", 11, "1", "") + ";", 46);
        wrong("let a=" + deep("abs(", 11, "1", ")") + ";", 49);
        wrong("let a=" + deep("min(1,", 11, "1", ")") + ";", 69);
        wrong("let a=" + deep("max(", 11, "1", ",2)") + ";", 49);
        wrong("let a=" + deep("(", 11, "", ""), 16);
        wrong("let a=" + deep("(", 300, "", ""), 16);
        wrong("let a=" + deep("-", 590, "", ""), 16);
        wrong(deep("if 1{", 11, "copy;", "}"), 54);
        wrong(deep("if 1{", 110, "", ""), 54);
        wrong(deep("repeat 1{", 11, "copy;", "}"), 98);
        wrong(deep("if 0{}else{", 10, "if 1{}", "}"), 114);
        wrong(deep("if 0{}else{", 10, "repeat 0{}", "}"), 118);
        wrong(deep("if 1{", 10, "let a=(1);", "}"), 56);
        wrong(deep("if 1{", 10, "let a=-1;", "}"), 56);
        wrong(deep("if 1{", 10, "let a=not 1;", "}"), 56);
        wrong(deep("if 1{", 10, "let a=abs(1);", "}"), 59);
        wrong(deep("if 1{", 10, "pick 1-(1);", "}"), 57);
        fine(deep("if 1{", 10, "let a=1-1;", "}"));
        wrong(deep("if 1{", 10, "let a=1--1;", "}"), 58);
    }

    /** Braces, parentheses, "-" and "not" count together. */
    private static void deepInTurns() {
        fine("let a=" + deep("-(", 5, "1", ")") + ";");
        wrong("let a=" + deep("-(", 5, "-1", ")") + ";", 16);
        wrong("let a=" + deep("-(", 5, "(1)", ")") + ";", 16);
        wrong("let a=" + deep("-(", 5, "not 1", ")") + ";", 16);
        fine("let a=" + deep("not(", 5, "1", ")") + ";");
        wrong("let a=" + deep("not(", 5, "abs(1)", ")") + ";", 29);
        fine("if " + deep("(", 10, "1", ")") + "{" + "}");
        fine(deep("if 1{", 5, "let a=" + deep("-", 5, "1", "") + ";", "}"));
        wrong(deep("if 1{", 5, "let a=" + deep("-", 6, "1", "") + ";", "}"), 36);
        fine(deep("if 1{", 5, "let a=" + deep("(", 5, "1", ")") + ";", "}"));
        wrong(deep("if 1{", 5, "let a=" + deep("(", 6, "1", ")") + ";", "}"), 36);
        fine(deep("if 1{", 9, "if (1){}", "}"));
        wrong(deep("if 1{", 9, "if ((1)){}", "}"), 49);
        wrong(deep("if 1{", 9, "if (-1){}", "}"), 49);
    }

    /** What is closed is no more deep: as often as one likes, one behind the other. */
    private static void asDeepAgain() {
        fine("let a=" + "(1)+".repeat(40) + "1;");
        fine("let a=" + "-1+".repeat(40) + "1;");
        fine("let a=" + "not 1+".repeat(40) + "1;");
        fine("let a=" + "abs(1)+".repeat(40) + "1;");
        fine("let a=" + "min(1,2)+".repeat(40) + "1;");
        fine("if 1{}".repeat(40));
        fine("if 0{}else{}".repeat(40));
        fine("repeat 1{}".repeat(40));
        fine("let a=" + (deep("(", 10, "1", ")") + "+").repeat(10) + "1;");
        fine("let a=" + deep("(", 9, "(1)+(1)*-1-not 1", ")") + "-" + deep("-", 10, "1", "") + ";");
        fine(deep("if 1{", 10, "", "}").repeat(5));
        fine("let a=1" + "+1".repeat(290) + ";");
        fine("let a=1" + "-1".repeat(290) + ";");
    }

    /** Error 1 is the first one, and a script with it does nothing at all, whatever stands ahead. */
    private static void theFirstError() {
        wrong("box 1,1,1,1;drop;?!", 17);
        wrong("box 1,1,1,1;pick 1;drop;let a=1/0;sheet 9;let a=1234567;abcdefg", 48);
        wrong("repeat 999999{}?", 15);
        wrong("if 0{?}", 5);
        wrong("if 1{}else{?}", 11);
        wrong("repeat 0{?}", 9);
        wrong("let a=1 or ?;", 11);
        wrong("let a=0 and ?;", 12);
        wrong("pick 1;set px=?;", 14);
    }

    /** Tokens and errors up to the last of 600 bytes. */
    private static void theLastByteOfTheTape() {
        fine(" ".repeat(592) + "let a=1;");
        fine("let a=1;" + " ".repeat(592));
        fine("copy;".repeat(120));
        wrong(" ".repeat(599) + "?", 599);
        wrong(" ".repeat(599) + "a", 599);
        wrong("copy;".repeat(119) + "copy ", 600);
        wrong("copy;".repeat(119) + " copy", 600);
        wrong("let a=" + " ".repeat(594), 600);
        wrong(" ".repeat(594) + "let a=", 600);
        wrong(" ".repeat(593) + "let a=1", 600);
        wrong(" ".repeat(594) + "repeat", 600);
        wrong(" ".repeat(593) + "repeats", 593);
        wrong(" ".repeat(594) + "123456", 594);
        wrong("let a=" + " ".repeat(588) + "123456", 600);
        wrong("let a=" + " ".repeat(587) + "1234567", 593);
        wrong("let a=1" + " ".repeat(592) + "<", 600);
    }

    /** Tokens of one byte each behind the first word: the error behind, or at, the last of them has its place. */
    private static void asManyTokensAsThereCanBe() {
        wrong("if" + "1+".repeat(299), 600);
        wrong("if" + "1+".repeat(298) + "1{", 600);
        wrong("if" + "1+".repeat(298) + "1;", 599);
        wrong("if" + "1+".repeat(298) + "++", 598);
        fine("if" + "0*".repeat(297) + "1{}" + " ");
    }
}
