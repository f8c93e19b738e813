/** "2. Two languages": each sentence that names a boundary, on both sides of it. */
public final class LanguageEdges {
    private static final String[] KEYWORDS = ("pier joint card from to bears put take cut glue write repeat if else holds "
            + "hangs load all fits not and or min max").split(" ");

    public static void main(String[] args) {
        tapeOfTwoThousand();
        tapeIsEmptyBehind();
        blanksAndLineEnds();
        blanksThatHaveToStand();
        longestTokens();
        signsOfWords();
        wordsOfTen();
        signsOfNumbers();
        numbersOfSix();
        symbols();
        keywords();
        emptyTexts();
        roundBrackets();
        squareBrackets();
        curlyBrackets();
        signsInFront();
        nots();
        depthOfAll();
        depthGoesBack();
        endOfTape();
        bytesWithoutToken();
        fourHundredTokens();
        fourHundredTokensOfDesigns();
        error1First();
        errorsFromLeftToRight();
        smallestErrorOfOneToken();
        error2();
        error3OfDesigns();
        error3OfScripts();
        error4();
        error5OfBears();
        error5OfRepeat();
        numbersWithoutRange();
        error6();
        buildTakesAllAway();
        fourHundredStatements();
        statementsOfRepeatAndIf();
        statementsInFullBlocks();
        whatWasDoneStays();
        putHeld();
        takeHeld();
        putDoesNotWrap();
        cutAndGlue();
        paperOfFiveHundred();
        digitsOfLines();
        repeats();
        ifAndElse();
        bothSides();
        andBindsMore();
        Check.end("LanguageEdges");
    }

    private static void builds(String design, int error, int errorAt) {
        Check.buildIs(new CardBridge(), design, error, errorAt);
    }

    private static void runs(String script, int error, int errorAt) {
        Check.runIs(Bridges.small(), script, error, errorAt);
    }

    private static String times(int n, String text) {
        return text.repeat(n);
    }

    // ---- the tape

    /** "The tape is a row of at most 2000 bytes, at first empty". */
    private static void tapeOfTwoThousand() {
        CardBridge x = new CardBridge();
        Check.same("at first", x.count(8), 0);
        for (int i = 1; i <= 100; i++) {
            Check.same("feed " + i, x.feed(0x20202020, 0x20202020, 0x20202020, 0x20202020, 0x20202020), 20 * i);
        }
        Check.same("2000 bytes", x.count(8), 2000);
        Check.throwsOnly("a feed to 2020", x, Check.STATE, () -> x.feed(0, 0, 0, 0, 0));
        x.trim(1999);
        Check.throwsOnly("a feed to 2019", x, Check.STATE, () -> x.feed(0, 0, 0, 0, 0));
        x.trim(1981);
        Check.throwsOnly("a feed to 2001", x, Check.STATE, () -> x.feed(0, 0, 0, 0, 0));
        x.trim(1980);
        Check.same("a feed to 2000", x.feed(0, 0, 0, 0, 0), 2000);
        // All 2000 bytes are read: a design to the last byte, and one that lacks it.
        String design = "pier p;" + times(1986, " ") + "pier q;";
        builds(design, 0, -1);
        CardBridge y = new CardBridge();
        Check.build(y, design);
        Check.same("what stands at the end is built", y.count(0), 2);
        builds("pier p;" + times(1987, " ") + "pier q", 1, 2000);
        builds(times(2000, " "), 0, -1);
        runs(times(2000, "\n"), 0, -1);
        runs(times(1992, "\n") + "write 7;", 0, -1);
        runs(times(1993, "\n") + "write 7", 1, 2000);
    }

    /** ".. and it is empty behind them": build() and run(), with an error or without. */
    private static void tapeIsEmptyBehind() {
        String[] texts = {"pier p;", "pier", "pier p; pier p;", "joint a; card k from a to a bears 3;", "write 1;", "write", "cut z;",
            "repeat 41 [ ]", "repeat 40 [ repeat 40 [ ] ]", "", "\u0000"};
        for (String text : texts) {
            CardBridge x = new CardBridge();
            Check.write(x, text);
            x.build();
            Check.same("the tape behind build() of " + text, x.count(8), 0);
            Check.throwsOnly("trim(1) behind build() of " + text, x, Check.ARGUMENT, () -> x.trim(1));
            Check.same("the first feed behind it", x.feed(0x70696572, 0x2070703b, 0x20202020, 0x20202020, 0x20202020), 20);
            Check.same("is all that is built", x.build(), 0);
            CardBridge y = new CardBridge();
            Check.write(y, text);
            y.run();
            Check.same("the tape behind run() of " + text, y.count(8), 0);
            Check.throwsOnly("trim(1) behind run() of " + text, y, Check.ARGUMENT, () -> y.trim(1));
            Check.same("a run of nothing", y.run(), 0);
        }
    }

    // ---- tokens

    /** "Blanks (32) and line ends (10) can stand between tokens, at the beginning and at the end". */
    private static void blanksAndLineEnds() {
        builds(" pier p ; ", 0, -1);
        builds("\npier\np\n;\n", 0, -1);
        builds("  \n \n pier \n\n  p \n ;  \n\n", 0, -1);
        runs("\n\n write  \n (  1 \n+  2 )  \n ; \n", 0, -1);
        // No other byte is a blank.
        for (char sign : new char[] {0, 8, 9, 11, 12, 13, 31, 33, 127, 128, 133, 160, 255}) {
            builds("pier" + sign + "p;", 1, 4);
            builds(sign + "pier p;", 1, 0);
            builds("pier p;" + sign, 1, 7);
        }
    }

    /** ".. and have to stand between two tokens that would otherwise be read as one." */
    private static void blanksThatHaveToStand() {
        builds("pier p;", 0, -1);
        builds("pierp;", 1, 0);
        builds("joint a;pier p;card k from p to a bears 3;", 0, -1);
        builds("joint a;pier p;card k from p to a bears3;", 1, 34);
        builds("joint a;pier p;card k fromp to a bears 3;", 1, 22);
        runs("repeat 1[]", 0, -1);
        runs("repeat1[]", 1, 0);
        runs("if not holds[]", 0, -1);
        runs("if notholds[]", 1, 3);
        runs("write load a;", 0, -1);
        runs("write loada;", 1, 6);
        // Behind a number a word is another token.
        runs("if 1=1and 1=1or 2=2[]else[]", 0, -1);
        runs("if 1=1 and1=1[]", 1, 7);
    }

    /** "The longest possible token is always read." */
    private static void longestTokens() {
        runs("if 1<=1[]if 1>=1[]", 0, -1);
        runs("if 1< =1[]", 1, 6);
        runs("if 1> =1[]", 1, 6);
        runs("if 1<\n=1[]", 1, 6);
        runs("if 1=<1[]", 1, 5);
        runs("if 1=>1[]", 1, 5);
        runs("if 1<>1[]", 1, 5);
        runs("if 1<==1[]", 1, 6);
        runs("if 1<=-1[]if 1>--1[]", 0, -1);
        runs("write 12;", 0, -1);
        runs("write 1 2;", 1, 8);
        builds("pier pier1;", 0, -1);
        builds("pier pier 1;", 1, 5);
        runs("if holds[write 1;]elseif holds[]", 1, 18);
        // A < or > that ends the tape is one alone.
        runs("if 1<", 1, 5);
        runs("if 1>", 1, 5);
        // What stood behind the end of the tape belongs to no token.
        CardBridge x = Bridges.small();
        Check.write(x, "if 1<=1[write 1;]");
        x.trim(5);
        Check.same("the = that was trimmed away", x.run(), 1);
        Check.same("is not read", x.errorAt(), 5);
        Check.write(x, "write 1234;");
        x.trim(8);
        Check.same("digits that were trimmed away", x.run(), 1);
        Check.same("are not read", x.errorAt(), 8);
    }

    /** "A word: a letter a to z, followed by letters a to z and digits". */
    private static void signsOfWords() {
        for (int sign = 0; sign < 256; sign++) {
            boolean isLetter = sign >= 'a' && sign <= 'z';
            boolean isDigit = sign >= '0' && sign <= '9';
            boolean isBlank = sign == ' ' || sign == '\n';
            builds("pier " + (char) sign + ";", isLetter ? 0 : 1, isLetter ? -1 : isBlank ? 6 : 5);
            boolean isWhole = isLetter || isDigit || isBlank;
            int error = sign == ';' ? 7 : 6;
            builds("pier p" + (char) sign + ";", isWhole ? 0 : 1, isWhole ? -1 : error);
        }
    }

    /** ".. at most 10 bytes." */
    private static void wordsOfTen() {
        builds("pier a;", 0, -1);
        builds("pier abcdefghij;", 0, -1);
        builds("pier abcdefghijk;", 1, 5);
        builds("pier abcdefghij k;", 1, 16);
        builds("pier a000000000;", 0, -1);
        builds("pier a0000000000;", 1, 5);
        builds("pier zzzzzzzzzz;pier zzzzzzzzz;", 0, -1);
        builds("pier zzzzzzzzzz;pier zzzzzzzzzz;", 2, 21);
        builds("pier " + times(1994, "a") + ";", 1, 5);
        // Too long a word is an error of its own, also where it would be too much in any case, and at the end.
        builds("pier p abcdefghijk;", 1, 7);
        builds("pier abcdefghijk", 1, 5);
        builds("piertocardto;", 1, 0);
        runs("put abcdefghijk 1;", 1, 4);
        runs("put abcdefghij 1;", 3, 4);
        // Names differ in their last byte, too.
        CardBridge x = Bridges.built("pier abcdefghij; joint abcdefghik; joint abcdefghi;");
        Check.run(x, "put abcdefghij 1; put abcdefghik 2; put abcdefghi 3;");
        for (int j = 0; j < 3; j++) {
            Check.same("the load of joint " + j, x.joint(j, 1), j + 1);
        }
    }

    /** "A number: 1 to 6 digits." */
    private static void signsOfNumbers() {
        for (int sign = 0; sign < 256; sign++) {
            boolean isRight = sign >= '0' && sign <= '9' || sign == ' ' || sign == '\n';
            // Of the other bytes only a [ goes on, and then the [ behind it does not.
            runs("repeat 0" + (char) sign + "[]", isRight ? 0 : 1, isRight ? -1 : sign == '[' ? 9 : 8);
        }
        runs("repeat [ ]", 1, 7);
        runs("write 0;", 0, -1);
        runs("write ;", 1, 6);
    }

    /** ".. 1 to 6 digits." */
    private static void numbersOfSix() {
        Check.writes(new CardBridge(), "write 0; write 9; write 10; write 000000; write 000001;", "0|9|10|0|1|");
        Check.writes(new CardBridge(), "write 99999; write 100000; write 999999;", "99999|100000|999999|");
        runs("write 999999;", 0, -1);
        runs("write 1000000;", 1, 6);
        runs("write 0000000;", 1, 6);
        runs("write 0000001;", 1, 6);
        runs("write 999999 9;", 1, 13);
        runs("write " + times(1993, "9") + ";", 1, 6);
        runs("repeat 000040 [ ]", 0, -1);
        runs("repeat 0000040 [ ]", 1, 7);
        runs("write 1 1000000;", 1, 8);
        runs("write 1+1000000;", 1, 8);
        runs("write(1000000);", 1, 6);
    }

    /** "Symbols: ( ) [ ] { } ; , + - * / < > = <= >=": each where it goes on, and all others nowhere. */
    private static void symbols() {
        runs("if{min(1,2)+3-4*5/6<7}and 1>2 or 1=2 or 1<=2 or 1>=2[write(1);]", 0, -1);
        for (String other : new String[] {"!", "\"", "#", "$", "%", "&", "'", ".", ":", "?", "@", "\\", "^", "_", "`", "|", "~", "A", "Z"}) {
            runs("write 1" + other + "1;", 1, 7);
            runs(other, 1, 0);
            builds(other, 1, 0);
        }
    }

    /** "The keywords are: .. All other words are names." */
    private static void keywords() {
        for (String keyword : KEYWORDS) {
            builds("pier " + keyword + ";", 1, 5);
            builds("pier p; card " + keyword + " from p to p bears 1;", 1, 13);
            runs("put " + keyword + " 1;", 1, 4);
            builds("pier " + keyword + "0;", 0, -1);
            builds("pier x" + keyword + ";", 0, -1);
            String shorter = keyword.substring(0, keyword.length() - 1);
            builds("pier " + shorter + ";", 0, -1);
        }
        builds("pier max1; joint min1; joint o; joint ands; joint t; card i from t to o bears 1;", 0, -1);
    }

    /** { x } is x any number of times, also none. */
    private static void emptyTexts() {
        builds("", 0, -1);
        runs("", 0, -1);
        runs("repeat 1 []", 0, -1);
        runs("if holds [] else []", 0, -1);
        runs("[]", 1, 0);
        runs("repeat []", 1, 7);
        // A statement begins with its keyword, and nothing else.
        for (String other : new String[] {"holds[]", "1=1[]", "else[]", "not holds[]", "{holds}[]", "a 1;", "1;", ";", "bears;"}) {
            runs(other, 1, 0);
            runs("cut k;" + other, 1, 6);
            runs("if holds[" + other + "]", 1, 9);
        }
        runs("if if holds[]", 1, 3);
        runs("if;", 1, 2);
    }

    // ---- depth

    /** "1 greater between a ( and its )", at most 8. */
    private static void roundBrackets() {
        runs("write " + times(8, "(") + "1" + times(8, ")") + ";", 0, -1);
        runs("write " + times(9, "(") + "1" + times(9, ")") + ";", 1, 14);
        runs("write " + times(8, "min(") + "1" + times(8, ",2)") + ";", 0, -1);
        runs("write " + times(9, "min(") + "1" + times(9, ",2)") + ";", 1, 6 + 8 * 4 + 3);
        runs("write " + times(8, "max(1,") + "2" + times(8, ")") + ";", 0, -1);
        runs("write " + times(9, "max(1,") + "2" + times(9, ")") + ";", 1, 6 + 8 * 6 + 3);
        runs("if 1<" + times(8, "(") + "1" + times(8, ")") + "[]", 0, -1);
        runs("if 1<" + times(9, "(") + "1" + times(9, ")") + "[]", 1, 13);
    }

    /** "a [ and its ]". */
    private static void squareBrackets() {
        runs(times(8, "repeat 1[") + times(8, "]"), 0, -1);
        runs(times(9, "repeat 1[") + times(9, "]"), 1, 8 * 9 + 8);
        runs(times(8, "if holds[") + times(8, "]"), 0, -1);
        runs(times(9, "if holds[") + times(9, "]"), 1, 8 * 9 + 8);
        runs(times(8, "if holds[]else[") + times(8, "]"), 0, -1);
        runs(times(8, "if holds[]else[") + "write 1;" + times(8, "]"), 0, -1);
        runs(times(8, "if holds[]else[") + "if holds[]" + times(8, "]"), 1, 8 * 15 + 8);
    }

    /** "a { and its }". */
    private static void curlyBrackets() {
        runs("if " + times(8, "{") + "holds" + times(8, "}") + "[]", 0, -1);
        runs("if " + times(9, "{") + "holds" + times(9, "}") + "[]", 1, 11);
    }

    /** "behind a - in front (of a value) for what it turns". */
    private static void signsInFront() {
        Check.writes(new CardBridge(), "write " + times(8, "-") + "1;", "1|");
        Check.writes(new CardBridge(), "write 0" + times(9, "-") + "1;", "-1|");
        runs("write " + times(9, "-") + "1;", 1, 14);
        runs("write 0" + times(10, "-") + "1;", 1, 16);
        runs("write " + times(8, "-") + "load a;", 0, -1);
        runs("write " + times(8, "-") + "(1);", 1, 14);
        runs("write " + times(8, "-") + "min(1,2);", 1, 17);
        // A - between two products is none in front.
        runs("write " + times(150, "1-") + "1;", 0, -1);
    }

    /** "and behind a not for what it turns". */
    private static void nots() {
        runs("if " + times(8, "not ") + "holds[]", 0, -1);
        runs("if " + times(9, "not ") + "holds[]", 1, 3 + 8 * 4);
        runs("if " + times(8, "not ") + "hangs a[]", 0, -1);
        runs("if " + times(8, "not ") + "1<2[]", 0, -1);
        runs("if " + times(8, "not ") + "-1<2[]", 1, 3 + 8 * 4);
        runs("if " + times(8, "not ") + "1<-2[]", 1, 3 + 8 * 4 + 2);
        runs("if " + times(8, "not ") + "{holds}[]", 1, 3 + 8 * 4);
    }

    /** "It may be at most 8": of all kinds together. */
    private static void depthOfAll() {
        String ahead = "repeat 1[if{not{not{-min(1,";
        String behind = ") < 2}}}[]]";
        runs(ahead + "2" + behind, 0, -1);
        runs(ahead + "-2" + behind, 1, ahead.length());
        runs(ahead + "(2)" + behind, 1, ahead.length());
        runs("repeat 1[" + ahead + "2" + behind + "]", 1, 9 + ahead.indexOf('('));
        // The block of an if stands beside its test, not in it.
        runs("if{{{{{{{{1=1}}}}}}}}[write((((((1))))));]else[write((((((1))))));]", 0, -1);
        runs("if{{{{{{{{1=1}}}}}}}}[write(((((((1)))))));]", 0, -1);
        runs("if{{{{{{{{1=1}}}}}}}}[write((((((((1))))))));]", 1, 34);
    }

    /** The depth is greater for what is turned or stands between, and not behind it. */
    private static void depthGoesBack() {
        String eight = times(8, "(") + "1" + times(8, ")");
        Check.writes(new CardBridge(), "write " + eight + "+" + eight + "*" + eight + ";", "2|");
        Check.writes(new CardBridge(), "write " + times(8, "-") + "1-" + times(8, "-") + "1;", "0|");
        Check.writes(new CardBridge(), "write -1+" + eight + "*-" + times(7, "-") + "1;", "0|");
        Check.writes(new CardBridge(), "write min(" + times(7, "-") + "1," + times(7, "(") + "3" + times(7, ")") + ");", "-1|");
        runs("if " + times(8, "not ") + "holds and " + times(8, "not ") + "holds or " + times(8, "{") + "holds" + times(8, "}") + "[]", 0, -1);
        runs("if not holds and " + times(8, "{") + "holds" + times(8, "}") + "[]", 0, -1);
        runs("if not -1<" + times(7, "-") + "1[]", 0, -1);
        runs("if not -1<" + times(8, "-") + "1[]", 1, 17);
        runs(times(20, "repeat 0[]") + times(8, "repeat 0[") + times(8, "]") + times(8, "repeat 0[") + times(8, "]"), 0, -1);
    }

    // ---- errors

    /** "the end of the tape (at its length)". */
    private static void endOfTape() {
        builds("pier", 1, 4);
        builds("pier p", 1, 6);
        builds("pier p ", 1, 7);
        builds("pier p \n\n ", 1, 10);
        builds("pier p; joint a; card k from p to a bears 3", 1, 43);
        runs("if holds [ ", 1, 11);
        runs("if holds [ ] else", 1, 17);
        runs("if holds [ ] else ", 1, 18);
        runs("write 1", 1, 7);
        runs("write (1", 1, 8);
        runs("write 1+", 1, 8);
        runs("repeat 1[repeat 1[]", 1, 19);
        // Both may end here.
        runs("if holds [ ]", 0, -1);
        builds("pier p;", 0, -1);
    }

    /** "a byte with which no token begins". */
    private static void bytesWithoutToken() {
        for (char sign : new char[] {0, 1, 9, 13, 31, '!', '"', '#', '.', ':', '?', '@', 'A', 'Z', '\\', '_', '`', '|', '~', 127, 128, 255}) {
            runs("write 1;" + sign, 1, 8);
            runs("write 1" + sign, 1, 7);
            runs("write 1; \n" + sign + " write", 1, 10);
            // The first error counts: what is wrong ahead of it, not the byte.
            runs("write 1 1; " + sign, 1, 8);
        }
    }

    /** "the token that would be the 401st (the end of the tape not counted)". */
    private static void fourHundredTokens() {
        runs(times(133, "cut k;"), 0, -1);
        runs(times(132, "cut k;") + "write 1;" + " ", 0, -1);
        runs(times(131, "cut k;") + "write 1+2; ", 0, -1);
        // 399 tokens, and a 400th that begins what can't be ended any more.
        runs(times(133, "cut k;") + "cut", 1, 133 * 6 + 3);
        runs(times(133, "cut k;") + "cut ", 1, 133 * 6 + 4);
        runs(times(133, "cut k;") + "cut k;", 1, 133 * 6 + 4);
        runs(times(132, "cut k;") + "put a 1;", 0, -1);
        runs(times(132, "cut k;") + "put a 1; \n", 0, -1);
        runs(times(132, "cut k;") + "put a 1; cut k;", 1, 132 * 6 + 9);
        runs(times(132, "cut k;") + "put a 1;]", 1, 132 * 6 + 8);
        runs(times(132, "cut k;") + "put a 1;@", 1, 132 * 6 + 8);
        runs(times(132, "cut k;") + "put a 1;\nabcdefghijk", 1, 132 * 6 + 9);
        runs(times(132, "cut k;") + "put a-1;", 1, 132 * 6 + 7);
        // Blanks behind the 400th are none.
        CardBridge x = Bridges.small();
        Check.runIs(x, times(132, "cut k;") + "put a 1;  ", 0, -1);
        Check.same("statements of 400 tokens", x.count(9), 133);
        Check.same("the last one is carried out", x.joint(1, 1), 1);
        // A <= is one token.
        runs("if 1<=1[]" + times(130, "cut k;") + "put a 1;", 0, -1);
        runs("if 1<=1[]" + times(130, "cut k;") + "put a-1;", 1, 9 + 780 + 7);
    }

    /** The 401st token of a design is an error 1, ahead of the names that are told too often. */
    private static void fourHundredTokensOfDesigns() {
        builds(times(133, "pier p;"), 2, 12);
        builds(times(133, "pier p;") + "pier", 1, 133 * 7 + 4);
        builds(times(133, "pier p;") + "pier p;", 1, 133 * 7 + 5);
        builds(times(133, "pier p;") + "@", 1, 133 * 7);
    }

    /** "Only if there is no error 1, keywords, names and numbers are looked at". */
    private static void error1First() {
        builds("pier p; pier p; joint", 1, 21);
        builds("pier p; card k from z to z bears 0; pier", 1, 40);
        builds(Bridges.joints(12) + "joint q", 1, Bridges.joints(12).length() + 7);
        runs("cut z; repeat 41 [ ] write", 1, 26);
        runs("put a 9; repeat 40 [ repeat 40 [ ] ] write", 1, 42);
        CardBridge x = Bridges.small();
        Check.runIs(x, "put a 9; write 5; cut k; write", 1, 30);
        Check.same("nothing is put", x.count(4), 0);
        Check.same("nothing is written", x.count(7), 0);
        Check.same("nothing is cut", x.count(3), 0);
    }

    /** ".. from left to right, and the first error is told, at its token". */
    private static void errorsFromLeftToRight() {
        String ahead = "pier p; joint a; card k from p to a bears 3; ";
        int at = ahead.length();
        builds(ahead + "pier a; card k from z to z bears 0;", 2, at + 5);
        builds(ahead + "pier b; card k from z to z bears 0;", 2, at + 13);
        builds(ahead + "pier b; card m from z to z bears 0;", 3, at + 20);
        builds(ahead + "pier b; card m from a to z bears 0;", 3, at + 25);
        builds(ahead + "pier b; card m from a to a bears 0;", 6, at + 25);
        builds(ahead + "pier b; card m from a to b bears 0;", 5, at + 33);
        builds(ahead + "pier b; card m from a to b bears 1; joint b;", 2, at + 42);
        runs("put z 1; repeat 41 [ cut z; ]", 3, 4);
        runs("put a 1; repeat 41 [ cut z; ]", 5, 16);
        runs("put a 1; repeat 40 [ cut z; ]", 3, 25);
        runs("put a load z; cut z;", 3, 11);
        // In a script all is looked at ahead of what is carried out, also what never would be.
        runs("if 1=2[repeat 0[cut z;]]", 3, 20);
        runs("if 1=1[]else[repeat 41[]]", 5, 20);
        runs("repeat 40[repeat 40[cut k;]]cut z;", 3, 32);
    }

    /** "of errors at one token the one with the smallest number": 2 ahead of 4. */
    private static void smallestErrorOfOneToken() {
        String joints = Bridges.joints(12);
        String full = joints + Bridges.cards(12, 1);
        builds(joints + "joint j11;", 2, joints.length() + 6);
        builds(joints + "pier j0;", 2, joints.length() + 5);
        builds(joints + "joint j12;", 4, joints.length() + 6);
        builds(full + "card c11 from j0 to j1 bears 1;", 2, full.length() + 5);
        builds(full + "card c12 from j0 to j1 bears 1;", 4, full.length() + 5);
        // Behind to: a name that is not told is an error 3, not that of its from.
        builds("pier p; card k from p to z bears 1;", 3, 25);
    }

    /** "Error 2: the name behind pier or joint is that of a pier or joint told ahead, or that behind card that of a card". */
    private static void error2() {
        builds("pier p; pier p;", 2, 13);
        builds("pier p; joint p;", 2, 14);
        builds("joint p; pier p;", 2, 14);
        builds("joint p; joint p;", 2, 15);
        builds("pier p; joint q; card k from p to q bears 1; card k from p to q bears 1;", 2, 50);
        // Cards and joints have names of their own.
        builds("pier p; joint q; card p from p to q bears 1; card q from p to q bears 1;", 0, -1);
        builds("pier p; joint q; card k from p to q bears 1; joint k;", 0, -1);
    }

    /** "Error 3: another name is none of what it has to be: in a design, told ahead": behind from and to. */
    private static void error3OfDesigns() {
        builds("pier p; card k from q to p bears 1; joint q;", 3, 20);
        builds("pier p; card k from p to q bears 1; joint q;", 3, 25);
        builds("pier p; joint q; card k from p to q bears 1; card m from k to q bears 1;", 3, 57);
        builds("pier p; joint q; card k from p to q bears 1; card m from p to k bears 1;", 3, 62);
        builds("card k from k to k bears 1;", 3, 12);
        // The bridge as it stands does not count for a design.
        Check.buildIs(Bridges.small(), "pier x; card y from p to x bears 1;", 3, 20);
    }

    /** ".. in a script, in the bridge: behind put, take, hangs and load of a joint (or pier), behind cut and glue of a card." */
    private static void error3OfScripts() {
        String[] joints = {"put %;", "take %;", "if hangs % [ ]", "write load %;", "put a load %;"};
        for (String text : joints) {
            int at = text.indexOf('%');
            String script = text.startsWith("put %") || text.startsWith("take") ? text.replace("%", "% 1") : text;
            runs(script.replace("%", "p"), 0, -1);
            runs(script.replace("%", "c"), 0, -1);
            runs(script.replace("%", "k"), 3, at);
            runs(script.replace("%", "z"), 3, at);
            Check.runIs(new CardBridge(), script.replace("%", "z"), 3, script.contains("put a") ? 4 : at);
        }
        for (String script : new String[] {"cut %;", "glue %;"}) {
            runs(script.replace("%", "k"), 0, -1);
            runs(script.replace("%", "n"), 0, -1);
            runs(script.replace("%", "p"), 3, script.indexOf('%'));
            runs(script.replace("%", "z"), 3, script.indexOf('%'));
            Check.runIs(new CardBridge(), script.replace("%", "k"), 3, script.indexOf('%'));
        }
        // Names of a bridge that was are none any more.
        CardBridge x = Bridges.small();
        Check.build(x, "pier k; joint m; card a from k to m bears 1;");
        Check.runIs(x, "put p 1;", 3, 4);
        Check.runIs(x, "cut k;", 3, 4);
        Check.runIs(x, "put k 1; cut a;", 0, -1);
    }

    /** "Error 4: the name of the 13th joint, piers counted, or of the 13th card." */
    private static void error4() {
        String joints = Bridges.joints(12);
        builds(joints, 0, -1);
        builds(joints + "joint a;", 4, joints.length() + 6);
        builds(joints + "pier a;", 4, joints.length() + 5);
        String piers = joints.replace("joint", "pier");
        builds(piers, 0, -1);
        builds(piers + "joint a;", 4, piers.length() + 6);
        builds(joints + "joint a; joint a;", 4, joints.length() + 6);
        String full = joints + Bridges.cards(12, 1);
        builds(full, 0, -1);
        builds(full + "card a from j0 to j1 bears 1;", 4, full.length() + 5);
        builds(full + "joint a;", 4, full.length() + 6);
        // The 12th of each are whole.
        CardBridge x = Bridges.built(full);
        Check.same("joints", x.count(0), 12);
        Check.same("cards", x.count(2), 12);
        Check.run(x, "put j11 7; cut c11;");
        Check.same("the 12th joint", x.joint(11, 1), 7);
        Check.same("the 12th card", x.card(11, 3), 1);
    }

    /** "Error 5: .. behind the bears of a design 1 to 30". */
    private static void error5OfBears() {
        for (int bears = 0; bears <= 31; bears++) {
            boolean isRight = bears >= 1 && bears <= 30;
            builds("pier p;joint a;card k from p to a bears " + bears + ";", isRight ? 0 : 5, isRight ? -1 : 40);
        }
        builds("pier p;joint a;card k from p to a bears 000030;", 0, -1);
        builds("pier p;joint a;card k from p to a bears 000000;", 5, 40);
        builds("pier p;joint a;card k from p to a bears 999999;", 5, 40);
    }

    /** ".. behind repeat 0 to 40". */
    private static void error5OfRepeat() {
        for (int times = 0; times <= 42; times++) {
            runs("repeat " + times + " [ ]", times <= 40 ? 0 : 5, times <= 40 ? -1 : 7);
        }
        runs("repeat 000041 [ ]", 5, 7);
        runs("repeat 999999 [ ]", 5, 7);
    }

    /** Other numbers have no range. */
    private static void numbersWithoutRange() {
        runs("put a 999999; take a 999999; write 999999; if 999999 > 41 [ ] write 31 - 0;", 0, -1);
        runs("write bears - 99; if bears < 31 [ ]", 0, -1);
    }

    /** "Error 6: the joint behind to is that behind its from." */
    private static void error6() {
        builds("pier p; card k from p to p bears 1;", 6, 25);
        builds("pier p; joint a; card k from a to a bears 0;", 6, 34);
        builds("pier p; joint a; card k from a to p bears 1; card m from p to a bears 1;", 0, -1);
        // Its own from, not that of another card.
        builds("pier p; joint a; joint b; card k from a to b bears 1; card m from p to a bears 1; card n from b to b bears 1;", 6, 99);
    }

    /** "no loads, no cut cards, no beams, no tests." */
    private static void buildTakesAllAway() {
        CardBridge x = Bridges.ring(30);
        for (int j = 0; j < 12; j++) {
            x.put(j, 60);
            x.cut(j);
        }
        x.hide(0);
        x.hide(11);
        x.holds();
        Check.build(x, Bridges.joints(12) + Bridges.cards(12, 30));
        for (int j = 0; j < 12; j++) {
            Check.same("load " + j, x.joint(j, 1), 0);
            Check.same("cut " + j, x.card(j, 3), 0);
        }
        Check.same("no tests", x.count(5), 0);
        Check.same("all beams fit", x.count(6), 79);
        Check.same("no beams", x.hide(5), 1);
        // What was a pier is none any more, be it of the bridge or of a design with an error.
        CardBridge y = Bridges.built(Bridges.joints(12).replace("joint", "pier"));
        Check.buildIs(y, "joint a; joint b; pier c; joint d;", 0, -1);
        Check.same("one pier of four joints", y.count(1), 1);
        Check.buildIs(y, "pier a; pier b; joint c; pier c;", 2, 30);
        Check.same("it stays the only one", y.count(1), 1);
        Check.buildIs(y, "joint a; joint b; joint c; joint d;", 0, -1);
        Check.same("no pier of four joints", y.count(1), 0);
        for (int j = 0; j < 4; j++) {
            Check.same("the joint " + j + " is no pier", y.joint(j, 0), 0);
            Check.same("the joint " + j + " does not hang", y.joint(j, 3), 0);
        }
    }

    // ---- scripts

    /** "the 401st .. is not carried out any more, but told as error 7, at its first token". */
    private static void fourHundredStatements() {
        // 1 + 40 * 9 = 361
        String ahead = "repeat 40[" + times(9, "put c 0;") + "]";
        CardBridge x = Bridges.small();
        Check.runIs(x, ahead + times(39, "cut k;"), 0, -1);
        Check.same("400 statements", x.count(9), 400);
        CardBridge y = Bridges.small();
        Check.runIs(y, ahead + times(39, "cut k;") + " \n cut m;", 7, ahead.length() + 39 * 6 + 3);
        Check.same("400 of 401 statements", y.count(9), 400);
        Check.same("the 401st is not carried out", y.card(1, 3), 0);
        Check.same("the next run counts anew", Check.run(y, "cut m;"), 0);
        Check.same("and has one", y.count(9), 1);
        Check.same("and no error any more", y.errorAt(), -1);
        CardBridge z = Bridges.small();
        Check.runIs(z, ahead + times(38, "cut k;"), 0, -1);
        Check.same("399 statements", z.count(9), 399);
    }

    /** "(repeat and if counted as one each time that they come, and what is in their blocks, too)". */
    private static void statementsOfRepeatAndIf() {
        CardBridge x = Bridges.small();
        Check.runIs(x, "repeat 40 [ repeat 0 [ cut k; ] ]", 0, -1);
        Check.same("one and 40 times one", x.count(9), 41);
        Check.runIs(x, "repeat 40 [ if 1=2 [ cut k; ] ]", 0, -1);
        Check.same("one and 40 ifs", x.count(9), 41);
        Check.runIs(x, "repeat 40 [ if 1=2 [ ] else [ cut k; ] ]", 0, -1);
        Check.same("one and 40 ifs with what is behind else", x.count(9), 81);
        Check.runIs(x, "repeat 3 [ repeat 4 [ repeat 5 [ ] ] ]", 0, -1);
        Check.same("1 + 3 + 12", x.count(9), 16);
        Check.runIs(x, "repeat 10 [ repeat 38 [ glue k; ] ]", 0, -1);
        Check.same("1 + 10 + 380", x.count(9), 391);
        Check.runIs(x, "repeat 10 [ repeat 39 [ glue k; ] ]", 7, 24);
        Check.same("1 + 10 + 390 are one too many", x.count(9), 400);
    }

    /** The 400th may be an if or a repeat; what is in its block is one too many. */
    private static void statementsInFullBlocks() {
        String ahead = "repeat 40[" + times(9, "put c 0;") + "]" + times(38, "cut k;");
        int at = ahead.length();
        runs(ahead + "repeat 40[]", 0, -1);
        runs(ahead + "repeat 0[cut m;]", 0, -1);
        runs(ahead + "repeat 1[cut m;]", 7, at + 9);
        runs(ahead + "if 1=1[]", 0, -1);
        runs(ahead + "if 1=2[cut m;]", 0, -1);
        runs(ahead + "if 1=1[cut m;]", 7, at + 7);
        runs(ahead + "if 1=2[]else[cut m;]", 7, at + 13);
        runs(ahead + "if 1=1[]else[cut m;]", 0, -1);
        // The 401st in a block that comes again: at its place there.
        runs("repeat 40[" + times(10, "cut k;") + "]", 7, 10 + 9 * 6);
        runs("repeat 40[ repeat 9[cut k;] ]", 7, 20);
        // What the 400th tests is kept, what the 401st would test is not.
        CardBridge x = Bridges.small();
        Check.runIs(x, ahead + "if holds [ cut m; ] cut n;", 7, at + 11);
        Check.same("the 400th tests", x.count(5), 1);
        CardBridge y = Bridges.small();
        Check.runIs(y, ahead + "cut m; if holds [ ]", 7, at + 7);
        Check.same("the 401st does not", y.count(5), 0);
    }

    /** "all that was done stays." */
    private static void whatWasDoneStays() {
        CardBridge x = Bridges.small();
        String script = "put a 3; cut m; write 77; if holds [ ] repeat 40 [ repeat 40 [ put b 1; ] ] write 88;";
        Check.runIs(x, script, 7, 63);
        Check.same("the load of a", x.joint(1, 1), 3);
        Check.same("m is cut", x.card(1, 3), 1);
        Check.isTrue("what was written", Check.paper(x).equals("77\n"));
        Check.same("the test", x.count(5), 1);
        // Behind five statements 395 are left: nine times 41, and 26, a repeat and 25 puts.
        Check.same("the load of b is held at 60", x.joint(2, 1), 60);
        Check.same("statements", x.count(9), 400);
        Check.same("the tape", x.count(8), 0);
    }

    private static void load(String script, int before, int due) {
        CardBridge x = Bridges.small();
        x.put(1, before);
        Check.runIs(x, script, 0, -1);
        Check.same("from " + before + " by " + script, x.joint(1, 1), due);
    }

    /** "put: the load of the joint becomes more by the sum, .. then held at 0 to 60". */
    private static void putHeld() {
        load("put a 59;", 0, 59);
        load("put a 60;", 0, 60);
        load("put a 61;", 0, 60);
        load("put a 1;", 59, 60);
        load("put a 1;", 60, 60);
        load("put a 0;", 60, 60);
        load("put a -1;", 1, 0);
        load("put a -1;", 0, 0);
        load("put a -60;", 60, 0);
        load("put a -61;", 60, 0);
        load("put a -59;", 60, 1);
        load("put a 999999;", 0, 60);
        // Held at each step, not at the end.
        load("put a 50; put a -15;", 20, 45);
        load("put a -50; put a 15;", 20, 15);
    }

    /** "take: less". */
    private static void takeHeld() {
        load("take a 1;", 1, 0);
        load("take a 1;", 0, 0);
        load("take a 60;", 60, 0);
        load("take a 61;", 60, 0);
        load("take a 59;", 60, 1);
        load("take a 0;", 0, 0);
        load("take a -60;", 0, 60);
        load("take a -61;", 0, 60);
        load("take a -1;", 59, 60);
        load("take a -1;", 60, 60);
        load("take a load a;", 37, 0);
        load("take a 50; take a -15;", 20, 15);
    }

    /** "(this does not wrap around)". */
    private static void putDoesNotWrap() {
        String least = "-65536*32768";
        String greatest = "65536*32767+65535";
        for (int before : new int[] {0, 1, 59, 60}) {
            load("put a " + greatest + ";", before, 60);
            load("take a " + greatest + ";", before, 0);
            load("put a " + least + ";", before, 0);
            load("take a " + least + ";", before, 60);
            load("take a " + least + "+1;", before, 60);
        }
        // The sum itself wraps around.
        load("put a " + greatest + "+1;", 30, 0);
        load("put a " + least + "-1;", 30, 60);
    }

    /** "cut and glue: the card is cut or whole then." */
    private static void cutAndGlue() {
        CardBridge x = Bridges.small();
        Check.run(x, "cut k;");
        Check.same("cut", x.card(0, 3), 1);
        Check.run(x, "cut k;");
        Check.same("cut again", x.card(0, 3), 1);
        Check.run(x, "glue k;");
        Check.same("glued", x.card(0, 3), 0);
        Check.run(x, "glue k;");
        Check.same("glued again", x.card(0, 3), 0);
        Check.same("none is cut", x.count(3), 0);
    }

    /** A bridge with so many bytes on its paper, at least 2. */
    private static CardBridge written(int bytes) {
        CardBridge x = Bridges.small();
        int lines = (bytes - 2) / 7;
        int rest = bytes - 7 * lines;
        StringBuilder script = new StringBuilder();
        for (int i = 0; i < lines; i += 40) {
            script.append("repeat ").append(Math.min(40, lines - i)).append("[write 123456;]");
        }
        script.append("write ");
        if (rest == 8) {
            script.append("1;write 12345;");
        } else {
            script.append("123456", 0, rest - 1).append(';');
        }
        Check.same("run of " + script, Check.run(x, script.toString()), 0);
        Check.same("bytes of the paper", x.count(7), bytes);
        return x;
    }

    /** "if the paper has 500 bytes or fewer with these; otherwise nothing is written." */
    private static void paperOfFiveHundred() {
        String[] numbers = {"0", "1", "-1", "12", "-12", "123456", "-123456", "65536*32767", "-65536*32768"};
        int[] bytes = {2, 2, 3, 3, 4, 7, 8, 11, 12};
        for (int i = 0; i < numbers.length; i++) {
            String script = "write " + numbers[i] + ";";
            for (int before = 500 - bytes[i] - 1; before <= 500; before++) {
                CardBridge x = written(before);
                boolean isRoom = before + bytes[i] <= 500;
                Check.runIs(x, script, 0, -1);
                Check.same(script + " behind " + before + " bytes", x.count(7), isRoom ? before + bytes[i] : before);
                Check.same("the line end stays the last byte", x.byteAt(x.count(7) - 1), 10);
                Check.same("it is carried out in any case", x.count(9), 1);
            }
        }
        CardBridge y = written(497);
        Check.runIs(y, "write 123; write 7; write 12;", 0, -1);
        Check.same("what fits behind one that does not", y.count(7), 499);
        Check.same("is written", y.byteAt(497), '7');
        CardBridge z = written(500);
        Check.same("a full paper goes as a whole", z.clear(), 500);
        Check.writes(z, "write 5;", "5|");
    }

    /** "as digits (with a - ahead of them for less than 0), and a line end (10)". */
    private static void digitsOfLines() {
        Check.writes(new CardBridge(), "write 0; write -0; write 1; write -1; write 9; write 10; write -10; write 99; write 100;",
                "0|0|1|-1|9|10|-10|99|100|");
        Check.writes(new CardBridge(), "write 65536*32767+65535; write -65536*32768; write 1000*1000*1000; write -(1000*1000*1000-1);",
                "2147483647|-2147483648|1000000000|-999999999|");
    }

    /** "repeat carries the block out so often". */
    private static void repeats() {
        for (int times : new int[] {0, 1, 2, 39, 40}) {
            CardBridge x = Bridges.small();
            Check.runIs(x, "repeat " + times + " [ put a 1; ]", 0, -1);
            Check.same("repeat " + times, x.joint(1, 1), times);
            Check.same("statements of repeat " + times, x.count(9), times + 1);
        }
    }

    /** "if the block, if its test holds, otherwise that behind else, if there is one." */
    private static void ifAndElse() {
        Check.writes(new CardBridge(), "if 1=1[write 1;]write 2;", "1|2|");
        Check.writes(new CardBridge(), "if 1=2[write 1;]write 2;", "2|");
        Check.writes(new CardBridge(), "if 1=1[write 1;]else[write 2;]write 3;", "1|3|");
        Check.writes(new CardBridge(), "if 1=2[write 1;]else[write 2;]write 3;", "2|3|");
        Check.writes(new CardBridge(), "if 1=2[if 1=1[write 1;]else[write 2;]]else[if 1=2[write 3;]]write 4;", "4|");
        Check.writes(new CardBridge(), "if 1=1[]else[write 2;]if 1=2[write 1;]else[]write 3;", "3|");
    }

    /** "Of and and or both sides are looked at, from left to right, also where one side tells all". */
    private static void bothSides() {
        String[] tests = {"1=1 or holds", "1=2 or holds", "1=1 and holds", "1=2 and holds", "holds or 1=1", "holds and 1=2",
            "1=1 or 1=1 or holds", "1=2 and 1=2 and holds", "1=1 or 1=2 and holds", "{1=2 and {1=1 or not holds}}"};
        for (String test : tests) {
            CardBridge x = Bridges.small();
            Check.run(x, "if " + test + "[]");
            Check.same("tests of " + test, x.count(5), 1);
        }
        CardBridge y = Bridges.small();
        Check.run(y, "if 1=1 or holds or 1=2 and holds and holds or holds[]");
        Check.same("four tests", y.count(5), 4);
        // What is left of holds is told ahead of the test, what is right of it behind.
        CardBridge z = Bridges.single(5);
        z.put(1, 6);
        Check.writes(z, "if fits=2 and not holds and fits=1[write 1;]", "1|");
        CardBridge u = Bridges.single(5);
        u.put(1, 6);
        Check.writes(u, "if fits=1 or holds or fits=2[write 1;]else[write 2;]", "2|");
    }

    /** "and binds more than or, not more than and." */
    private static void andBindsMore() {
        for (int bits = 0; bits < 8; bits++) {
            boolean a = (bits & 1) != 0;
            boolean b = (bits & 2) != 0;
            boolean c = (bits & 4) != 0;
            told(truth(a) + " or " + truth(b) + " and " + truth(c), a || b && c);
            told(truth(a) + " and " + truth(b) + " or " + truth(c), a && b || c);
            told("{" + truth(a) + " or " + truth(b) + "} and " + truth(c), (a || b) && c);
            told("not " + truth(a) + " and " + truth(b), !a && b);
            told("not " + truth(a) + " or " + truth(b), !a || b);
            told("not {" + truth(a) + " and " + truth(b) + "}", !(a && b));
            told("not not " + truth(a) + " and not " + truth(c), a && !c);
        }
    }

    private static String truth(boolean is) {
        return is ? "1=1" : "1=2";
    }

    private static void told(String test, boolean due) {
        Check.writes(new CardBridge(), "if " + test + "[write 1;]else[write 2;]", due ? "1|" : "2|");
    }
}
