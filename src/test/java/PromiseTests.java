/** For each promise its ordinary inputs, the edges that the document names, and wrong inputs. */
public final class PromiseTests {
    public static void main(String[] args) {
        newObject();
        feed();
        trim();
        tokens();
        build();
        buildErrors();
        run();
        runErrors();
        depth();
        sums();
        testsOfScripts();
        loadsOfScripts();
        writing();
        tooManyStatements();
        errorAt();
        count();
        joint();
        card();
        hide();
        put();
        cut();
        holds();
        bears();
        blame();
        removal();
        most();
        fit();
        sure();
        would();
        advise();
        safe();
        byteAt();
        clear();
        share();
        digest();
        Check.end("PromiseTests");
    }

    private static void newObject() {
        CardBridge x = new CardBridge();
        for (int what = 0; what <= 9; what++) {
            Check.same("count(" + what + ") of a new object", x.count(what), what == 6 ? 1 : 0);
        }
        Check.same("errorAt() of a new object", x.errorAt(), -1);
        Check.isTrue("holds() of a new object", x.holds());
        Check.same("tests of a new object that was tested", x.count(5), 1);
        Check.same("fit(0) of a new object", x.fit(0), 0);
        Check.same("bears() of a new object", x.bears(), 0);
        Check.same("blame() of a new object", x.blame(), 0);
        Check.same("removal() of a new object", x.removal(), -1);
        Check.same("clear() of a new object", x.clear(), 0);
        Check.isTrue("share() of a new object", x.share() == 1.0);
        Check.throwsOnly("joint of a new object", x, Check.INDEX, () -> x.joint(0, 0));
        Check.throwsOnly("card of a new object", x, Check.INDEX, () -> x.card(0, 0));
    }

    private static void feed() {
        CardBridge x = new CardBridge();
        // "pier p;joint a;     ": the highest byte of each number is the first on the tape.
        Check.same("feed", x.feed(0x70696572, 0x20703b6a, 0x6f696e74, 0x20613b20, 0x20202020), 20);
        Check.same("build of what was fed", x.build(), 0);
        Check.same("joints of what was fed", x.count(0), 2);
        Check.same("piers of what was fed", x.count(1), 1);
        for (int i = 1; i <= 100; i++) {
            Check.same("feed " + i, x.feed(0x20202020, 0x20202020, 0x20202020, 0x20202020, 0x20202020), 20 * i);
        }
        Check.throwsOnly("feed of a full tape", x, Check.STATE, () -> x.feed(0, 0, 0, 0, 0));
        Check.same("trim by one", x.trim(1981), 1981);
        Check.throwsOnly("feed of a nearly full tape", x, Check.STATE, () -> x.feed(0, 0, 0, 0, 0));
        Check.same("trim to room for twenty", x.trim(1980), 1980);
        Check.same("feed to the brim", x.feed(0x20202020, 0x20202020, 0x20202020, 0x20202020, -1), 2000);
        Check.same("a byte 255 is none of a design", x.build(), 1);
        Check.same("the byte 255 is the 1997th", x.errorAt(), 1996);
    }

    private static void trim() {
        CardBridge x = new CardBridge();
        Check.same("trim of nothing", x.trim(0), 0);
        Check.throwsOnly("trim(1) of nothing", x, Check.ARGUMENT, () -> x.trim(1));
        Check.write(x, "pier p; joint a; joint b");
        Check.throwsOnly("trim(-1)", x, Check.ARGUMENT, () -> x.trim(-1));
        Check.throwsOnly("trim(25)", x, Check.ARGUMENT, () -> x.trim(25));
        Check.throwsOnly("trim of the least int", x, Check.ARGUMENT, () -> x.trim(Integer.MIN_VALUE));
        Check.same("trim to all", x.trim(24), 24);
        Check.same("trim", x.trim(16), 16);
        Check.same("count(8) behind trim", x.count(8), 16);
        Check.same("what stays is read", x.build(), 0);
        Check.same("what stays", x.count(0), 2);
        Check.write(x, "joint a;@@@@@@@@");
        x.trim(8);
        Check.write(x, "joint b;");
        Check.same("what is fed behind a trim follows at once", x.build(), 0);
        Check.same("joints behind a trim", x.count(0), 2);
    }

    private static void tokens() {
        CardBridge x = new CardBridge();
        Check.buildIs(x, "", 0, -1);
        Check.buildIs(x, " \n \n", 0, -1);
        Check.buildIs(x, "\npier\np\n;\n ", 0, -1);
        Check.buildIs(x, "pier p;joint a;card k from p to a bears 1;", 0, -1);
        Check.buildIs(x, "pier abcdefghij;", 0, -1);
        Check.buildIs(x, "pier abcdefghijk;", 1, 5);
        Check.buildIs(x, "pier a123456789;", 0, -1);
        Check.buildIs(x, "pier a1234567890;", 1, 5);
        Check.buildIs(x, "pier 1a;", 1, 5);
        Check.buildIs(x, "pier pier1; joint joints;", 0, -1);
        Check.buildIs(x, "pierp;", 1, 0);
        Check.buildIs(x, "pier P;", 1, 5);
        Check.buildIs(x, "pier p\t;", 1, 6);
        Check.buildIs(x, "pier p;\r", 1, 7);
        Check.buildIs(x, "pier p; \u0000", 1, 8);
        Check.buildIs(x, "pier pQ;", 1, 6);
        Check.buildIs(x, "pier p; joint a; card k from p to a bears 000030;", 0, -1);
        Check.buildIs(x, "pier p; joint a; card k from p to a bears 0000030;", 1, 42);
        Check.buildIs(x, "pier p; joint a; card k from p to a bears 3x;", 1, 43);
        Check.runIs(x, "if 1<=1[]if 1>=1[]if 1=1[]if 1<1[]if 1>1[]", 0, -1);
        Check.runIs(x, "if 1< =1[]", 1, 6);
        Check.runIs(x, "if 1=<1[]", 1, 5);
        Check.runIs(x, "if 1<==1[]", 1, 6);
        Check.runIs(x, "write 1!;", 1, 7);
        Check.runIs(x, "write 999999;", 0, -1);
        Check.runIs(x, "write 1000000;", 1, 6);
        Check.runIs(x, "repeat 1[write 1;]", 0, -1);
        Check.runIs(x, "repeat1[write 1;]", 1, 0);
        x = new CardBridge();
        // 400 tokens, and the 401st, which is told at its place whatever it is; the end is not counted.
        Check.runIs(x, Check.times(399, "repeat 0[]").substring(0, 1000) + "   \n", 0, -1);
        Check.runIs(x, Check.times(100, "repeat 0[]") + " ;", 1, 1001);
        Check.runIs(x, Check.times(100, "repeat 0[]") + "repeat 0[]", 1, 1000);
        Check.runIs(x, Check.times(100, "repeat 0[]") + "@", 1, 1000);
        Check.runIs(x, Check.times(99, "repeat 0[]") + "write 1 ", 1, 998);
        Check.runIs(x, Check.times(99, "repeat 0[]") + "write 1+2", 1, 999);
        Check.runIs(x, Check.times(99, "repeat 0[]") + "write -1;", 0, -1);
        Check.runIs(x, Check.times(99, "repeat 0[]") + "write --1;", 1, 999);
        for (String keyword : ("pier joint card from to bears put take cut glue write repeat if else holds hangs "
                + "load all fits not and or min max").split(" ")) {
            CardBridge y = new CardBridge();
            Check.buildIs(y, "pier " + keyword + ";", 1, 5);
            Check.buildIs(y, "pier " + keyword + "0;", 0, -1);
        }
    }

    private static void build() {
        CardBridge x = Bridges.small();
        Check.same("joints", x.count(0), 5);
        Check.same("piers", x.count(1), 2);
        Check.same("cards", x.count(2), 3);
        x.put(1, 60);
        x.cut(0);
        x.hide(1);
        x.holds();
        Check.run(x, "write 5; write 6;");
        Check.buildIs(x, "joint c; pier d; card e from c to d bears 30; card f from d to c bears 1;", 0, -1);
        Check.same("joints behind another build", x.count(0), 2);
        Check.same("cards behind another build", x.count(2), 2);
        Check.same("cut cards behind another build", x.count(3), 0);
        Check.same("loads behind another build", x.count(4), 0);
        Check.same("tests behind another build", x.count(5), 0);
        Check.same("beams that fit behind another build", x.count(6), 4);
        Check.same("the paper stays", x.count(7), 4);
        Check.same("the statements of the latest run stay", x.count(9), 2);
        Check.same("joints are numbered as told", x.joint(1, 0), 1);
        Check.same("no beam is left, so two more go in", x.hide(0) + x.hide(1), 3);
        Check.runIs(x, "put a 1;", 3, 4);
        Check.runIs(x, "put c 1; cut e;", 0, -1);
        Check.buildIs(x, "", 0, -1);
        Check.same("an empty design has no joints", x.count(0), 0);
        Check.buildIs(x, "pier k; joint a; card k from k to a bears 3; card a from k to a bears 3;", 0, -1);
        // Names that are nearly the same are others.
        Check.buildIs(x, "pier az; joint a0; joint a9; joint ba; joint a; joint b; joint a00; joint zzzzzzzzzz; joint z999999999;"
                + "joint zzzzzzzzz; card k from az to a0 bears 1;", 0, -1);
        Check.runIs(x, "put zzzzzzzzzz 7; put z999999999 8; put a00 9; put a0 10;", 0, -1);
        Check.same("zzzzzzzzzz", x.joint(7, 1), 7);
        Check.same("z999999999", x.joint(8, 1), 8);
        Check.same("a00", x.joint(6, 1), 9);
        Check.same("a0", x.joint(1, 1), 10);
        Check.buildIs(x, Bridges.joints(12) + twelveCards(), 0, -1);
        Check.same("twelve joints", x.count(0), 12);
        Check.same("twelve cards", x.count(2), 12);
        Check.same("79 sets of beams", x.count(6), 79);
    }

    private static String twelveCards() {
        StringBuilder text = new StringBuilder();
        for (int c = 0; c < 12; c++) {
            text.append("card c").append(c).append(" from j").append(c).append(" to j").append((c + 1) % 12)
                    .append(" bears ").append(c + 1).append(';');
        }
        return text.toString();
    }

    private static void buildErrors() {
        CardBridge x = Bridges.small();
        x.put(1, 5);
        x.put(2, 30);
        x.cut(2);
        x.hide(0);
        x.holds();
        Check.run(x, "write 77;");
        long digest = x.digest();
        Check.buildIs(x, "pier p", 1, 6);
        Check.buildIs(x, "pier p  \n", 1, 9);
        Check.buildIs(x, "pier;", 1, 4);
        Check.buildIs(x, "p;", 1, 0);
        Check.buildIs(x, ";", 1, 0);
        Check.buildIs(x, "joint p q;", 1, 8);
        Check.buildIs(x, "pier p; card k from p bears 3;", 1, 22);
        Check.buildIs(x, "pier p; card k to p from p bears 3;", 1, 15);
        Check.buildIs(x, "pier p; card k from p to p bears p;", 1, 33);
        Check.buildIs(x, "pier p; card k from p to p bears -1;", 1, 33);
        Check.buildIs(x, "write 1;", 1, 0);
        // Error 1 is told ahead of all others, wherever it is.
        Check.buildIs(x, "pier p; pier p; pier", 1, 20);
        Check.buildIs(x, "pier p; joint p;", 2, 14);
        Check.buildIs(x, "joint p; pier p;", 2, 14);
        Check.buildIs(x, "joint p; joint p; card k from z to z bears 99;", 2, 15);
        Check.buildIs(x, "pier p; joint a; card k from a to p bears 3; card k from z to p bears 0;", 2, 50);
        Check.buildIs(x, "pier p; card k from p to a bears 3; joint a;", 3, 25);
        Check.buildIs(x, "pier p; joint a; card k from b to b bears 3;", 3, 29);
        Check.buildIs(x, "pier p; joint a; card k from a to k bears 3;", 3, 34);
        Check.buildIs(x, "pier p; joint a; card k from a to a bears 0;", 6, 34);
        Check.buildIs(x, "pier p; joint a; card k from p to a bears 0;", 5, 42);
        Check.buildIs(x, "pier p; joint a; card k from p to a bears 31;", 5, 42);
        Check.buildIs(x, "pier p; joint a; card k from p to a bears 999999; pier p;", 5, 42);
        Check.buildIs(x, Bridges.joints(12) + "joint j;", 4, Bridges.joints(12).length() + 6);
        Check.buildIs(x, Bridges.joints(12) + "pier j;", 4, Bridges.joints(12).length() + 5);
        Check.buildIs(x, Bridges.joints(12) + "pier j5;", 2, Bridges.joints(12).length() + 5);
        String full = Bridges.joints(12) + twelveCards();
        Check.buildIs(x, full + "card c from z to z bears 0;", 4, full.length() + 5);
        Check.buildIs(x, full + "card c7 from z to z bears 0;", 2, full.length() + 5);
        Check.write(x, " ");
        Check.same("the tape is empty behind an error", x.trim(0), 0);
        Check.same("a design with an error changes nothing", x.digest(), digest);
        Check.runIs(x, "put c 3; glue m;", 0, -1);
    }

    private static void run() {
        CardBridge x = Bridges.small();
        Check.runIs(x, "", 0, -1);
        Check.same("statements of an empty script", x.count(9), 0);
        Check.runIs(x, "put a 3; put b 2; take a 1; cut k; cut k; cut m; glue m; glue m;", 0, -1);
        Check.same("statements", x.count(9), 8);
        Check.same("load of a", x.joint(1, 1), 2);
        Check.same("load of b", x.joint(2, 1), 2);
        Check.same("k is cut", x.card(0, 3), 1);
        Check.same("m is glued", x.card(1, 3), 0);
        Check.runIs(x, "repeat 3 [ put c 2; ] repeat 0 [ put c 30; ] repeat 40 [ ]", 0, -1);
        Check.same("statements of repeat, and in its block", x.count(9), 6);
        Check.same("load of c", x.joint(4, 1), 6);
        Check.runIs(x, "if 1 = 1 [ put c 1; put c 1; ] if 1 = 2 [ put c 30; ]", 0, -1);
        Check.same("statements of if, and in its block", x.count(9), 4);
        Check.same("load of c behind if", x.joint(4, 1), 8);
        Check.runIs(x, "if 1 = 2 [ put c 30; ] else [ take c 3; ] if 1 = 1 [ take c 2; ] else [ put c 30; ]", 0, -1);
        Check.same("statements of else", x.count(9), 4);
        Check.same("load of c behind else", x.joint(4, 1), 3);
        Check.runIs(x, "repeat 2 [ repeat 3 [ if load c < 7 [ put c 1; ] else [ if 1 = 1 [ cut n; ] ] ] ] put c 9;", 0, -1);
        Check.same("load of c behind nested blocks", x.joint(4, 1), 16);
        Check.same("n is cut by nested blocks", x.card(2, 3), 1);
        // 1 + 2 + 6 + 4 puts + 2 inner ifs with their cuts + 1
        Check.same("statements of nested blocks", x.count(9), 1 + 2 + 6 + 4 + 4 + 1);
        Check.buildIs(x, "joint z;", 0, -1);
        Check.same("statements are those of the latest run, not of a build", x.count(9), 18);
        Check.runIs(x, "put q 1;", 3, 4);
        Check.same("statements of a script with an error", x.count(9), 0);
    }

    private static void runErrors() {
        CardBridge x = Bridges.small();
        x.put(1, 7);
        Check.run(x, "write 8;");
        x.clear();
        long digest = 0;
        Check.runIs(x, "if holds [ put a 1; ", 1, 20);
        digest = x.digest();
        Check.runIs(x, "put a 3", 1, 7);
        Check.runIs(x, "put a;", 1, 5);
        Check.runIs(x, "put 3 a;", 1, 4);
        Check.runIs(x, "put a 3; pier z;", 1, 9);
        Check.runIs(x, "put a 3; else [ ]", 1, 9);
        Check.runIs(x, "put a 3; ] ", 1, 9);
        Check.runIs(x, "put a 3; }", 1, 9);
        Check.runIs(x, "cut k 3;", 1, 6);
        Check.runIs(x, "cut all;", 1, 4);
        Check.runIs(x, "repeat 3 put a 3;", 1, 9);
        Check.runIs(x, "repeat a [ ]", 1, 7);
        Check.runIs(x, "repeat 2 [ put a 1; } ]", 1, 20);
        Check.runIs(x, "if 3 [ ]", 1, 5);
        Check.runIs(x, "if ( 3 < 4 ) [ ]", 1, 7);
        Check.runIs(x, "if { 3 } [ ]", 1, 7);
        Check.runIs(x, "if holds or [ ]", 1, 12);
        Check.runIs(x, "if holds holds [ ]", 1, 9);
        Check.runIs(x, "if hangs 3 [ ]", 1, 9);
        Check.runIs(x, "if 1 < 2 < 3 [ ]", 1, 9);
        Check.runIs(x, "if holds < 3 [ ]", 1, 9);
        Check.runIs(x, "if holds [ ] else put a 1;", 1, 18);
        Check.runIs(x, "if holds [ ] else [ ] else [ ]", 1, 22);
        Check.runIs(x, "write not 3;", 1, 6);
        Check.runIs(x, "write ();", 1, 7);
        Check.runIs(x, "write 1 2;", 1, 8);
        Check.runIs(x, "write 1 +;", 1, 9);
        Check.runIs(x, "write +1;", 1, 6);
        Check.runIs(x, "write (1 + 2;", 1, 12);
        Check.runIs(x, "write min(1);", 1, 11);
        Check.runIs(x, "write max(1, 2, 3);", 1, 14);
        Check.runIs(x, "write min 1, 2;", 1, 10);
        Check.runIs(x, "write load 3;", 1, 11);
        Check.runIs(x, "write a;", 1, 6);
        Check.runIs(x, "put a 50; put z 3;", 3, 14);
        Check.runIs(x, "put k 3;", 3, 4);
        Check.runIs(x, "take z 3;", 3, 5);
        Check.runIs(x, "cut a;", 3, 4);
        Check.runIs(x, "glue z;", 3, 5);
        Check.runIs(x, "if hangs k [ ]", 3, 9);
        Check.runIs(x, "write 1 + load k;", 3, 15);
        Check.runIs(x, "put a 50; repeat 41 [ put z 3; ]", 5, 17);
        Check.runIs(x, "put z 50; repeat 41 [ put z 3; ]", 3, 4);
        Check.runIs(x, "repeat 999999 [ ]", 5, 7);
        Check.runIs(x, "repeat 41 [ ] write", 1, 19);
        Check.same("a script with an error 1 to 6 changes nothing", x.digest(), digest);
        Check.runIs(x, "put q 1; cut n; repeat 40 [ ]", 0, -1);
    }

    private static void depth() {
        CardBridge x = Bridges.small();
        Check.writes(x, "write ((((((((1))))))));", "1|");
        Check.runIs(x, "write (((((((((1)))))))));", 1, 14);
        Check.writes(x, "write --------1;", "1|");
        Check.runIs(x, "write ---------1;", 1, 14);
        Check.writes(x, "write 1 - 1 - 1 - 1 - 1 - 1 - 1 - 1 - 1 - 1 - 1;", "-9|");
        Check.writes(x, "write ----(((1)))-(((-----1)));", "2|");
        Check.runIs(x, "write ----(((--1)));", 1, 14);
        Check.writes(x, "write -------min(1,2)+(((((((2)))))))-------1;", "0|");
        Check.writes(x, "write min(min(min(min(min(min(min(min(1,2),2),2),2),2),2),2),max(3,2));", "1|");
        Check.runIs(x, "write min(min(min(min(min(min(min(min(1,(2)),2),2),2),2),2),2),2);", 1, 40);
        Check.runIs(x, "write (((((((( max(1,2)))))))));", 1, 18);
        Check.runIs(x, "if not not not not not not not not 1 < 2 [ ]", 0, -1);
        Check.runIs(x, "if not not not not not not not not not 1 < 2 [ ]", 1, 35);
        Check.runIs(x, "if {{{{{{{{1 < 2}}}}}}}} [ ]", 0, -1);
        Check.runIs(x, "if {{{{{{{{{1 < 2}}}}}}}}} [ ]", 1, 11);
        Check.runIs(x, "if {not{not{not{not 1 < 2}}}} and {(1) < -1 or 2 = 1} [ ]", 0, -1);
        Check.runIs(x, "if {not{not{not{not 1 < (2)}}}} [ ]", 1, 24);
        Check.runIs(x, "if not not not not not not not not holds or not not holds and not not holds [ ]", 0, -1);
        Check.runIs(x, Check.times(8, "repeat 1 [") + "write 3;" + Check.times(8, "]"), 0, -1);
        Check.same("eight repeats and a write", x.count(9), 9);
        Check.runIs(x, Check.times(9, "repeat 1 [") + "write 3;" + Check.times(9, "]"), 1, 89);
        Check.runIs(x, Check.times(8, "repeat 1 [") + "write (3);" + Check.times(8, "]"), 1, 86);
        Check.runIs(x, Check.times(8, "repeat 1 [") + "if holds" + Check.times(8, "]"), 1, 88);
        Check.runIs(x, Check.times(8, "repeat 1 [") + "if holds [" + Check.times(9, "]"), 1, 89);
        Check.runIs(x, Check.times(7, "if holds [") + "write -3;" + Check.times(7, "] else [ ]"), 0, -1);
        x.clear();
    }

    private static void sums() {
        CardBridge x = Bridges.small();
        Check.writes(x, "write 1 + 2 * 3 - 4 / 2;", "5|");
        Check.writes(x, "write 10 - 3 - 2;", "5|");
        Check.writes(x, "write 100 / 5 / 2 * 3;", "30|");
        Check.writes(x, "write (1 + 2) * 3;", "9|");
        Check.writes(x, "write -7 / 2; write 7 / -2; write -7 / -2;", "-3|-3|3|");
        Check.writes(x, "write 5 / 0; write -5 / 0; write 0 / 0;", "0|0|0|");
        Check.writes(x, "write -2 * 3; write - 2 + 3; write 2 - -3;", "-6|1|5|");
        Check.writes(x, "write 65536 * 32768;", "-2147483648|");
        Check.writes(x, "write 65536 * 32768 - 1;", "2147483647|");
        Check.writes(x, "write 65536 * 32768 / -1;", "-2147483648|");
        Check.writes(x, "write -(65536 * 32768);", "-2147483648|");
        Check.writes(x, "write 65536 * 32768 - 1 + 1;", "-2147483648|");
        Check.writes(x, "write 65536 * 65536;", "0|");
        Check.writes(x, "write 999999 * 999999;", "-729379967|");
        Check.writes(x, "write min(3, -4); write max(3, -4); write min(2, 2); write max(1 + 2, 2 * 2);", "-4|3|2|4|");
        Check.writes(x, "write 000; write 007;", "0|7|");
        x.put(1, 12);
        x.put(0, 5);
        x.put(4, 9);
        x.hide(0);
        Check.writes(x, "write load a; write load p; write all; write bears; write fits;", "12|5|26|12|7|");
        x.cut(0);
        Check.writes(x, "write bears; write load a * all - bears + fits / 2;", "8|307|");
    }

    private static void testsOfScripts() {
        CardBridge x = Bridges.small();
        Check.writes(x, "if 1 < 2 [write 1;] if 2 < 2 [write 2;] if 3 < 2 [write 3;]", "1|");
        Check.writes(x, "if 1 > 2 [write 1;] if 2 > 2 [write 2;] if 3 > 2 [write 3;]", "3|");
        Check.writes(x, "if 1 = 2 [write 1;] if 2 = 2 [write 2;] if 3 = 2 [write 3;]", "2|");
        Check.writes(x, "if 1 <= 2 [write 1;] if 2 <= 2 [write 2;] if 3 <= 2 [write 3;]", "1|2|");
        Check.writes(x, "if 1 >= 2 [write 1;] if 2 >= 2 [write 2;] if 3 >= 2 [write 3;]", "2|3|");
        Check.writes(x, "if 65536 * 32768 < -999999 [write 1;] else [write 2;]", "1|");
        Check.writes(x, "if 1 = 1 or 1 = 2 and 1 = 2 [write 1;]", "1|");
        Check.writes(x, "if {1 = 1 or 1 = 2} and 1 = 2 [write 1;]", "");
        Check.writes(x, "if 1 = 2 and 1 = 2 or 1 = 1 [write 1;]", "1|");
        Check.writes(x, "if not 1 = 2 and 1 = 2 [write 1;]", "");
        Check.writes(x, "if not {1 = 2 and 1 = 2} [write 1;]", "1|");
        Check.writes(x, "if not not 1 = 1 [write 1;]", "1|");
        Check.writes(x, "if not 1 = 1 or 1 = 1 [write 1;]", "1|");
        Check.writes(x, "if 1 = 2 or 1 = 2 or 1 = 1 [write 1;]", "1|");
        Check.writes(x, "if 1 = 1 and 1 = 1 and 1 = 2 [write 1;]", "");
        Check.writes(x, "if hangs a [write 1;] if hangs c [write 2;] if hangs p [write 3;]", "1|3|");
        Check.same("comparisons and hangs test nothing", x.count(5), 0);
        // Both sides are looked at, also where one tells all.
        Check.runIs(x, "if holds or holds or 1 = 1 and holds [ ]", 0, -1);
        Check.same("three tests by or", x.count(5), 3);
        Check.runIs(x, "if 1 = 2 and holds and holds [ ] if 1 = 1 or holds [ ]", 0, -1);
        Check.same("three more tests", x.count(5), 6);
        Check.runIs(x, "repeat 0 [ if holds [ ] ] if 1 = 2 [ if holds [ ] ]", 0, -1);
        Check.same("what is not carried out tests nothing", x.count(5), 6);
        x.put(1, 8);
        Check.writes(x, "if holds [write 1;] else [write 2;]", "2|");
        x.hide(0);
        Check.same("the beams bear more", x.count(5), 0);
        Check.writes(x, "if holds [write 1;] else [write 2;]", "1|");
        // The sets that fit are told behind the test to the left, and ahead of the one to the right.
        CardBridge y = Bridges.single(5);
        y.put(1, 10);
        Check.writes(y, "if fits = 2 and not holds and fits = 1 [write 1;]", "1|");
        CardBridge z = Bridges.single(5);
        z.put(1, 10);
        Check.writes(z, "if fits = 1 or holds or fits = 2 [write 1;] else [write 2;]", "2|");
    }

    private static void loadsOfScripts() {
        CardBridge x = Bridges.small();
        Check.run(x, "put a 61;");
        Check.same("a load is held at 60", x.joint(1, 1), 60);
        Check.run(x, "take a 61;");
        Check.same("a load is held at 0", x.joint(1, 1), 0);
        Check.run(x, "put a 20; take a -15;");
        Check.same("taking less than nothing", x.joint(1, 1), 35);
        Check.run(x, "put a -5;");
        Check.same("putting less than nothing", x.joint(1, 1), 30);
        Check.run(x, "put a 65536 * 32768 - 1;");
        Check.same("the load does not wrap around with the greatest sum", x.joint(1, 1), 60);
        Check.run(x, "take a 65536 * 32768 - 1;");
        Check.same("the load does not wrap around by taking", x.joint(1, 1), 0);
        Check.run(x, "take a 65536 * 32768;");
        Check.same("the least sum taken is much", x.joint(1, 1), 60);
        Check.run(x, "put a 65536 * 32768;");
        Check.same("the least sum put", x.joint(1, 1), 0);
        Check.run(x, "put p 7; put a load p * 2; put b all;");
        Check.same("a pier's load", x.joint(0, 1), 7);
        Check.same("a load by loads", x.joint(1, 1), 14);
        Check.same("a load by all loads", x.joint(2, 1), 21);
    }

    private static void writing() {
        CardBridge x = Bridges.small();
        Check.run(x, "repeat 40 [ write 123456; write -12345; ]");
        // 71 times 7 bytes
        Check.same("the paper holds 497 bytes", x.count(7), 497);
        Check.same("statements that write nothing are carried out", x.count(9), 81);
        Check.run(x, "write 100; write -10; write 999;");
        Check.same("no number of four bytes fits", x.count(7), 497);
        Check.run(x, "write 1; write 7;");
        Check.same("one of two fits", x.count(7), 499);
        Check.same("what fits", x.byteAt(497), '1');
        Check.same("clear", x.clear(), 499);
        Check.run(x, "repeat 40 [ write 123456; ] repeat 40 [ write 123456; ] write 10; write 1;");
        Check.same("the paper holds 500 bytes", x.count(7), 500);
        Check.same("the 500th byte", x.byteAt(499), 10);
        Check.run(x, "write 1;");
        Check.same("a full paper takes nothing", x.count(7), 500);
        x.clear();
        Check.writes(x, "write 0; write 65536 * 32768; write 1;", "0|-2147483648|1|");
    }

    private static void tooManyStatements() {
        CardBridge x = Bridges.small();
        Check.runIs(x, "repeat 39 [ repeat 9 [ ] ] repeat 40 [ put c 1; ] repeat 20 [ if 1 = 1 [ ] put a 1; ] put b 1;"
                + Check.times(20, "put b 1;"), 0, -1);
        Check.same("statements ahead of the limit", x.count(9), 40 + 41 + 41 + 21);
        // 1 + 40 * 9 = 361, and 39 more are 400
        String script = "repeat 40 [ put a 1; put a 1; put a 1; put a 1; take a 1; take a 1; take a 1; take a 1; cut k; ]";
        Check.runIs(x, script + Check.times(39, "put b 1;"), 0, -1);
        Check.same("400 statements", x.count(9), 400);
        CardBridge y = Bridges.small();
        Check.runIs(y, script + Check.times(39, "put b 1;") + "\n put c 5; put c 5;", 7, script.length() + 39 * 8 + 2);
        Check.same("400 statements of more", y.count(9), 400);
        Check.same("what was done stays", y.joint(2, 1), 39);
        Check.same("the 401st is not carried out", y.joint(4, 1), 0);
        // 1 + 39 * 10 = 391, and in the last turn 9 more ahead of the repeat that is the 401st
        CardBridge z = Bridges.small();
        Check.runIs(z, "repeat 40 [ repeat 8 [ write 1; ] repeat 1 [ ] ]", 7, 34);
        Check.same("400 statements in blocks", z.count(9), 400);
        // An if that is the 401st does not test; as the 400th it does, and what is in its block is too much.
        CardBridge u = Bridges.small();
        Check.runIs(u, script + Check.times(39, "put b 1;") + "if holds [ ]", 7, script.length() + 39 * 8);
        Check.same("the 401st tests nothing", u.count(5), 0);
        CardBridge v = Bridges.small();
        int at = script.length() + 38 * 8;
        Check.runIs(v, script + Check.times(38, "put b 1;") + "if not holds or holds [ put c 9; ]", 7, at + 24);
        Check.same("the 400th tests", v.count(5), 2);
        Check.same("the first one in its block is not carried out", v.joint(4, 1), 0);
        CardBridge w = Bridges.small();
        Check.runIs(w, script + Check.times(38, "put b 1;") + "if 1 = 2 [ ] else [ take c 9; ]", 7, at + 20);
        CardBridge r = Bridges.small();
        Check.runIs(r, script + Check.times(38, "put b 1;") + "repeat 40 [ ]", 0, -1);
        Check.same("the next run begins anew", Check.run(r, "write 1;"), 0);
        Check.same("and counts anew", r.count(9), 1);
    }

    private static void errorAt() {
        CardBridge x = new CardBridge();
        Check.same("errorAt() ahead of all", x.errorAt(), -1);
        Check.buildIs(x, "  pier;", 1, 6);
        x.feed(0, 0, 0, 0, 0);
        x.trim(0);
        Check.same("errorAt() stays", x.errorAt(), 6);
        Check.buildIs(x, "pier p;", 0, -1);
        Check.runIs(x, "take z 1;", 3, 5);
        Check.runIs(x, "take p 1;", 0, -1);
        Check.runIs(x, "repeat 40 [ repeat 40 [ put p 1; ] ]", 7, 24);
        Check.buildIs(x, "", 0, -1);
    }

    private static void count() {
        CardBridge x = Bridges.small();
        x.put(0, 1);
        x.put(1, 3);
        x.put(4, 50);
        x.cut(1);
        x.cut(2);
        x.holds();
        Check.run(x, "write 3; write 44;");
        Check.write(x, "abc");
        int[] due = {5, 2, 3, 2, 54, 1, 7, 5, 3, 2};
        for (int what = 0; what <= 9; what++) {
            Check.same("count(" + what + ")", x.count(what), due[what]);
        }
        Check.throwsOnly("count(-1)", x, Check.INDEX, () -> x.count(-1));
        Check.throwsOnly("count(10)", x, Check.INDEX, () -> x.count(10));
        Check.throwsOnly("count of the least int", x, Check.INDEX, () -> x.count(Integer.MIN_VALUE));
    }

    private static void joint() {
        CardBridge x = Bridges.small();
        x.put(2, 17);
        int[][] due = {{1, 0, 1, 1}, {0, 0, 2, 1}, {0, 17, 2, 1}, {1, 0, 1, 1}, {0, 0, 0, 0}};
        for (int j = 0; j < 5; j++) {
            for (int what = 0; what < 4; what++) {
                Check.same("joint(" + j + ", " + what + ")", x.joint(j, what), due[j][what]);
            }
        }
        x.cut(0);
        Check.same("whole cards at a behind a cut", x.joint(1, 2), 1);
        Check.same("a hangs by b", x.joint(1, 3), 1);
        x.cut(2);
        Check.same("a does not hang", x.joint(1, 3), 0);
        Check.same("b does not hang", x.joint(2, 3), 0);
        Check.same("a pier hangs without cards", x.joint(3, 3), 1);
        Check.same("a pier without whole cards", x.joint(3, 2), 0);
        Check.throwsOnly("joint(5, 0)", x, Check.INDEX, () -> x.joint(5, 0));
        Check.throwsOnly("joint(-1, 0)", x, Check.INDEX, () -> x.joint(-1, 0));
        Check.throwsOnly("joint(0, 4)", x, Check.INDEX, () -> x.joint(0, 4));
        Check.throwsOnly("joint(0, -1)", x, Check.INDEX, () -> x.joint(0, -1));
        CardBridge y = new CardBridge();
        // A ring of twelve, told against its direction, so that ways are long both ways round.
        Check.build(y, Bridges.joints(12) + twelveCards());
        y.cut(0);
        Check.same("the way round hangs j1", y.joint(1, 3), 1);
        y.cut(6);
        Check.same("behind both cuts j6 does not hang", y.joint(6, 3), 0);
        Check.same("ahead of both cuts j7 hangs", y.joint(7, 3), 1);
    }

    private static void card() {
        CardBridge x = Bridges.small();
        int[][] due = {{0, 1, 4, 0}, {1, 2, 6, 0}, {3, 2, 3, 0}};
        x.hide(0);
        for (int c = 0; c < 3; c++) {
            for (int what = 0; what < 4; what++) {
                Check.same("card(" + c + ", " + what + ")", x.card(c, what), due[c][what]);
            }
        }
        x.cut(2);
        Check.same("a cut card", x.card(2, 3), 1);
        Check.same("a cut card bears what is told", x.card(2, 2), 3);
        Check.throwsOnly("card(3, 0)", x, Check.INDEX, () -> x.card(3, 0));
        Check.throwsOnly("card(-1, 0)", x, Check.INDEX, () -> x.card(-1, 0));
        Check.throwsOnly("card(0, 4)", x, Check.INDEX, () -> x.card(0, 4));
        Check.throwsOnly("card(0, -1)", x, Check.INDEX, () -> x.card(0, -1));
    }

    private static void hide() {
        CardBridge x = Bridges.small();
        x.put(1, 14);
        Check.isFalse("no beam, 14 on a", x.holds());
        Check.same("one test", x.count(5), 1);
        Check.same("beams that fit the test: none, in m, in n", x.count(6), 3);
        Check.throwsOnly("hide(3)", x, Check.INDEX, () -> x.hide(3));
        Check.throwsOnly("hide(-1)", x, Check.INDEX, () -> x.hide(-1));
        Check.same("hide", x.hide(0), 1);
        Check.same("hide forgets the tests", x.count(5), 0);
        Check.same("all beams fit", x.count(6), 7);
        Check.isTrue("a beam in k bears 14", x.holds());
        Check.same("hide another", x.hide(2), 2);
        Check.isTrue("a test with both", x.holds());
        Check.throwsOnly("a third beam", x, Check.STATE, () -> x.hide(1));
        Check.throwsOnly("no card ahead of too many beams", x, Check.INDEX, () -> x.hide(3));
        Check.same("a refused beam forgets no tests", x.count(5), 1);
        Check.same("hide takes a beam out", x.hide(0), 1);
        Check.same("taking out forgets the tests, too", x.count(5), 0);
        x.put(1, 11);
        Check.isFalse("a beam in n alone does not bear 11 on a", x.holds());
        x.put(1, 10);
        Check.isTrue("a beam in n bears 10 by m", x.holds());
        Check.same("hide in the third one now", x.hide(1), 2);
    }

    private static void put() {
        CardBridge x = Bridges.small();
        Check.same("put", x.put(1, 60), 0);
        Check.same("put again", x.put(1, 0), 60);
        Check.same("put on a pier", x.put(0, 3), 0);
        Check.same("the load is put", x.joint(0, 1), 3);
        Check.throwsOnly("put(1, 61)", x, Check.ARGUMENT, () -> x.put(1, 61));
        Check.throwsOnly("put(1, -1)", x, Check.ARGUMENT, () -> x.put(1, -1));
        Check.throwsOnly("put(5, 3)", x, Check.INDEX, () -> x.put(5, 3));
        Check.throwsOnly("put(-1, 3)", x, Check.INDEX, () -> x.put(-1, 3));
        Check.throwsOnly("put(5, 61)", x, Check.INDEX, () -> x.put(5, 61));
    }

    private static void cut() {
        CardBridge x = Bridges.small();
        Check.same("cut", x.cut(2), 1);
        Check.same("cut another", x.cut(0), 2);
        Check.same("cut glues", x.cut(2), 1);
        Check.same("k stays cut", x.card(0, 3), 1);
        Check.same("n is whole", x.card(2, 3), 0);
        Check.throwsOnly("cut(3)", x, Check.INDEX, () -> x.cut(3));
        Check.throwsOnly("cut(-1)", x, Check.INDEX, () -> x.cut(-1));
    }

    private static void holds() {
        CardBridge x = Bridges.small();
        Check.isTrue("without loads", x.holds());
        x.put(1, 7);
        Check.isTrue("7 on a go by k and, by m, n", x.holds());
        x.put(0, 60);
        Check.isTrue("what is at a pier is borne", x.holds());
        x.put(1, 8);
        Check.isFalse("8 on a are too much", x.holds());
        x.put(1, 0);
        x.put(2, 7);
        Check.isTrue("cards bear both ways", x.holds());
        x.put(2, 5);
        x.put(1, 3);
        Check.isFalse("8 on both are too much", x.holds());
        x.put(2, 0);
        x.put(1, 0);
        x.put(4, 1);
        Check.isFalse("nothing goes out from c", x.holds());
        x.put(4, 0);
        x.hide(0);
        x.put(1, 17);
        Check.isTrue("a beam bears 10 more", x.holds());
        x.put(1, 18);
        Check.isFalse("a beam bears only 10 more", x.holds());
        x.cut(0);
        x.put(1, 4);
        Check.isFalse("a cut card bears nothing, its beam either", x.holds());
        x.put(1, 3);
        Check.isTrue("the other way is left", x.holds());
        Check.same("all were kept since hide()", x.count(5), 4);
        firstThirty();
    }

    /** The 31st test is told, but not kept. */
    private static void firstThirty() {
        CardBridge x = Bridges.single(5);
        for (int i = 1; i <= 30; i++) {
            Check.isTrue("test " + i, x.holds());
            Check.same("tests that are kept", x.count(5), i);
        }
        x.put(1, 12);
        Check.isFalse("the 31st test is told", x.holds());
        Check.same("and not kept", x.count(5), 30);
        Check.same("so it tells nothing of beams", x.count(6), 2);
        Check.run(x, "if holds [ ]");
        Check.same("nor does one of a script", x.count(6), 2);
        Check.same("would() looks behind the 30th, too", x.would(1, 12, false), 1);
        x.hide(0);
        Check.isTrue("tests are kept anew", x.holds());
        Check.same("one is kept", x.count(5), 1);
        Check.same("and tells of beams", x.count(6), 1);
        // A test is kept with the loads and the cuts of its time.
        CardBridge y = Bridges.small();
        y.hide(1);
        y.put(2, 13);
        y.cut(0);
        Check.isFalse("13 on b go by n alone", y.holds());
        y.cut(0);
        y.put(2, 0);
        Check.same("beams with n would have held", y.count(6), 4);
        Check.same("fit(1)", y.fit(1), 1);
        Check.same("fit(2)", y.fit(2), 2);
        Check.same("fit(3)", y.fit(3), 3);
    }

    private static void bears() {
        CardBridge x = Bridges.small();
        Check.same("nothing", x.bears(), 0);
        x.put(1, 30);
        Check.same("30 on a", x.bears(), 7);
        x.put(2, 30);
        Check.same("30 on both", x.bears(), 7);
        x.put(0, 11);
        x.put(3, 12);
        Check.same("loads at piers", x.bears(), 30);
        x.put(4, 60);
        Check.same("nothing of c", x.bears(), 30);
        x.hide(0);
        Check.same("beams are not known", x.bears(), 30);
        x.cut(0);
        Check.same("a cut card bears nothing", x.bears(), 26);
        Check.same("nothing is tested", x.count(5), 0);
    }

    private static void blame() {
        CardBridge x = Bridges.small();
        Check.same("nobody", x.blame(), 0);
        x.put(1, 7);
        Check.same("just held", x.blame(), 0);
        x.put(1, 8);
        Check.same("k and n are full", x.blame(), 5);
        x.put(1, 30);
        x.hide(0);
        Check.same("beams are not known", x.blame(), 5);
        x.cut(2);
        Check.same("cut cards are not to blame", x.blame(), 1);
        x.put(1, 0);
        x.put(4, 5);
        Check.same("no card at c, so none to blame", x.blame(), 0);
        // a - b - p, both of 3: of the sets {a} and {a, b} the one that is in all others is {a}.
        CardBridge y = new CardBridge();
        Check.build(y, "joint a; joint b; pier p; card k from a to b bears 3; card m from b to p bears 3;");
        y.put(0, 4);
        Check.same("the least set tells", y.blame(), 1);
        y.put(1, 1);
        Check.same("both are too weak now", y.blame(), 2);
        y.put(0, 3);
        Check.same("only the last is", y.blame(), 2);
        y.put(0, 4);
        y.put(1, 0);
        Check.run(y, "cut m;");
        Check.same("behind the cut the set is greater, without a whole card at its edge", y.blame(), 0);
        Check.same("though it does not hold", y.bears(), 0);
    }

    private static void removal() {
        CardBridge x = Bridges.small();
        Check.same("without loads it holds without cards", x.removal(), -1);
        x.put(1, 4);
        Check.same("k holds 4, n does not", x.removal(), 1);
        x.put(1, 3);
        Check.same("k and n, or k and m: m is less", x.removal(), 3);
        x.put(1, 5);
        Check.same("any is needed: the least is k", x.removal(), 1);
        x.put(1, 8);
        Check.same("it does not hold", x.removal(), 0);
        x.put(1, 3);
        x.cut(0);
        Check.same("a cut card is not cut again", x.removal(), 2);
        x.hide(0);
        x.hide(1);
        Check.same("beams are not known", x.removal(), 2);
        Check.same("nothing is cut", x.count(3), 1);
        Check.same("nothing is tested", x.count(5), 0);
        CardBridge y = new CardBridge();
        String cards = "";
        for (int c = 0; c < 4; c++) {
            cards += "card c" + c + " from p to a bears 5;";
        }
        Check.build(y, "pier p; joint a; " + cards);
        y.put(1, 6);
        Check.same("three of four", y.removal(), 7);
        y.put(1, 5);
        Check.same("four are too many", y.removal(), -1);
        y.put(1, 11);
        Check.same("two of four", y.removal(), 3);
        y.put(1, 16);
        Check.same("one of four", y.removal(), 1);
        y.put(0, 30);
        y.put(1, 0);
        Check.same("what is at a pier needs no card", y.removal(), -1);
        CardBridge z = new CardBridge();
        Check.build(z, "pier p; joint a; joint b; card k from p to b bears 9; card l from p to a bears 1;"
                + "card m from p to a bears 8; card n from p to a bears 7;");
        z.put(1, 8);
        Check.same("l and m leave 7", z.removal(), 6);
        z.put(1, 7);
        Check.same("l and m leave 7; m and n leave 1", z.removal(), 12);
        z.put(1, 1);
        Check.same("all three at a", z.removal(), 14);
    }

    private static void most() {
        CardBridge x = Bridges.small();
        Check.same("most on a", x.most(1), 7);
        Check.same("most on b", x.most(2), 7);
        Check.same("most on c", x.most(4), 0);
        Check.same("most on a pier", x.most(0), 60);
        x.put(1, 5);
        Check.same("most on b behind a load", x.most(2), 2);
        Check.same("its own load does not count", x.most(1), 7);
        x.put(1, 20);
        Check.same("most on b where a is too much", x.most(2), -1);
        Check.same("most on a pier where a is too much", x.most(3), -1);
        Check.same("most on a itself", x.most(1), 7);
        x.hide(0);
        Check.same("beams are not known", x.most(1), 7);
        x.cut(0);
        Check.same("behind a cut", x.most(1), 3);
        Check.same("nothing is changed", x.joint(1, 1), 20);
        Check.same("nothing is tested", x.count(5), 0);
        Check.throwsOnly("most(5)", x, Check.INDEX, () -> x.most(5));
        Check.throwsOnly("most(-1)", x, Check.INDEX, () -> x.most(-1));
        CardBridge y = new CardBridge();
        Check.build(y, "pier p; joint a; card k from p to a bears 30; card m from p to a bears 30;"
                + "card n from p to a bears 3;");
        Check.same("at most 60", y.most(1), 60);
    }

    private static void fit() {
        CardBridge x = Bridges.small();
        int[] due = {0, 1, 2, 3, 4, 5, 6};
        for (int i = 0; i < due.length; i++) {
            Check.same("fit(" + i + ")", x.fit(i), due[i]);
        }
        Check.throwsOnly("fit(7)", x, Check.INDEX, () -> x.fit(7));
        Check.throwsOnly("fit(-1)", x, Check.INDEX, () -> x.fit(-1));
        x.hide(2);
        x.put(2, 15);
        Check.isTrue("15 on b by n's beam", x.holds());
        // 15 on b: n 3 + 10, and k 4 by m 6; or k with a beam, 14, by m 6 + n 3 = 9: no; k and m: 14 + 3.
        int[] left = {3, 4, 5, 6};
        Check.same("beams that fit", x.count(6), left.length);
        for (int i = 0; i < left.length; i++) {
            Check.same("fit(" + i + ") behind a test", x.fit(i), left[i]);
        }
        Check.throwsOnly("fit(4) behind a test", x, Check.INDEX, () -> x.fit(4));
        x.put(2, 18);
        Check.isFalse("18 on b are too much", x.holds());
        // n 13 and k 4 are 17; k and m 14 + 3 are 17; k and n: 13 + 6 are 19; m and n: 13 + 4 are 17.
        int[] last = {3, 4, 6};
        Check.same("beams that fit both tests", x.count(6), last.length);
        for (int i = 0; i < last.length; i++) {
            Check.same("fit(" + i + ") behind two tests", x.fit(i), last[i]);
        }
        CardBridge y = new CardBridge();
        Check.build(y, Bridges.joints(12) + twelveCards());
        int before = -1;
        for (int i = 0; i < 79; i++) {
            Check.isTrue("sets ascend", y.fit(i) > before && Integer.bitCount(y.fit(i)) <= 2);
            before = y.fit(i);
        }
        Check.same("the greatest set", before, 3 << 10);
    }

    private static void sure() {
        CardBridge x = Bridges.small();
        for (int c = 0; c < 3; c++) {
            Check.same("sure(" + c + ") ahead of tests", x.sure(c), 2);
        }
        x.hide(2);
        x.put(2, 18);
        Check.isFalse("18 on b are too much", x.holds());
        x.put(2, 8);
        x.cut(0);
        Check.isTrue("8 on b by n alone", x.holds());
        Check.same("n has a beam", x.sure(2), 1);
        Check.same("k has none, as with n it bears 19", x.sure(0), 0);
        Check.same("m may have one", x.sure(1), 2);
        Check.throwsOnly("sure(3)", x, Check.INDEX, () -> x.sure(3));
        Check.throwsOnly("sure(-1)", x, Check.INDEX, () -> x.sure(-1));
    }

    private static void would() {
        CardBridge x = Bridges.small();
        x.hide(2);
        x.put(2, 30);
        Check.same("held with 15 on b", x.would(2, 15, true), 4);
        Check.same("not held with 15 on b", x.would(2, 15, false), 3);
        Check.same("held with 0", x.would(2, 0, true), 7);
        Check.same("not held with 0", x.would(2, 0, false), 0);
        Check.same("held with 60", x.would(2, 60, true), 0);
        Check.same("held with another load, the others as they are", x.would(1, 0, true), 0);
        Check.same("nothing is put", x.joint(2, 1), 30);
        Check.same("nothing is tested", x.count(5), 0);
        x.put(2, 15);
        x.holds();
        Check.same("of those that fit", x.would(2, 18, false), 3);
        Check.same("of those that fit, held", x.would(2, 18, true), 1);
        x.cut(0);
        Check.same("with the cards cut as they are", x.would(2, 13, true), 3);
        Check.throwsOnly("would(5, 0, true)", x, Check.INDEX, () -> x.would(5, 0, true));
        Check.throwsOnly("would(-1, 0, true)", x, Check.INDEX, () -> x.would(-1, 0, true));
        Check.throwsOnly("would(1, 61, true)", x, Check.ARGUMENT, () -> x.would(1, 61, true));
        Check.throwsOnly("would(1, -1, false)", x, Check.ARGUMENT, () -> x.would(1, -1, false));
        Check.throwsOnly("would(5, 61, true)", x, Check.INDEX, () -> x.would(5, 61, true));
    }

    private static void advise() {
        for (int j = 0; j < 5; j++) {
            CardBridge x = Bridges.small();
            int due = 0;
            int fewest = 99;
            for (int load = 0; load <= 60; load++) {
                int worse = Math.max(x.would(j, load, true), x.would(j, load, false));
                if (worse < fewest) {
                    fewest = worse;
                    due = load;
                }
            }
            Check.same("advise(" + j + ")", x.advise(j), due);
        }
        // With 6 to 15 a beam in k alone tells all: of these loads the least is told.
        CardBridge y = Bridges.single(5);
        Check.same("of several the least", y.advise(1), 6);
        Check.same("at a pier all loads tell as much", y.advise(0), 0);
        y.put(1, 7);
        Check.same("its own load does not count", y.advise(1), 6);
        y.holds();
        Check.same("where all is known any load will do", y.advise(1), 0);
        Check.same("nothing is put", y.joint(1, 1), 7);
        Check.same("nothing is tested", y.count(5), 1);
        CardBridge z = new CardBridge();
        Check.build(z, "pier p; joint a; card k from p to a bears 30; card m from a to p bears 29;");
        Check.same("only the greatest load tells something", z.advise(1), 60);
        Check.throwsOnly("advise(2)", y, Check.INDEX, () -> y.advise(2));
        Check.throwsOnly("advise(-1)", y, Check.INDEX, () -> y.advise(-1));
    }

    private static void safe() {
        CardBridge x = Bridges.small();
        x.hide(2);
        Check.same("any beams, also none", x.safe(2), 7);
        Check.same("at a pier", x.safe(0), 60);
        Check.same("at c", x.safe(4), 0);
        x.put(2, 15);
        x.holds();
        Check.same("with 3, 4, 5 or 6", x.safe(2), 17);
        Check.same("on a, 15 on b", x.safe(1), 2);
        x.put(1, 20);
        Check.same("none on b, 20 on a", x.safe(2), -1);
        x.cut(0);
        x.put(1, 0);
        Check.same("with the cards cut as they are", x.safe(2), 3);
        Check.same("nothing is put", x.joint(2, 1), 15);
        Check.same("nothing is tested", x.count(5), 1);
        Check.throwsOnly("safe(5)", x, Check.INDEX, () -> x.safe(5));
        Check.throwsOnly("safe(-1)", x, Check.INDEX, () -> x.safe(-1));
    }

    private static void byteAt() {
        CardBridge x = Bridges.small();
        Check.throwsOnly("byteAt(0) of an empty paper", x, Check.INDEX, () -> x.byteAt(0));
        Check.run(x, "write -30;");
        int[] due = {'-', '3', '0', '\n'};
        for (int i = 0; i < due.length; i++) {
            Check.same("byteAt(" + i + ")", x.byteAt(i), due[i]);
        }
        Check.throwsOnly("byteAt(4)", x, Check.INDEX, () -> x.byteAt(4));
        Check.throwsOnly("byteAt(-1)", x, Check.INDEX, () -> x.byteAt(-1));
    }

    private static void clear() {
        CardBridge x = Bridges.small();
        Check.run(x, "write 55; write 6;");
        Check.same("clear", x.clear(), 5);
        Check.same("the paper is empty", x.count(7), 0);
        Check.same("clear of an empty paper", x.clear(), 0);
        Check.throwsOnly("byteAt(0) behind clear", x, Check.INDEX, () -> x.byteAt(0));
        Check.writes(x, "write 7;", "7|");
    }

    private static void share() {
        CardBridge x = Bridges.small();
        Check.isTrue("1 without loads", x.share() == 1.0);
        x.put(1, 7);
        Check.isTrue("all is borne", x.share() == 1.0);
        x.put(1, 21);
        Check.isTrue("7 of 21", x.share() == 7.0 / 21.0);
        x.hide(0);
        Check.isTrue("beams are not known", x.share() == 7.0 / 21.0);
        x.put(1, 0);
        x.put(4, 9);
        Check.isTrue("nothing of 9", x.share() == 0.0);
        x.put(0, 4);
        Check.isTrue("4 of 13", x.share() == 4.0 / 13.0);
    }

    private static void digest() {
        long empty = 743;
        for (int what = 0; what <= 9; what++) {
            empty = empty * 31 + (what == 6 ? 1 : 0);
        }
        empty = (empty * 31 + 0) * 31 * 31 + 0;
        empty = empty * 31 - 1;
        Check.same("digest() of a new object", new CardBridge().digest(), empty);
        CardBridge x = Bridges.small();
        Check.same("digest()", x.digest(), reckonedDigest(x));
        x.put(1, 5);
        x.hide(1);
        x.cut(2);
        x.holds();
        Check.run(x, "write -12; write 345; if holds [ ]");
        Check.write(x, "xyz");
        Check.same("digest() of more", x.digest(), reckonedDigest(x));
        Check.same("digest() changes nothing", x.digest(), reckonedDigest(x));
    }

    static long reckonedDigest(CardBridge x) {
        long d = 743;
        for (int what = 0; what <= 9; what++) {
            d = d * 31 + x.count(what);
        }
        for (int i = 0; i < 4 * x.count(0); i++) {
            d = d * 31 + x.joint(i / 4, i % 4);
        }
        for (int i = 0; i < 4 * x.count(2); i++) {
            d = d * 31 + x.card(i / 4, i % 4);
        }
        for (int i = 0; i < x.count(6); i++) {
            d = d * 31 + x.fit(i);
        }
        d = ((d * 31 + x.bears()) * 31 + x.blame()) * 31 + x.removal();
        for (int i = 0; i < x.count(7); i++) {
            d = d * 31 + x.byteAt(i);
        }
        return d;
    }
}
