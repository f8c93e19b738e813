import java.math.BigInteger;

/** "Promise 1" to "Promise 26": the least and the greatest that each takes and answers; wrong inputs are in RefusedCalls. */
public final class PromiseEdges {
    public static void main(String[] args) {
        newObject();
        feedPutsTheHighestByteFirst();
        feedToTheBrim();
        trim();
        buildAnswers();
        runAnswers();
        errorAt();
        countsOfNothing();
        countsOfAll();
        joints();
        cards();
        hide();
        put();
        cut();
        holds();
        bears();
        blame();
        removalOfSoMany();
        removalOfTheLeast();
        most();
        fit();
        sure();
        would();
        wouldBehindThirtyTests();
        advise();
        safe();
        byteAt();
        clear();
        share();
        digest();
        Check.end("PromiseEdges");
    }

    /** A bridge with the most of all: 12 joints, piers all but the last, and 12 cards at that. */
    private static CardBridge star(int bears) {
        StringBuilder design = new StringBuilder();
        for (int j = 0; j < 12; j++) {
            design.append(j < 11 ? "pier j" : "joint j").append(j).append(';');
        }
        for (int c = 0; c < 12; c++) {
            design.append("card c").append(c).append(" from j").append(c % 11).append(" to j11 bears ").append(bears).append(';');
        }
        return Bridges.built(design.toString());
    }

    /** "Creates a bridge without joints, with an empty paper." */
    private static void newObject() {
        CardBridge x = new CardBridge();
        for (int what = 0; what <= 9; what++) {
            Check.same("count(" + what + ")", x.count(what), what == 6 ? 1 : 0);
        }
        Check.same("errorAt()", x.errorAt(), -1);
        Check.same("bears()", x.bears(), 0);
        Check.same("blame()", x.blame(), 0);
        Check.same("removal()", x.removal(), -1);
        Check.same("fit(0)", x.fit(0), 0);
        Check.isTrue("share()", x.share() == 1.0);
        Check.same("trim(0)", x.trim(0), 0);
        Check.same("clear()", x.clear(), 0);
        Check.isTrue("holds()", x.holds());
        Check.same("build()", x.build(), 0);
        Check.same("run()", x.run(), 0);
        // Objects have nothing in common.
        CardBridge y = Bridges.small();
        y.put(1, 5);
        Check.same("another object has its own bridge", x.count(0), 0);
        Check.same("and its own loads", x.count(4), 0);
    }

    /** "the four bytes of each number, the highest one first". */
    private static void feedPutsTheHighestByteFirst() {
        for (int place = 0; place < 20; place++) {
            for (int sign : new int[] {0, 127, 128, 255}) {
                int[] n = {0x20202020, 0x20202020, 0x20202020, 0x20202020, 0x20202020};
                int shift = 24 - place % 4 * 8;
                n[place / 4] = n[place / 4] & ~(255 << shift) | sign << shift;
                CardBridge x = new CardBridge();
                Check.same("feed", x.feed(n[0], n[1], n[2], n[3], n[4]), 20);
                Check.same("build() of the byte " + sign, x.build(), 1);
                Check.same("the byte is at " + place, x.errorAt(), place);
            }
        }
        CardBridge y = new CardBridge();
        // "write 123456;write -"
        y.feed(0x77726974, 0x65203132, 0x33343536, 0x3b777269, 0x7465202d);
        // "98765;              "
        y.feed(0x39383736, 0x353b2020, 0x20202020, 0x20202020, 0x20202020);
        Check.same("run() of what was fed", y.run(), 0);
        Check.isTrue("it writes", Check.paper(y).equals("123456\n-98765\n"));
    }

    /** "Throws IllegalStateException if there would be more than 2000". */
    private static void feedToTheBrim() {
        for (int size = 1960; size <= 2000; size++) {
            CardBridge x = new CardBridge();
            for (int i = 0; i < 100; i++) {
                x.feed(0x20202020, 0x20202020, 0x20202020, 0x20202020, 0x20202020);
            }
            x.trim(size);
            if (size <= 1980) {
                Check.same("feed behind " + size, x.feed(0x3b3b3b3b, 0, 0, 0, 0), size + 20);
                Check.same("it is read", x.build(), 1);
                Check.same("where the tape ended", x.errorAt(), size);
            } else {
                Check.throwsOnly("feed behind " + size, x, Check.STATE, () -> x.feed(0x3b3b3b3b, 0, 0, 0, 0));
                Check.same("nothing of it is read", x.build(), 0);
            }
        }
    }

    /** "n is not 0 to the number of bytes of the tape". */
    private static void trim() {
        CardBridge x = new CardBridge();
        for (int i = 0; i < 100; i++) {
            x.feed(0x20202020, 0x20202020, 0x20202020, 0x20202020, 0x20202020);
        }
        Check.throwsOnly("trim(2001)", x, Check.ARGUMENT, () -> x.trim(2001));
        Check.same("trim(2000)", x.trim(2000), 2000);
        Check.same("trim(1999)", x.trim(1999), 1999);
        Check.throwsOnly("trim(2000) behind it", x, Check.ARGUMENT, () -> x.trim(2000));
        Check.throwsOnly("trim(-1)", x, Check.ARGUMENT, () -> x.trim(-1));
        Check.same("trim(1)", x.trim(1), 1);
        Check.same("trim(0)", x.trim(0), 0);
        Check.same("trim(0) again", x.trim(0), 0);
        Check.throwsOnly("trim(1) of nothing", x, Check.ARGUMENT, () -> x.trim(1));
    }

    /** "Returns 0, or the error, 1 to 6." */
    private static void buildAnswers() {
        CardBridge x = new CardBridge();
        Check.buildIs(x, "pier p;", 0, -1);
        Check.buildIs(x, "pier", 1, 4);
        Check.buildIs(x, "pier p;pier p;", 2, 12);
        Check.buildIs(x, "card k from p to p bears 1;", 3, 12);
        Check.buildIs(x, Bridges.joints(12) + "pier q;", 4, Bridges.joints(12).length() + 5);
        Check.buildIs(x, "pier p;joint a;card k from p to a bears 31;", 5, 40);
        Check.buildIs(x, "pier p;card k from p to p bears 1;", 6, 24);
        Check.same("the first bridge stays", x.count(0), 1);
        Check.buildIs(x, "", 0, -1);
        Check.same("a bridge of nothing", x.count(0), 0);
        Check.buildIs(x, Bridges.joints(12) + Bridges.cards(12, 30), 0, -1);
        Check.same("a bridge of the most cards", x.count(2), 12);
    }

    /** "Returns 0, or the error, 1, 3, 5 or 7." */
    private static void runAnswers() {
        CardBridge x = new CardBridge();
        Check.runIs(x, "", 0, -1);
        Check.runIs(x, "write", 1, 5);
        Check.runIs(x, "cut k;", 3, 4);
        Check.runIs(x, "repeat 41[]", 5, 7);
        Check.runIs(x, "repeat 40[repeat 40[]write 1;write 2;write 3;write 4;write 5;write 6;write 7;write 8;write 9;]", 7, 85);
        Check.same("400 of 401", x.count(9), 400);
    }

    /** "the position of the error of the latest build() or run(); -1 if it had none, or there was none". */
    private static void errorAt() {
        CardBridge x = new CardBridge();
        Check.same("ahead of all", x.errorAt(), -1);
        Check.buildIs(x, ";", 1, 0);
        Check.runIs(x, "", 0, -1);
        Check.runIs(x, "]", 1, 0);
        Check.buildIs(x, "", 0, -1);
        Check.runIs(x, " ".repeat(1995) + "write", 1, 2000);
        x.feed(0, 0, 0, 0, 0);
        x.trim(20);
        x.holds();
        x.clear();
        Check.same("other calls leave it", x.errorAt(), 2000);
        Check.same("and build() does not", x.build(), 1);
        Check.same("as it has an error of its own", x.errorAt(), 0);
    }

    /** Each count at its least. */
    private static void countsOfNothing() {
        CardBridge x = Bridges.built("joint a;");
        int[] due = {1, 0, 0, 0, 0, 0, 1, 0, 0, 0};
        for (int what = 0; what <= 9; what++) {
            Check.same("count(" + what + ") of one joint", x.count(what), due[what]);
        }
    }

    /** Each count at its greatest. */
    private static void countsOfAll() {
        CardBridge x = star(30);
        Check.run(x, "repeat 40[write 123456;]repeat 31[write 123456;]write 12;");
        Check.run(x, "repeat 40[repeat 9[put j0 0;]]");
        for (int i = 0; i < 12; i++) {
            x.put(i, 60);
            x.cut(i);
        }
        x.put(11, 0);
        for (int i = 0; i < 31; i++) {
            x.holds();
        }
        for (int i = 0; i < 100; i++) {
            x.feed(0, 0, 0, 0, 0);
        }
        int[] due = {12, 11, 12, 12, 660, 30, 79, 500, 2000, 400};
        for (int what = 0; what <= 9; what++) {
            Check.same("count(" + what + ") of much", x.count(what), due[what]);
        }
        CardBridge y = Bridges.built(Bridges.joints(12).replace("joint", "pier"));
        for (int j = 0; j < 12; j++) {
            y.put(j, 60);
        }
        Check.same("twelve piers", y.count(1), 12);
        Check.same("their loads", y.count(4), 720);
        Check.same("are borne", y.bears(), 720);
        Check.isTrue("all of them", y.holds());
    }

    /** Joints 0 to the last, what 0 to 3. */
    private static void joints() {
        CardBridge x = star(5);
        x.put(0, 60);
        x.put(11, 59);
        int[][] due = {{1, 60, 2, 1}, {0, 59, 12, 1}};
        for (int what = 0; what <= 3; what++) {
            Check.same("joint(0, " + what + ")", x.joint(0, what), due[0][what]);
            Check.same("joint(11, " + what + ")", x.joint(11, what), due[1][what]);
        }
        for (int c = 0; c < 12; c++) {
            Check.same("whole cards at the joint", x.joint(11, 2), 12 - c);
            Check.same("it hangs", x.joint(11, 3), 1);
            x.cut(c);
        }
        Check.same("no whole card at the joint", x.joint(11, 2), 0);
        Check.same("it does not hang", x.joint(11, 3), 0);
        x.cut(11);
        Check.same("one whole card at the joint", x.joint(11, 2), 1);
        Check.same("it hangs again", x.joint(11, 3), 1);
    }

    /** Cards 0 to the last, what 0 to 3. */
    private static void cards() {
        CardBridge x = Bridges.built(Bridges.joints(12) + Bridges.cards(11, 1) + "card c11 from j11 to j0 bears 30;");
        x.cut(11);
        int[][] due = {{0, 1, 1, 0}, {11, 0, 30, 1}};
        for (int what = 0; what <= 3; what++) {
            Check.same("card(0, " + what + ")", x.card(0, what), due[0][what]);
            Check.same("card(11, " + what + ")", x.card(11, what), due[1][what]);
        }
    }

    /** "Returns how many cards have beams then": 0 to 2. */
    private static void hide() {
        CardBridge x = Bridges.ring(1);
        Check.same("the first card", x.hide(0), 1);
        Check.same("out of the first card", x.hide(0), 0);
        Check.same("the last card", x.hide(11), 1);
        Check.same("both", x.hide(0), 2);
        Check.throwsOnly("another", x, Check.STATE, () -> x.hide(5));
        Check.same("out of the last", x.hide(11), 1);
        Check.same("another then", x.hide(5), 2);
        // The beams are where they were put: 11 from j0 by c0, and 1 by c11 and the rest.
        x.put(1, 12);
        Check.isTrue("12 on j1", x.holds());
        x.put(1, 13);
        Check.isFalse("13 on j1", x.holds());
        Check.same("a beam goes in a cut card, too", x.cut(7) + x.hide(0) + x.hide(7), 4);
    }

    /** Loads 0 and 60, at the first and the last joint. */
    private static void put() {
        CardBridge x = star(5);
        for (int j : new int[] {0, 11}) {
            Check.same("60", x.put(j, 60), 0);
            Check.same("60 again", x.put(j, 60), 60);
            Check.same("0", x.put(j, 0), 60);
            Check.same("0 again", x.put(j, 0), 0);
            Check.same("59", x.put(j, 59), 0);
            Check.same("1", x.put(j, 1), 59);
        }
        Check.same("all loads", x.count(4), 2);
        Check.same("put() tests nothing", x.count(5), 0);
    }

    /** "Returns how many cards are cut then": 0 to 12. */
    private static void cut() {
        CardBridge x = star(5);
        for (int c = 11; c >= 0; c--) {
            Check.same("cut", x.cut(c), 12 - c);
        }
        for (int c = 11; c >= 0; c--) {
            Check.same("glue", x.cut(c), c);
        }
        Check.same("cut() tests nothing", x.count(5), 0);
    }

    /** True at the brim, false one above it; without joints, and without piers. */
    private static void holds() {
        CardBridge x = star(5);
        x.put(11, 60);
        Check.isTrue("60 on twelve times 5", x.holds());
        x.cut(3);
        Check.isFalse("60 on eleven times 5", x.holds());
        x.put(11, 56);
        Check.isFalse("56 on eleven times 5", x.holds());
        x.put(11, 55);
        Check.isTrue("55 on eleven times 5", x.holds());
        CardBridge y = Bridges.built("joint a; joint b; card k from a to b bears 30;");
        Check.isTrue("nothing, without piers", y.holds());
        y.put(0, 1);
        Check.isFalse("1, without piers", y.holds());
    }

    /** 0, all loads, and what is between. */
    private static void bears() {
        CardBridge x = star(5);
        Check.same("no loads", x.bears(), 0);
        for (int load = 0; load <= 60; load++) {
            x.put(11, load);
            Check.same("all of " + load, x.bears(), load);
        }
        for (int cut = 1; cut <= 12; cut++) {
            x.cut(cut - 1);
            Check.same("60, " + cut + " cards cut", x.bears(), 60 - 5 * cut);
        }
    }

    /** From none to all twelve cards. */
    private static void blame() {
        CardBridge x = star(4);
        x.put(11, 48);
        Check.same("it just holds", x.blame(), 0);
        x.put(11, 49);
        Check.same("all twelve", x.blame(), 4095);
        x.cut(0);
        x.cut(11);
        Check.same("all but the cut ones", x.blame(), 2046);
        for (int c = 1; c < 11; c++) {
            x.cut(c);
        }
        Check.same("none is whole", x.blame(), 0);
    }

    /** "the fewest whole cards .. : 0 if it would not hold so now .. -1 if there is none of at most 3 cards". */
    private static void removalOfSoMany() {
        int[] due = {-1, 7, 3, 1, 0};
        for (int i = 0; i < due.length; i++) {
            CardBridge x = Bridges.bundle(4, 5);
            x.put(1, i == 4 ? 21 : 1 + 5 * i);
            if (i == 0) {
                Check.same("four of four are too many", x.removal(), -1);
            } else {
                Check.same(4 - i + " of four", x.removal(), due[i]);
            }
            Check.same("nothing is cut", x.count(3), 0);
        }
        CardBridge y = Bridges.bundle(3, 5);
        y.put(1, 1);
        Check.same("three of three", y.removal(), 7);
        y.put(1, 0);
        Check.same("without a load none will do", y.removal(), -1);
        CardBridge z = Bridges.built("joint a; pier p;");
        Check.same("without cards and loads none will do", z.removal(), -1);
        z.put(0, 1);
        Check.same("without cards it does not hold", z.removal(), 0);
        CardBridge u = star(5);
        u.put(11, 60);
        Check.same("any of twelve", u.removal(), 1);
        u.put(11, 45);
        Check.same("any four of twelve are too many", u.removal(), -1);
        u.put(11, 46);
        Check.same("any three of twelve", u.removal(), 7);
        for (int c = 0; c < 9; c++) {
            u.cut(c);
        }
        u.put(11, 1);
        Check.same("the last three of twelve", u.removal(), 7 << 9);
        u.put(11, 15);
        Check.same("one of the last three", u.removal(), 1 << 9);
    }

    /** "of several sets of as many cards the least one". */
    private static void removalOfTheLeast() {
        CardBridge x = Bridges.built("pier p; joint a; joint b; card k from p to a bears 5; card l from p to a bears 5;"
                + "card m from p to b bears 5;");
        x.put(1, 5);
        x.put(2, 5);
        Check.same("one card, though a set of two is less", x.removal(), 4);
        x.put(2, 0);
        Check.same("two cards", x.removal(), 3);
        CardBridge y = Bridges.ring(9);
        y.put(6, 9);
        Check.same("the least of 36 pairs", y.removal(), 1 | 1 << 6);
        y.put(6, 0);
        y.put(11, 1);
        Check.same("the least of 11 pairs", y.removal(), 1 | 1 << 11);
        y.put(1, 1);
        Check.same("the least of more pairs", y.removal(), 1 | 1 << 1);
        y.put(6, 18);
        Check.same("it does not hold", y.removal(), 0);
        // A beam in the card that stays would bear it.
        for (int weak = 0; weak < 2; weak++) {
            CardBridge z = Bridges.built("pier p; joint a; card k from p to a bears " + (weak == 0 ? 1 : 8)
                    + "; card l from p to a bears " + (weak == 0 ? 8 : 1) + ";");
            z.put(1, 5);
            Check.same("the one that bears 8", z.removal(), weak == 0 ? 2 : 1);
            z.hide(weak);
            Check.same("beams are not known", z.removal(), weak == 0 ? 2 : 1);
        }
    }

    /** "the greatest load of this one, 0 to 60 .. ; -1 if there is none". */
    private static void most() {
        int[][] bundles = {{1, 1, 1}, {2, 30, 60}, {3, 30, 60}, {12, 5, 60}, {11, 5, 55}, {2, 29, 58}, {0, 1, 0}};
        for (int[] bundle : bundles) {
            CardBridge x = Bridges.bundle(bundle[0], bundle[1]);
            Check.same("most of " + bundle[0] + " times " + bundle[1], x.most(1), bundle[2]);
            x.put(1, 60);
            Check.same("its own load tells nothing", x.most(1), bundle[2]);
            Check.same("the load is as it was", x.joint(1, 1), 60);
        }
        CardBridge y = Bridges.built("joint a; joint b; pier p; card k from a to b bears 30; card m from b to p bears 9;");
        for (int load = 0; load <= 10; load++) {
            y.put(0, load);
            Check.same("most of b, " + load + " on a", y.most(1), 9 - load);
            Check.same("most of the pier", y.most(2), load <= 9 ? 60 : -1);
        }
        y.put(0, 60);
        Check.same("most of b, 60 on a", y.most(1), -1);
        Check.same("most of a, nothing on b", y.most(0), 9);
    }

    /** The first and the last, from 1 to 79 sets. */
    private static void fit() {
        CardBridge x = Bridges.ring(1);
        Check.same("the first of 79", x.fit(0), 0);
        Check.same("the second", x.fit(1), 1);
        Check.same("the last", x.fit(78), 3 << 10);
        CardBridge y = Bridges.bundle(1, 1);
        y.hide(0);
        y.put(1, 11);
        y.holds();
        Check.same("the only one", y.fit(0), 1);
        Check.throwsOnly("no other", y, Check.INDEX, () -> y.fit(1));
    }

    /** "0 if no beams that fit are in it .. , 1 if all are, 2 if some are." */
    private static void sure() {
        CardBridge x = star(2);
        for (int c = 0; c < 12; c++) {
            Check.same("ahead of tests", x.sure(c), 2);
        }
        x.hide(0);
        x.hide(11);
        x.put(11, 44);
        x.holds();
        for (int c = 0; c < 12; c++) {
            Check.same("44 need two beams, any", x.sure(c), 2);
        }
        for (int c = 1; c < 11; c++) {
            x.cut(c);
        }
        x.put(11, 24);
        x.holds();
        for (int c = 0; c < 12; c++) {
            Check.same("24 on the first and the last need these two", x.sure(c), c == 0 || c == 11 ? 1 : 0);
        }
        Check.same("one set", x.count(6), 1);
        CardBridge y = Bridges.bundle(2, 2);
        y.put(1, 5);
        y.holds();
        Check.same("no beam in the first", y.sure(0), 0);
        Check.same("no beam in the last", y.sure(1), 0);
    }

    /** Loads 0 and 60. */
    private static void would() {
        CardBridge x = star(2);
        Check.same("0 would be held by all", x.would(11, 0, true), 79);
        Check.same("and by none not", x.would(11, 0, false), 0);
        Check.same("24 by all", x.would(11, 24, true), 79);
        Check.same("25 by those with a beam", x.would(11, 25, true), 78);
        Check.same("34 too", x.would(11, 34, true), 78);
        Check.same("35 by those with two", x.would(11, 35, true), 66);
        Check.same("44 too", x.would(11, 44, true), 66);
        Check.same("45 by none", x.would(11, 45, true), 0);
        Check.same("60 by none", x.would(11, 60, true), 0);
        Check.same("60 by none, so 79 would fit", x.would(11, 60, false), 79);
        Check.same("60 at a pier by all", x.would(0, 60, true), 79);
        CardBridge y = new CardBridge();
        Check.build(y, "joint a;");
        Check.same("without cards the empty set", y.would(0, 0, true), 1);
        Check.same("without cards 1 is not held", y.would(0, 1, false), 1);
    }

    /** "and a test was told so, and kept, however many there are". */
    private static void wouldBehindThirtyTests() {
        CardBridge x = Bridges.bundle(2, 5);
        for (int i = 0; i < 40; i++) {
            x.holds();
        }
        Check.same("held with 11", x.would(1, 11, true), 3);
        Check.same("not held with 11", x.would(1, 11, false), 1);
        x.put(1, 11);
        x.holds();
        Check.same("the test itself is not kept", x.count(6), 4);
        Check.same("advise looks behind the 30th, too", x.advise(1), 11);
    }

    /** "0 to 60, of several the least". */
    private static void advise() {
        CardBridge x = Bridges.bundle(2, 30);
        Check.same("60 is held by all: all loads tell as much", x.advise(1), 0);
        CardBridge y = Bridges.built("pier p; joint a; card k from p to a bears 30; card l from p to a bears 29;");
        Check.same("60 is the only one that tells", y.advise(1), 60);
        CardBridge z = Bridges.bundle(2, 5);
        Check.same("11 to 20 tell 3 from 1, and 21 to 30 1 from 3", z.advise(1), 11);
        CardBridge u = Bridges.built("joint a;");
        Check.same("where nothing is to tell", u.advise(0), 0);
        // Where it holds with no load of the joint, all loads tell as much.
        z.put(1, 60);
        Check.same("at a pier, not held", z.advise(0), 0);
        CardBridge v = Bridges.single(1);
        Check.same("the first load that tells", v.advise(1), 2);
    }

    /** "0 to 60 .. ; -1 if there is none". */
    private static void safe() {
        CardBridge x = Bridges.bundle(2, 30);
        Check.same("60", x.safe(1), 60);
        x.cut(1);
        Check.same("30", x.safe(1), 30);
        x.cut(0);
        Check.same("0", x.safe(1), 0);
        x.put(1, 1);
        Check.same("its own load tells nothing", x.safe(1), 0);
        Check.same("none at the pier", x.safe(0), -1);
        x.put(1, 0);
        Check.same("60 at the pier", x.safe(0), 60);
        CardBridge y = Bridges.single(30);
        y.hide(0);
        Check.same("the beam is not known", y.safe(1), 30);
        y.put(1, 31);
        y.holds();
        Check.same("it is known by a test", y.safe(1), 40);
        CardBridge z = Bridges.bundle(3, 20);
        z.hide(0);
        z.put(1, 60);
        z.holds();
        Check.same("by any beams that fit", z.safe(1), 60);
        z.cut(2);
        Check.same("on two of three", z.safe(1), 40);
    }

    /** The first and the last byte. */
    private static void byteAt() {
        CardBridge x = new CardBridge();
        Check.run(x, "repeat 40[write 123456;]repeat 31[write 123456;]write -7;");
        Check.same("500 bytes", x.count(7), 500);
        Check.same("the first", x.byteAt(0), '1');
        Check.same("the last but one", x.byteAt(498), '7');
        Check.same("the last", x.byteAt(499), 10);
        Check.throwsOnly("the one behind it", x, Check.INDEX, () -> x.byteAt(500));
    }

    /** "Returns how many bytes it had": 0 to 500. */
    private static void clear() {
        CardBridge x = new CardBridge();
        Check.same("nothing", x.clear(), 0);
        Check.run(x, "write 1;");
        Check.same("the least", x.clear(), 2);
        Check.run(x, "repeat 40[write 123456;]repeat 31[write 123456;]write -7;");
        Check.same("the most", x.clear(), 500);
        Check.same("nothing again", x.clear(), 0);
        Check.same("the bytes are gone", x.count(7), 0);
        Check.run(x, "write 4;");
        Check.same("the next one stands at the beginning", x.byteAt(0), '4');
    }

    /** "1 without loads"; 0, and parts that no finite row of bits tells. */
    private static void share() {
        CardBridge x = Bridges.bundle(1, 1);
        Check.isTrue("without loads", x.share() == 1.0);
        x.put(1, 1);
        Check.isTrue("1 of 1", x.share() == 1.0);
        for (int load = 2; load <= 60; load++) {
            x.put(1, load);
            Check.isTrue("1 of " + load, x.share() == 1.0 / load);
        }
        x.put(0, 60);
        Check.isTrue("61 of 120", x.share() == 61.0 / 120.0);
        x.cut(0);
        Check.isTrue("60 of 120", x.share() == 0.5);
        x.put(0, 0);
        Check.isTrue("0 of 60", x.share() == 0.0);
        Check.isTrue("it is no -0", 1.0 / x.share() > 0);
        CardBridge y = new CardBridge();
        Check.isTrue("without joints", y.share() == 1.0);
    }

    /** "d becomes d * 31 + x, which wraps around as a 64-bit integer". */
    private static void digest() {
        CardBridge x = star(30);
        for (int j = 0; j < 12; j++) {
            x.put(j, 60);
        }
        x.cut(4);
        x.hide(0);
        x.hide(1);
        x.holds();
        Check.run(x, "write -123; write 45;");
        Check.same("of much", x.digest(), reckoned(x));
        CardBridge y = new CardBridge();
        Check.same("of nothing", y.digest(), reckoned(y));
        // By hand: 743, then ten counts of which the seventh is 1, bears 0, blame 0, removal -1.
        long d = 743;
        for (int x31 : new int[] {0, 0, 0, 0, 0, 0, 1, 0, 0, 0, 0, 0, 0, -1}) {
            d = d * 31 + x31;
        }
        Check.same("of nothing, by hand", y.digest(), d);
    }

    private static long reckoned(CardBridge x) {
        BigInteger d = BigInteger.valueOf(743);
        for (int i = 0; i < 10; i++) {
            d = with(d, x.count(i));
        }
        int joints = x.count(0);
        for (int i = 0; i < 4 * joints; i++) {
            d = with(d, x.joint(i / 4, i % 4));
        }
        int cards = x.count(2);
        for (int i = 0; i < 4 * cards; i++) {
            d = with(d, x.card(i / 4, i % 4));
        }
        int fits = x.count(6);
        for (int i = 0; i < fits; i++) {
            d = with(d, x.fit(i));
        }
        d = with(with(with(d, x.bears()), x.blame()), x.removal());
        int bytes = x.count(7);
        for (int i = 0; i < bytes; i++) {
            d = with(d, x.byteAt(i));
        }
        return d.longValue();
    }

    private static BigInteger with(BigInteger d, long x) {
        return d.multiply(BigInteger.valueOf(31)).add(BigInteger.valueOf(x));
    }
}
