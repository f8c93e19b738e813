import java.util.ArrayList;
import java.util.List;

/** "Terms" and "1. Bridges": each sentence that names a boundary, on both sides of it. */
public final class TermEdges {
    /** The least and the greatest number of the language, which no number of six digits tells. */
    private static final String LEAST = "(-65536*32768)";
    private static final String GREATEST = "(65536*32767+65535)";

    public static void main(String[] args) {
        lastCall();
        sumsWrapAround();
        differencesWrapAround();
        productsWrapAround();
        quotientsAreCut();
        zeroOnTheRightSide();
        leastByMinusOne();
        comparisonsSeeTheEnds();
        positionsFromZero();
        setsAreBits();
        numberedAsTold();
        loads();
        wholeAtFirst();
        noBeamsAtFirst();
        twoBeams();
        pierBears();
        cardBears();
        beamBears();
        cutBearsNothing();
        bothWays();
        inParts();
        atTheSameTime();
        hangs();
        blame();
        asTheyAreTold();
        thirtyTests();
        thirtyTestsInScripts();
        testsSinceHide();
        testsSinceBuild();
        testsOfTheirTime();
        beamsThatFit();
        Check.end("TermEdges");
    }

    private static void value(String sum, long due) {
        Check.writes(new CardBridge(), "write " + sum + ";", due + "|");
    }

    /** "An object is used for at most 512 calls". */
    private static void lastCall() {
        CardBridge x = new CardBridge();
        for (int i = 1; i < 512; i++) {
            x.holds();
        }
        Check.same("the 512th call", x.count(5), 30);
        String design = Bridges.joints(12) + Bridges.cards(12, 30);
        CardBridge y = Bridges.built(design);
        // count(8), the feeds, trim and build
        int already = 3 + (design.length() + 19) / 20;
        y.put(6, 1);
        for (int i = already + 1; i < 511; i++) {
            y.removal();
        }
        Check.same("the 512th call, behind dear ones", y.removal(), 65);
    }

    /** "sums .. wrap around in 32 bits". */
    private static void sumsWrapAround() {
        value(GREATEST, 2147483647L);
        value(LEAST, -2147483648L);
        value(GREATEST + "-1+1", 2147483647L);
        value(GREATEST + "+1", -2147483648L);
        value(GREATEST + "+" + GREATEST, -2);
        value(LEAST + "+1+-1", -2147483648L);
        value(LEAST + "+-1", 2147483647L);
        value(LEAST + "+" + LEAST, 0);
        value("999999+999999", 1999998);
    }

    /** ".. differences .. wrap around in 32 bits". */
    private static void differencesWrapAround() {
        value(LEAST + "+1-1", -2147483648L);
        value(LEAST + "-1", 2147483647L);
        value(GREATEST + "-0", 2147483647L);
        value(GREATEST + "- -1", -2147483648L);
        value("0-" + GREATEST, -2147483647L);
        value("0-" + LEAST, -2147483648L);
        value("-1-" + LEAST, 2147483647L);
        value("-" + GREATEST, -2147483647L);
        value("-" + LEAST, -2147483648L);
        value("--" + LEAST, -2147483648L);
    }

    /** ".. products of the language wrap around in 32 bits". */
    private static void productsWrapAround() {
        value("46340*46340", 2147395600L);
        value("46341*46341", -2147479015L);
        value("-46341*46341", 2147479015L);
        value("65536*32767", 2147418112L);
        value("65536*32768", -2147483648L);
        value("65536*-32768", -2147483648L);
        value("65536*-32769", 2147418112L);
        value("65536*65536", 0);
        value("65536*65536+1*7", 7);
        value(GREATEST + "*" + GREATEST, 1);
        value(GREATEST + "*2", -2);
        value(GREATEST + "*-1", -2147483647L);
        value(LEAST + "*-1", -2147483648L);
        value(LEAST + "*" + LEAST, 0);
        value("999999*999999", -729379967L);
    }

    /** "/ is cut towards 0". */
    private static void quotientsAreCut() {
        value("6/3", 2);
        value("7/3", 2);
        value("8/3", 2);
        value("-7/3", -2);
        value("-8/3", -2);
        value("7/-3", -2);
        value("-8/-3", 2);
        value("2/3", 0);
        value("-2/3", 0);
        value("3/3", 1);
        value(GREATEST + "/2", 1073741823);
        value(LEAST + "/2", -1073741824);
        value(LEAST + "/" + GREATEST, -1);
        value(GREATEST + "/" + LEAST, 0);
        value(LEAST + "/" + LEAST, 1);
    }

    /** ".. gives 0 with 0 on the right side". */
    private static void zeroOnTheRightSide() {
        value("1/0", 0);
        value("-1/0", 0);
        value("0/0", 0);
        value("0/1", 0);
        value("5/1", 5);
        value(GREATEST + "/0", 0);
        value(LEAST + "/0", 0);
        value("7/(65536*65536)", 0);
        value("7/0/0", 0);
        value("7/0+3", 3);
    }

    /** "-2147483648 / -1 gives -2147483648". */
    private static void leastByMinusOne() {
        value(LEAST + "/-1", -2147483648L);
        value(LEAST + "/1", -2147483648L);
        value("(" + LEAST + "+1)/-1", 2147483647L);
        value(GREATEST + "/-1", -2147483647L);
        value(LEAST + "/-2", 1073741824);
    }

    /** A comparison is no difference, which would wrap around. */
    private static void comparisonsSeeTheEnds() {
        String script = "if " + LEAST + "<" + GREATEST + "[write 1;]if " + GREATEST + "<" + LEAST + "[write 2;]"
                + "if " + LEAST + ">" + GREATEST + "[write 3;]if " + GREATEST + ">" + LEAST + "[write 4;]"
                + "if " + LEAST + "<=" + GREATEST + "[write 5;]if " + LEAST + ">=" + GREATEST + "[write 6;]"
                + "if " + LEAST + "=" + GREATEST + "+1[write 7;]";
        Check.writes(new CardBridge(), script, "1|4|5|7|");
        value("min(" + LEAST + "," + GREATEST + ")", -2147483648L);
        value("min(" + GREATEST + "," + LEAST + ")", -2147483648L);
        value("max(" + LEAST + "," + GREATEST + ")", 2147483647L);
        value("max(" + GREATEST + "," + LEAST + ")", 2147483647L);
    }

    /** "Positions of the tape are counted from 0, in bytes." */
    private static void positionsFromZero() {
        CardBridge x = new CardBridge();
        Check.buildIs(x, ";", 1, 0);
        Check.buildIs(x, " ;", 1, 1);
        Check.buildIs(x, "\n\n;", 1, 2);
        Check.runIs(x, "]", 1, 0);
        Check.runIs(x, "write 1", 1, 7);
        Check.runIs(x, " ".repeat(1999) + ";", 1, 1999);
    }

    /** "the bit with the number of each card in the set is set". */
    private static void setsAreBits() {
        StringBuilder design = new StringBuilder(Bridges.joints(12));
        for (int c = 0; c < 12; c++) {
            design.append("card c").append(c).append(" from j0 to j").append(c % 11 + 1).append(" bears 5;");
        }
        CardBridge x = Bridges.built(design.toString());
        for (int c = 1; c < 11; c++) {
            x.put(c + 1, 6);
            Check.same("the card " + c + " is to blame", x.blame(), 1 << c);
            x.put(c + 1, 5);
            Check.same("the card " + c + " is needed", x.removal(), 1 << c);
            x.put(c + 1, 0);
        }
        x.put(1, 11);
        Check.same("the first and the last card", x.blame(), 1 | 1 << 11);
        x.cut(0);
        Check.same("the last card alone", x.blame(), 1 << 11);
        Check.same("the greatest set of beams", x.fit(78), 3 << 10);
        Check.same("the least set of beams is empty", x.fit(0), 0);
    }

    /** "Joints, piers among them, are numbered from 0 in the order in which they are told, cards likewise." */
    private static void numberedAsTold() {
        CardBridge x = Bridges.built("joint b; pier a; card z from b to a bears 1; pier c; card y from c to b bears 2; joint d;");
        Check.run(x, "put b 1; put a 2; put c 3; put d 4; cut y;");
        int[] piers = {0, 1, 1, 0};
        for (int j = 0; j < 4; j++) {
            Check.same("the load of joint " + j, x.joint(j, 1), j + 1);
            Check.same("joint " + j + " is a pier", x.joint(j, 0), piers[j]);
        }
        Check.same("the card 0 bears", x.card(0, 2), 1);
        Check.same("the card 1 bears", x.card(1, 2), 2);
        Check.same("the card 1 is cut", x.card(1, 3), 1);
        Check.same("the from of card 1", x.card(1, 0), 2);
        Check.same("the to of card 1", x.card(1, 1), 0);
    }

    /** "Each joint has a load, 0 to 60 (0, at first)." */
    private static void loads() {
        CardBridge x = Bridges.ring(3);
        for (int j = 0; j < 12; j++) {
            int joint = j;
            Check.same("the first load", x.joint(j, 1), 0);
            Check.same("put 60", x.put(j, 60), 0);
            Check.throwsOnly("put 61", x, Check.ARGUMENT, () -> x.put(joint, 61));
            Check.same("put 0", x.put(j, 0), 60);
            Check.throwsOnly("put -1", x, Check.ARGUMENT, () -> x.put(joint, -1));
            Check.same("the load behind", x.put(j, 60), 0);
        }
        Check.same("twelve times 60", x.count(4), 720);
    }

    /** "A card .. is whole (at first) or cut." */
    private static void wholeAtFirst() {
        CardBridge x = Bridges.ring(3);
        for (int c = 0; c < 12; c++) {
            Check.same("a card at first", x.card(c, 3), 0);
            Check.same("cut cards", x.cut(c), c + 1);
            Check.same("a card that is cut", x.card(c, 3), 1);
        }
        for (int c = 0; c < 12; c++) {
            Check.same("cut cards, one glued", x.cut(c), 11 - c);
            Check.same("a card that is glued", x.card(c, 3), 0);
        }
    }

    /** "At most 2 cards have a secret beam (none, at first)." */
    private static void noBeamsAtFirst() {
        CardBridge x = Bridges.bundle(3, 1);
        x.put(1, 4);
        Check.isFalse("no beam bears at first", x.holds());
        x.put(1, 3);
        Check.isTrue("the cards bear what is told", x.holds());
        Check.same("the first beam is the only one", x.hide(0), 1);
    }

    /** "At most 2 cards have a secret beam". */
    private static void twoBeams() {
        CardBridge x = Bridges.ring(3);
        Check.same("one beam", x.hide(11), 1);
        Check.same("two beams", x.hide(0), 2);
        for (int c = 1; c < 11; c++) {
            int card = c;
            Check.throwsOnly("a third beam", x, Check.STATE, () -> x.hide(card));
        }
        Check.same("one of two is taken out", x.hide(11), 1);
        Check.same("so another goes in", x.hide(10), 2);
        Check.same("both go out: one", x.hide(0), 1);
        Check.same("both go out: the other", x.hide(10), 0);
        Check.same("and one in", x.hide(11), 1);
    }

    /** "A load at a pier is borne." */
    private static void pierBears() {
        CardBridge x = Bridges.built("pier p; joint a;");
        x.put(0, 60);
        Check.isTrue("60 at a pier", x.holds());
        Check.same("it is borne", x.bears(), 60);
        x.put(0, 0);
        x.put(1, 1);
        Check.isFalse("1 at a joint that is joined to nothing", x.holds());
        Check.same("nothing is borne", x.bears(), 0);
        CardBridge y = Bridges.bundle(1, 5);
        y.put(0, 60);
        y.put(1, 5);
        Check.isTrue("a pier takes from others as much as comes", y.holds());
        Check.same("both are borne", y.bears(), 65);
        // Two piers: what is at one needs no card to the other.
        CardBridge z = Bridges.built("pier p; pier q; card k from p to q bears 1;");
        z.put(0, 60);
        z.put(1, 60);
        Check.isTrue("two piers", z.holds());
        Check.same("nothing to cut", z.removal(), -1);
    }

    private static void holdsJustSoMuch(String what, CardBridge x, int joint, int most) {
        x.put(joint, most);
        Check.isTrue(what + " holds " + most, x.holds());
        x.put(joint, most + 1);
        Check.isFalse(what + " does not hold " + (most + 1), x.holds());
    }

    /** "along a whole card goes as much as it bears at most". */
    private static void cardBears() {
        for (int bears = 1; bears <= 30; bears++) {
            CardBridge x = Bridges.single(bears);
            holdsJustSoMuch("a card", x, 1, bears);
            Check.same("a card bears", x.bears(), bears);
            x.put(1, bears);
            Check.same("a card bears just that", x.bears(), bears);
            x.put(1, bears - 1);
            Check.same("a card bears less", x.bears(), bears - 1);
        }
        holdsJustSoMuch("a chain", Bridges.chain(7), 11, 7);
        holdsJustSoMuch("a ring", Bridges.ring(7), 6, 14);
        holdsJustSoMuch("twelve cards", Bridges.bundle(12, 4), 1, 48);
    }

    /** ".. along one with a beam 10 more". */
    private static void beamBears() {
        for (int bears : new int[] {1, 5, 30}) {
            CardBridge x = Bridges.single(bears);
            x.hide(0);
            holdsJustSoMuch("a card with a beam", x, 1, bears + 10);
            x.hide(0);
            holdsJustSoMuch("a card, its beam taken out", x, 1, bears);
        }
        CardBridge y = Bridges.bundle(12, 1);
        y.hide(0);
        y.hide(11);
        holdsJustSoMuch("twelve cards, two with beams", y, 1, 32);
    }

    /** ".. along one that is cut nothing". */
    private static void cutBearsNothing() {
        CardBridge x = Bridges.single(30);
        x.cut(0);
        holdsJustSoMuch("a cut card", x, 1, 0);
        Check.same("a cut card bears", x.bears(), 0);
        x.hide(0);
        holdsJustSoMuch("a cut card with a beam", x, 1, 0);
        Check.same("so its beam tells nothing", x.count(6), 2);
        x.cut(0);
        holdsJustSoMuch("a glued card with a beam", x, 1, 40);
    }

    /** "What is at another joint can go along cards .. both ways". */
    private static void bothWays() {
        String joints = "joint a; joint b; pier p;";
        holdsJustSoMuch("forth", Bridges.built(joints + "card k from a to b bears 3; card m from b to p bears 3;"), 0, 3);
        holdsJustSoMuch("back", Bridges.built(joints + "card k from b to a bears 3; card m from p to b bears 3;"), 0, 3);
        holdsJustSoMuch("back and forth", Bridges.built(joints + "card k from b to a bears 3; card m from b to p bears 3;"), 0, 3);
        CardBridge x = Bridges.built("joint a; joint b; pier p; pier q; card k from a to b bears 9;"
                + "card m from a to p bears 3; card n from b to q bears 4;");
        holdsJustSoMuch("from a over b", x, 0, 7);
        x.put(0, 0);
        holdsJustSoMuch("from b over a", x, 1, 7);
    }

    /** ".. in parts, from joint to joint". */
    private static void inParts() {
        CardBridge x = Bridges.built("joint a; joint b; joint c; pier p; card k from a to b bears 2; card m from a to c bears 5;"
                + "card n from b to p bears 9; card o from c to p bears 1; card q from c to b bears 3;");
        holdsJustSoMuch("in parts", x, 0, 6);
        // The way over b - c is taken first by what is there; it has to be sent another way.
        CardBridge y = Bridges.built("joint a; joint b; joint c; joint d; pier p; card k from a to b bears 1;"
                + "card m from b to c bears 1; card n from c to p bears 1; card o from a to d bears 1; card q from d to c bears 1;"
                + "card r from b to p bears 1;");
        holdsJustSoMuch("round about", y, 0, 2);
    }

    /** "The bridge holds, if all loads can come to piers at the same time." */
    private static void atTheSameTime() {
        CardBridge x = Bridges.built("joint a; joint b; pier p; card k from a to b bears 30; card m from b to p bears 10;");
        x.put(0, 10);
        Check.isTrue("10 on a alone", x.holds());
        x.put(1, 1);
        Check.isFalse("1 on b more", x.holds());
        x.put(0, 9);
        Check.isTrue("9 and 1", x.holds());
        x.put(0, 0);
        x.put(1, 10);
        Check.isTrue("10 on b alone", x.holds());
        Check.same("what it bears at most", x.bears(), 10);
        x.put(0, 60);
        x.put(1, 60);
        Check.same("no more with all loads", x.bears(), 10);
    }

    /** "A joint hangs, if it is a pier, or whole cards lead from it, one after the other, to one." */
    private static void hangs() {
        CardBridge x = Bridges.chain(1);
        for (int j = 0; j < 12; j++) {
            Check.same("joint " + j + " of a chain hangs", x.joint(j, 3), 1);
        }
        x.cut(10);
        Check.same("joint 10 hangs", x.joint(10, 3), 1);
        Check.same("joint 11 does not", x.joint(11, 3), 0);
        x.cut(0);
        Check.same("a pier without whole cards hangs", x.joint(0, 3), 1);
        for (int j = 1; j < 12; j++) {
            Check.same("joint " + j + " does not hang", x.joint(j, 3), 0);
        }
        // The chain told from its far end, the pier last, and its cards backwards.
        StringBuilder design = new StringBuilder();
        for (int j = 11; j >= 0; j--) {
            design.append(j == 0 ? "pier j" : "joint j").append(j).append(';');
        }
        CardBridge y = Bridges.built(design + Bridges.cards(11, 1));
        Check.same("the far end hangs", y.joint(0, 3), 1);
        Check.same("hangs does not need to bear", y.put(0, 60), 0);
        Check.same("the far end hangs though it does not hold", y.joint(0, 3), 1);
    }

    /** "If the bridge does not hold, there are sets of joints .. Of these sets one is in all others". */
    private static void blame() {
        CardBridge x = Bridges.chain(5);
        x.put(11, 5);
        Check.same("it just holds", x.blame(), 0);
        x.put(11, 6);
        Check.same("the least set is the last joint alone", x.blame(), 1 << 10);
        x.put(11, 5);
        x.put(10, 1);
        Check.same("the least set is both", x.blame(), 1 << 9);
        x.put(10, 0);
        x.put(1, 1);
        Check.same("the least set is all but the pier", x.blame(), 1);
        x.put(11, 60);
        x.put(1, 60);
        Check.same("cards inside the set are not to blame", x.blame(), 1);
        CardBridge y = Bridges.built("pier p; pier q; joint a; card k from p to q bears 1; card m from a to p bears 1;"
                + "card n from q to a bears 2;");
        y.put(2, 3);
        Check.same("it just holds by both", y.blame(), 0);
        y.put(2, 4);
        Check.same("a card between piers is never to blame", y.blame(), 6);
        y.cut(1);
        Check.same("a cut card is not", y.blame(), 4);
        y.cut(2);
        Check.same("without whole cards none", y.blame(), 0);
        Check.isFalse("though it does not hold", y.holds());
    }

    /** "What is reckoned by the cards as they are told does not know of beams; whether it holds is by beams, too." */
    private static void asTheyAreTold() {
        CardBridge x = Bridges.single(5);
        x.hide(0);
        x.put(1, 15);
        Check.isTrue("it holds by its beam", x.holds());
        Check.same("bears", x.bears(), 5);
        Check.same("blame", x.blame(), 1);
        Check.same("removal", x.removal(), 0);
        Check.same("most", x.most(1), 5);
        Check.isTrue("share", x.share() == 5.0 / 15.0);
        Check.writes(x, "write bears; if holds [write 1;]", "5|1|");
    }

    /** "The first 30 tests since the latest build() or hide() are kept". */
    private static void thirtyTests() {
        CardBridge x = Bridges.single(5);
        for (int i = 1; i <= 29; i++) {
            x.holds();
        }
        Check.same("29 tests", x.count(5), 29);
        Check.same("which tell nothing of beams", x.count(6), 2);
        x.put(1, 6);
        Check.isFalse("the 30th test", x.holds());
        Check.same("is kept", x.count(5), 30);
        Check.same("and tells of beams", x.count(6), 1);
        CardBridge y = Bridges.single(5);
        for (int i = 1; i <= 30; i++) {
            y.holds();
        }
        y.put(1, 6);
        Check.isFalse("the 31st test is told", y.holds());
        Check.same("but not kept", y.count(5), 30);
        Check.same("so it tells nothing of beams", y.count(6), 2);
    }

    /** The tests of scripts are kept, too: the 30th, not the 31st. */
    private static void thirtyTestsInScripts() {
        CardBridge x = Bridges.single(5);
        Check.run(x, "repeat 29 [ if holds [ ] ]");
        Check.same("29 tests", x.count(5), 29);
        x.put(1, 6);
        Check.writes(x, "if not holds [write fits;]", "1|");
        Check.same("the 30th test is kept", x.count(5), 30);
        CardBridge y = Bridges.single(5);
        Check.run(y, "repeat 30 [ if holds [ ] ]");
        y.put(1, 6);
        Check.writes(y, "if not holds [write fits;]", "2|");
        Check.same("the 31st test is not kept", y.count(5), 30);
        CardBridge z = Bridges.single(5);
        Check.run(z, "repeat 28 [ if holds [ ] ] if holds and holds and holds [ ]");
        Check.same("28 and three more", z.count(5), 30);
    }

    private static void spendTests(CardBridge x) {
        for (int i = 0; i < 31; i++) {
            x.holds();
        }
    }

    /** ".. since the latest .. hide()", which is one that was not refused. */
    private static void testsSinceHide() {
        CardBridge x = Bridges.bundle(3, 5);
        x.hide(0);
        x.hide(1);
        spendTests(x);
        x.put(1, 36);
        Check.throwsOnly("a third beam", x, Check.STATE, () -> x.hide(2));
        Check.throwsOnly("a beam in no card", x, Check.INDEX, () -> x.hide(3));
        Check.isFalse("36 are too much", x.holds());
        Check.same("a refused hide() makes no room for tests", x.count(5), 30);
        Check.same("nor for what they tell", x.count(6), 7);
        x.hide(1);
        Check.same("hide() does", x.count(5), 0);
        x.put(1, 25);
        Check.isTrue("25 are borne by one beam", x.holds());
        Check.same("the test is kept", x.count(5), 1);
        Check.same("and tells that there is a beam", x.count(6), 6);
    }

    /** ".. since the latest build()", which is one without an error. */
    private static void testsSinceBuild() {
        CardBridge x = Bridges.single(5);
        spendTests(x);
        x.put(1, 6);
        Check.buildIs(x, "pier p; pier p;", 2, 13);
        Check.isFalse("6 are too much", x.holds());
        Check.same("a design with an error makes no room for tests", x.count(5), 30);
        Check.same("nor for what they tell", x.count(6), 2);
        Check.buildIs(x, "pier p; joint a; card k from p to a bears 5;", 0, -1);
        Check.same("a design without one does", x.count(5), 0);
        x.put(1, 6);
        Check.isFalse("6 are too much again", x.holds());
        Check.same("the test is kept", x.count(5), 1);
        Check.same("and tells that there is no beam", x.count(6), 1);
    }

    /** ".. each with the loads, and with the cards that were cut". */
    private static void testsOfTheirTime() {
        CardBridge x = Bridges.bundle(2, 5);
        x.hide(1);
        x.cut(0);
        x.put(1, 15);
        Check.isTrue("15 by the second card alone", x.holds());
        x.cut(0);
        x.put(1, 0);
        Check.isTrue("nothing is held by any", x.holds());
        Check.same("the first test is kept as it was", x.count(6), 2);
        Check.same("with the second card alone", x.fit(0), 2);
        Check.same("or with both", x.fit(1), 3);
        x.put(1, 21);
        Check.isFalse("21 on both", x.holds());
        Check.same("both cards would have held 21", x.count(6), 1);
        Check.same("so it is the second alone", x.fit(0), 2);
    }

    /** "Beams fit, if they are in at most 2 cards .. They are numbered from 0, by their sets, the least first." */
    private static void beamsThatFit() {
        for (int cards = 0; cards <= 12; cards++) {
            List<Integer> sets = new ArrayList<>();
            for (int set = 0; set < 1 << cards; set++) {
                if (Integer.bitCount(set) <= 2) {
                    sets.add(set);
                }
            }
            CardBridge x = Bridges.bundle(cards, 5);
            Check.same("sets of at most 2 of " + cards + " cards", x.count(6), sets.size());
            for (int i = 0; i < sets.size(); i++) {
                Check.same("the set " + i + " of " + cards + " cards", x.fit(i), sets.get(i));
            }
            Check.throwsOnly("the set behind the last", x, Check.INDEX, () -> x.fit(sets.size()));
            Check.throwsOnly("the set ahead of the first", x, Check.INDEX, () -> x.fit(-1));
        }
    }
}
