/**
 * "A method that throws an exception changes nothing. If several exceptions apply, the one that is named first is
 * thrown." Each refused call is made on one of two objects that stand alike; all that later calls can show of them is
 * alike then. So it is for what is asked, too, and for build() and run() with an error 1 to 6.
 */
public final class RefusedCalls {
    private static final int[] FAR = {-1, Integer.MIN_VALUE, Integer.MAX_VALUE, -13, 13, 31, 32, 33, 64};

    /** A call of any object. */
    private interface Asked {
        long of(CardBridge x);
    }

    /** How an object comes to stand. */
    private enum Stand {
        /** As it is made. */
        NEW,
        /** A small bridge, with some of all: loads, cuts, a beam, tests, an error, bytes on the tape and the paper. */
        USED,
        /** As much of all as there can be. */
        FULL,
        /** As FULL, with a tape that lacks the last byte, and so has no room either. */
        NEARLY_FULL
    }

    public static void main(String[] args) {
        for (Stand stand : Stand.values()) {
            tape(stand);
            joints(stand);
            cards(stand);
            loads(stand);
            others(stand);
            firstNamed(stand);
            asked(stand);
            designsWithErrors(stand);
            scriptsWithErrors(stand);
        }
        thirdBeam();
        changesAreShown();
        Check.end("RefusedCalls");
    }

    private static CardBridge made(Stand stand) {
        switch (stand) {
            case NEW:
                return new CardBridge();
            case USED:
                return used();
            default:
                return full(stand == Stand.FULL ? 2000 : 1999);
        }
    }

    private static CardBridge used() {
        CardBridge x = Bridges.small();
        x.put(1, 14);
        x.put(3, 2);
        x.cut(2);
        x.hide(0);
        x.holds();
        x.put(1, 5);
        x.holds();
        Check.run(x, "write -12; if holds [ ] write 345; pier");
        Check.run(x, "write -12; if holds [ ] write 345; repeat 40 [ repeat 40 [ ] ]");
        Check.write(x, "put a 9; write 1; write load");
        return x;
    }

    private static CardBridge full(int tape) {
        StringBuilder design = new StringBuilder("pier p;joint a;joint b;");
        for (int j = 3; j < 12; j++) {
            design.append("pier j").append(j).append(';');
        }
        design.append("card k from p to a bears 30;card m from b to a bears 9;card n from b to p bears 7;");
        for (int c = 3; c < 12; c++) {
            design.append("card c").append(c).append(" from j").append(c).append(c % 2 == 0 ? " to a" : " to b").append(" bears 2;");
        }
        CardBridge x = Bridges.built(design.toString());
        x.hide(1);
        x.hide(11);
        for (int j = 0; j < 12; j++) {
            x.put(j, j == 1 || j == 2 ? 20 : 60);
        }
        x.cut(4);
        for (int i = 0; i < 31; i++) {
            x.put(2, 20 + i % 7 * 4);
            x.holds();
        }
        Check.run(x, "repeat 40[write 123456;]repeat 31[write 123456;]write 12;");
        Check.run(x, "repeat 40[repeat 9[put b 0;]]");
        Check.same("bytes of a full paper", x.count(7), 500);
        String ahead = "put a 1;cut c9;write 7;";
        String behind = "put b 9;";
        Check.write(x, ahead + " ".repeat(tape - ahead.length() - behind.length()) + behind);
        Check.same("bytes of the tape", x.count(8), tape);
        return x;
    }

    private static String answer(CardBridge x, Asked call) {
        try {
            call.of(x);
            return "nothing";
        } catch (RuntimeException e) {
            return e.getClass().getSimpleName();
        }
    }

    private static void refused(Stand stand, String what, String exception, Asked call) {
        CardBridge x = made(stand);
        String got = answer(x, call);
        Check.isTrue(stand + ": " + what + " threw " + got + ", due is " + exception, got.equals(exception));
        Check.isTrue(stand + ": " + what + " changes nothing", Shown.by(x).equals(Shown.by(made(stand))));
    }

    private static void tape(Stand stand) {
        int bytes = made(stand).count(8);
        if (bytes > 1980) {
            refused(stand, "feed", Check.STATE, x -> x.feed(-1, 0x3b3b3b3b, 0, 0, 0));
        }
        for (int n : new int[] {-1, bytes + 1, 2001, Integer.MIN_VALUE, Integer.MAX_VALUE}) {
            refused(stand, "trim " + n, Check.ARGUMENT, x -> x.trim(n));
        }
    }

    private static void joint(Stand stand, int joint) {
        String at = " " + joint;
        refused(stand, "joint" + at, Check.INDEX, x -> x.joint(joint, 0));
        refused(stand, "put" + at, Check.INDEX, x -> x.put(joint, 3));
        refused(stand, "most" + at, Check.INDEX, x -> x.most(joint));
        refused(stand, "would" + at, Check.INDEX, x -> x.would(joint, 3, true));
        refused(stand, "advise" + at, Check.INDEX, x -> x.advise(joint));
        refused(stand, "safe" + at, Check.INDEX, x -> x.safe(joint));
    }

    private static void joints(Stand stand) {
        joint(stand, made(stand).count(0));
        for (int joint : FAR) {
            joint(stand, joint);
        }
    }

    private static void card(Stand stand, int card) {
        String at = " " + card;
        refused(stand, "card" + at, Check.INDEX, x -> x.card(card, 0));
        refused(stand, "hide" + at, Check.INDEX, x -> x.hide(card));
        refused(stand, "cut" + at, Check.INDEX, x -> x.cut(card));
        refused(stand, "sure" + at, Check.INDEX, x -> x.sure(card));
    }

    private static void cards(Stand stand) {
        card(stand, made(stand).count(2));
        for (int card : FAR) {
            card(stand, card);
        }
    }

    /** "if load is not 0 to 60", of each joint that there is. */
    private static void loads(Stand stand) {
        int joints = made(stand).count(0);
        for (int j = 0; j < joints; j++) {
            int joint = j;
            for (int load : new int[] {-1, 61, Integer.MIN_VALUE, Integer.MAX_VALUE}) {
                String at = " " + joint + " " + load;
                refused(stand, "put" + at, Check.ARGUMENT, x -> x.put(joint, load));
                refused(stand, "would" + at + " held", Check.ARGUMENT, x -> x.would(joint, load, true));
                refused(stand, "would" + at + " not held", Check.ARGUMENT, x -> x.would(joint, load, false));
            }
        }
    }

    private static void others(Stand stand) {
        for (int what : new int[] {-1, 10, Integer.MIN_VALUE, Integer.MAX_VALUE}) {
            refused(stand, "count " + what, Check.INDEX, x -> x.count(what));
        }
        for (int what : new int[] {-1, 4, Integer.MIN_VALUE, Integer.MAX_VALUE}) {
            refused(stand, "joint 0 " + what, Check.INDEX, x -> x.joint(0, what));
            refused(stand, "card 0 " + what, Check.INDEX, x -> x.card(0, what));
            refused(stand, "joint -1 " + what, Check.INDEX, x -> x.joint(-1, what));
            refused(stand, "card -1 " + what, Check.INDEX, x -> x.card(-1, what));
        }
        for (int index : new int[] {made(stand).count(6), -1, 79, Integer.MIN_VALUE, Integer.MAX_VALUE}) {
            refused(stand, "fit " + index, Check.INDEX, x -> x.fit(index));
        }
        for (int index : new int[] {made(stand).count(7), -1, 500, Integer.MIN_VALUE, Integer.MAX_VALUE}) {
            refused(stand, "byteAt " + index, Check.INDEX, x -> x.byteAt(index));
        }
    }

    /** No such joint is told ahead of no such load, and no such card ahead of too many beams. */
    private static void firstNamed(Stand stand) {
        for (int load : new int[] {-1, 61}) {
            for (int joint : new int[] {-1, made(stand).count(0)}) {
                String at = " " + joint + " " + load;
                refused(stand, "put" + at, Check.INDEX, x -> x.put(joint, load));
                refused(stand, "would" + at, Check.INDEX, x -> x.would(joint, load, false));
            }
        }
        refused(stand, "hide behind the last", Check.INDEX, x -> x.hide(x.count(2)));
    }

    /** "if it has none, and 2 others have". */
    private static void thirdBeam() {
        for (int c = 0; c < 12; c++) {
            int card = c;
            if (card == 1 || card == 11) {
                Check.same("hide of a beam that is there", made(Stand.FULL).hide(card), 1);
            } else {
                refused(Stand.FULL, "hide " + card, Check.STATE, x -> x.hide(card));
            }
        }
    }

    private static void changed(String what, Asked call) {
        CardBridge x = made(Stand.USED);
        call.of(x);
        Check.isFalse(what + " is shown", Shown.by(x).equals(Shown.by(made(Stand.USED))));
    }

    /** What is shown of two objects would not be alike if a call had changed one of them. */
    private static void changesAreShown() {
        changed("a byte less", x -> x.trim(x.count(8) - 1));
        changed("another tape", x -> x.trim(26) + x.feed(0x62642020, 0x20202020, 0x20202020, 0x20202020, 0x20202020) + x.trim(28));
        changed("a load", x -> x.put(1, 6));
        changed("a pier's load", x -> x.put(0, 1));
        changed("a cut", x -> x.cut(1));
        changed("a beam more", x -> x.hide(1));
        changed("a beam less", x -> x.hide(0));
        changed("another beam, and the same tests", x -> x.hide(0) + x.hide(1) + x.hide(1) + x.hide(0));
        changed("a test", x -> x.holds() ? 1 : 0);
        changed("no paper", x -> x.clear());
        changed("another error", x -> Check.run(x, "]"));
        changed("another bridge", x -> Check.build(x, Bridges.SMALL));
    }

    private static void unchanged(Stand stand, String what, Asked call) {
        CardBridge x = made(stand);
        Check.isTrue(stand + ": " + what + " is answered", answer(x, call).equals("nothing"));
        Check.isTrue(stand + ": " + what + " changes nothing", Shown.by(x).equals(Shown.by(made(stand))));
    }

    /** "(nothing is changed)", and of what is told only it could not be otherwise. */
    private static void asked(Stand stand) {
        unchanged(stand, "bears", x -> x.bears());
        unchanged(stand, "blame", x -> x.blame());
        unchanged(stand, "removal", x -> x.removal());
        unchanged(stand, "share", x -> (long) x.share());
        unchanged(stand, "digest", x -> x.digest());
        unchanged(stand, "errorAt", x -> x.errorAt());
        unchanged(stand, "trim to all", x -> x.trim(x.count(8)));
        unchanged(stand, "fit 0", x -> x.fit(0));
        for (int w = 0; w < 10; w++) {
            int what = w;
            unchanged(stand, "count " + what, x -> x.count(what));
        }
        int joints = made(stand).count(0);
        for (int j = 0; j < joints; j++) {
            int joint = j;
            unchanged(stand, "joint " + joint, x -> x.joint(joint, 3));
            unchanged(stand, "most " + joint, x -> x.most(joint));
            unchanged(stand, "advise " + joint, x -> x.advise(joint));
            unchanged(stand, "safe " + joint, x -> x.safe(joint));
            unchanged(stand, "would " + joint, x -> x.would(joint, 60, false));
            unchanged(stand, "put what is there " + joint, x -> x.put(joint, x.joint(joint, 1)));
        }
        int cards = made(stand).count(2);
        for (int c = 0; c < cards; c++) {
            int card = c;
            unchanged(stand, "card " + card, x -> x.card(card, 3));
            unchanged(stand, "sure " + card, x -> x.sure(card));
            unchanged(stand, "cut and glue " + card, x -> x.cut(card) + x.cut(card));
        }
    }

    /** "If it has an error, all stays (but the tape is empty)." */
    private static void designsWithErrors(Stand stand) {
        String twelve = Bridges.joints(12);
        String[] designs = {"pier", "joint a;@", "pier p; pier p;", "pier z; card y from z to x bears 1;", twelve + "pier q;",
            twelve + Bridges.cards(12, 1) + "card q from j0 to j1 bears 1;", "pier z; joint y; card x from z to y bears 0;",
            "pier z; joint y; card x from z to y bears 31;", "pier z; joint y; card x from z to z bears 30;"};
        for (int i = 0; i < designs.length; i++) {
            CardBridge x = made(stand);
            x.trim(0);
            Check.write(x, designs[i]);
            Check.same(stand + ": build of " + designs[i], x.build(), new int[] {1, 1, 2, 3, 4, 4, 5, 5, 6}[i]);
            CardBridge y = made(stand);
            y.trim(0);
            Check.isTrue(stand + ": all stays behind " + designs[i], Shown.withoutErrorAt(x).equals(Shown.withoutErrorAt(y)));
        }
    }

    /** run(): "if it has no error 1 to 6, statement by statement is carried out"; so with one, none is. */
    private static void scriptsWithErrors(Stand stand) {
        String script = stand == Stand.NEW ? "write 1; if holds [ write 2; ] "
                : "write 1; if holds [ write 2; ] put a 1; take b 1; cut k; glue m; ";
        String[] errors = {"write", "@", "put zz 1;", "cut zz;", "write load zz;", "if hangs zz [ ]", "repeat 41 [ ]"};
        for (int i = 0; i < errors.length; i++) {
            CardBridge x = made(stand);
            x.trim(0);
            Check.write(x, script + errors[i]);
            Check.same(stand + ": run of " + errors[i], x.run(), new int[] {1, 1, 3, 3, 3, 3, 5}[i]);
            CardBridge y = made(stand);
            y.trim(0);
            Check.same("a run of nothing carries out nothing", y.run(), 0);
            Check.isTrue(stand + ": all stays behind " + errors[i], Shown.withoutErrorAt(x).equals(Shown.withoutErrorAt(y)));
        }
    }
}
