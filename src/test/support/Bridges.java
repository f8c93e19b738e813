/** Bridges that several tests begin with. */
final class Bridges {
    /** a hangs by k (4) from pier p, b by m (6) from a and by n (3) from pier q; c is joined to nothing. */
    static final String SMALL = "pier p; joint a; joint b; pier q; joint c;\n"
            + "card k from p to a bears 4; card m from a to b bears 6; card n from q to b bears 3;";

    private Bridges() {
    }

    static CardBridge built(String design) {
        CardBridge x = new CardBridge();
        Check.same("build of " + design, Check.build(x, design), 0);
        return x;
    }

    static CardBridge small() {
        return built(SMALL);
    }

    /** A bridge of one card, k, from the pier p (0) to the joint a (1). */
    static CardBridge single(int bears) {
        return built("pier p; joint a; card k from p to a bears " + bears + ";");
    }

    /** The pier p (0), the joint a (1), and so many cards between them, which bear as much each. */
    static CardBridge bundle(int cards, int bears) {
        StringBuilder design = new StringBuilder("pier p; joint a;");
        for (int c = 0; c < cards; c++) {
            design.append("card k").append(c).append(" from p to a bears ").append(bears).append(';');
        }
        return built(design.toString());
    }

    /** The joints j0, a pier, to one less than the number. */
    static String joints(int number) {
        StringBuilder design = new StringBuilder(number > 0 ? "pier j0;" : "");
        for (int j = 1; j < number; j++) {
            design.append("joint j").append(j).append(';');
        }
        return design.toString();
    }

    /** The cards c0 to one less than the number, each from a joint to the next of twelve, bearing as they are told. */
    static String cards(int number, int bears) {
        StringBuilder design = new StringBuilder();
        for (int c = 0; c < number; c++) {
            design.append("card c").append(c).append(" from j").append(c % 12).append(" to j").append((c + 1) % 12)
                    .append(" bears ").append(bears).append(';');
        }
        return design.toString();
    }

    /** Twelve joints, one behind the other, from the pier j0 on, joined by eleven cards. */
    static CardBridge chain(int bears) {
        return built(joints(12) + cards(11, bears));
    }

    /** Twelve joints in a ring, j0 a pier, joined by twelve cards. */
    static CardBridge ring(int bears) {
        return built(joints(12) + cards(12, bears));
    }
}
