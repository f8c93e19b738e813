import java.util.ArrayList;
import java.util.List;
import java.util.Random;
import java.util.function.ToLongFunction;

/** Rows of calls, always the same ones, answered by CardBridge as by the slow and plain SlowBridge. */
public final class OracleTests {
    private static final int RUNS = 500;
    private static final int CALLS = 120;
    /** What the 513th call answers is free, so it is not asked. */
    private static final int CALLS_PROMISED = 512;
    /** Calls that are left over for the state at the end. */
    private static final int CALLS_AT_END = 200;
    private static final String[] WORDS = ("pier joint card from to bears put take cut glue write repeat if else holds "
            + "hangs load all fits not and or min max ( ) [ ] { } ; , + - * / < > = <= >= 3 999999 1234567 abcdefghijk "
            + "zz @ 41 0").split(" ");

    private final Random random;
    private final CardBridge fast = new CardBridge();
    private final SlowBridge slow = new SlowBridge();
    private final String where;
    private List<String> joints = List.of("z");
    private List<String> cards = List.of("z");
    /** The names of the design that was written last, which become the bridge's if it has no error. */
    private List<String> draftJoints = joints;
    private List<String> draftCards = cards;
    private int asked = 0;

    private OracleTests(int run) {
        random = new Random(run);
        where = "run " + run;
    }

    public static void main(String[] args) {
        int runs = args.length > 0 ? Integer.parseInt(args[0]) : RUNS;
        int first = args.length > 1 ? Integer.parseInt(args[1]) : 0;
        for (int run = first; run < first + runs; run++) {
            new OracleTests(run).calls();
        }
        Check.end("OracleTests");
    }

    private int upTo(int n) {
        return random.nextInt(n + 1);
    }

    private boolean isOneIn(int n) {
        return random.nextInt(n) == 0;
    }

    private String one(List<String> of) {
        return of.get(random.nextInt(of.size()));
    }

    private void calls() {
        boolean isLarge = isOneIn(24);
        tape(design(isLarge), ToBuild.BUILD);
        int calls = isLarge ? CALLS / 3 : CALLS;
        for (int i = 0; i < calls && asked < CALLS_PROMISED - CALLS_AT_END; i++) {
            call(isLarge);
            if (i % 5 == 0) {
                shortState();
            }
        }
        if (!isOneIn(3)) {
            dear();
        }
        state();
    }

    private enum ToBuild { BUILD, RUN }

    private void call(boolean isLarge) {
        int joint = isOneIn(20) ? upTo(40) - 20 : upTo(Math.max(0, slow.count(0) - 1));
        int card = isOneIn(20) ? upTo(40) - 20 : upTo(Math.max(0, slow.count(2) - 1));
        int load = isOneIn(20) ? upTo(200) - 100 : isOneIn(3) ? upTo(60) : upTo(25);
        boolean is = random.nextBoolean();
        switch (upTo(isLarge ? 11 : 15)) {
            case 0:
                both("hide " + card, x -> x.hide(card), x -> x.hide(card));
                break;
            case 1:
            case 2:
            case 3:
                both("put " + joint + " " + load, x -> x.put(joint, load), x -> x.put(joint, load));
                break;
            case 4:
                both("cut " + card, x -> x.cut(card), x -> x.cut(card));
                break;
            case 5:
            case 6:
                both("holds", x -> x.holds() ? 1 : 0, x -> x.holds() ? 1 : 0);
                break;
            case 7:
                both("most " + joint, x -> x.most(joint), x -> x.most(joint));
                break;
            case 8:
                both("would " + joint + " " + load + is, x -> x.would(joint, load, is), x -> x.would(joint, load, is));
                break;
            case 9:
                tape(script(), ToBuild.RUN);
                break;
            case 10:
                tape(spoilt(random.nextBoolean() ? script() : design(false)), is ? ToBuild.RUN : ToBuild.BUILD);
                break;
            case 11:
                seldom(isLarge);
                break;
            case 12:
                both("removal", x -> x.removal(), x -> x.removal());
                break;
            case 13:
                both("advise " + joint, x -> x.advise(joint), x -> x.advise(joint));
                break;
            case 14:
                both("safe " + joint, x -> x.safe(joint), x -> x.safe(joint));
                break;
            default:
                both("joint " + joint, x -> x.joint(joint, load / 4), x -> x.joint(joint, load / 4));
                both("card " + card, x -> x.card(card, load / 4), x -> x.card(card, load / 4));
                break;
        }
    }

    private void seldom(boolean isLarge) {
        int n = upTo(30) - 5;
        switch (upTo(5)) {
            case 0:
                both("clear", x -> x.clear(), x -> x.clear());
                break;
            case 1:
                both("trim " + n, x -> x.trim(n), x -> x.trim(n));
                break;
            case 2:
                both("byteAt " + n, x -> x.byteAt(n), x -> x.byteAt(n));
                both("fit " + n, x -> x.fit(n), x -> x.fit(n));
                break;
            case 3:
                both("feed " + n, x -> x.feed(n, ~n, n << 8, 32, -1), x -> x.feed(n, ~n, n << 8, 32, -1));
                break;
            case 4:
                if (!isLarge) {
                    tape(design(false), ToBuild.BUILD);
                }
                break;
            default:
                both("sure " + n, x -> x.sure(n), x -> x.sure(n));
                both("count " + n, x -> x.count(n), x -> x.count(n));
                break;
        }
    }

    private void shortState() {
        both("digest", x -> x.digest(), x -> digest());
        both("errorAt", x -> x.errorAt(), x -> x.errorAt());
        both("share", x -> Double.doubleToLongBits(x.share()), x -> Double.doubleToLongBits(x.share()));
    }

    /** What can be asked cheaply, as far as calls are left. */
    private void state() {
        shortState();
        for (int i = 0; i < 10; i++) {
            int what = i;
            both("count " + i, x -> x.count(what), x -> x.count(what));
        }
        for (int i = 0; i < 4 * slow.count(0); i++) {
            int j = i;
            both("joint " + i / 4 + " " + i % 4, x -> x.joint(j / 4, j % 4), x -> x.joint(j / 4, j % 4));
        }
        for (int i = 0; i < 4 * slow.count(2); i++) {
            int c = i;
            both("card " + i / 4 + " " + i % 4, x -> x.card(c / 4, c % 4), x -> x.card(c / 4, c % 4));
        }
        for (int i = 0; i < slow.count(6); i++) {
            int index = i;
            both("fit " + i, x -> x.fit(index), x -> x.fit(index));
        }
        for (int i = 0; i < slow.count(2); i++) {
            int c = i;
            both("sure " + i, x -> x.sure(c), x -> x.sure(c));
        }
        for (int i = 0; i < slow.count(7); i++) {
            int index = i;
            both("byteAt " + i, x -> x.byteAt(index), x -> x.byteAt(index));
        }
        both("bears", x -> x.bears(), x -> x.bears());
        both("blame", x -> x.blame(), x -> x.blame());
    }

    private void dear() {
        both("removal", x -> x.removal(), x -> x.removal());
        for (int i = 0; i < slow.count(0); i++) {
            int j = i;
            both("most " + i, x -> x.most(j), x -> x.most(j));
            both("safe " + i, x -> x.safe(j), x -> x.safe(j));
        }
        both("advise 0", x -> x.advise(0), x -> x.advise(0));
    }

    private long digest() {
        long d = 743;
        for (int what = 0; what <= 9; what++) {
            d = d * 31 + slow.count(what);
        }
        for (int i = 0; i < 4 * slow.count(0); i++) {
            d = d * 31 + slow.joint(i / 4, i % 4);
        }
        for (int i = 0; i < 4 * slow.count(2); i++) {
            d = d * 31 + slow.card(i / 4, i % 4);
        }
        for (int i = 0; i < slow.count(6); i++) {
            d = d * 31 + slow.fit(i);
        }
        d = ((d * 31 + slow.bears()) * 31 + slow.blame()) * 31 + slow.removal();
        for (int i = 0; i < slow.count(7); i++) {
            d = d * 31 + slow.byteAt(i);
        }
        return d;
    }

    private static <T> long answer(T x, ToLongFunction<T> call) {
        try {
            return call.applyAsLong(x);
        } catch (IndexOutOfBoundsException e) {
            return e.getClass() == IndexOutOfBoundsException.class ? -1001 : -2001;
        } catch (IllegalArgumentException e) {
            return e.getClass() == IllegalArgumentException.class ? -1002 : -2002;
        } catch (IllegalStateException e) {
            return e.getClass() == IllegalStateException.class ? -1003 : -2003;
        }
    }

    private void both(String what, ToLongFunction<CardBridge> one, ToLongFunction<SlowBridge> other) {
        if (asked < CALLS_PROMISED) {
            asked++;
            Check.same(where + ": " + what, answer(fast, one), answer(slow, other));
        }
    }

    private void tape(String text, ToBuild what) {
        both("trim 0", x -> x.trim(0), x -> x.trim(0));
        StringBuilder padded = new StringBuilder(text);
        int length = Math.min(text.length(), 2000);
        padded.setLength(length);
        while (padded.length() % 20 != 0) {
            padded.append('\n');
        }
        for (int i = 0; i < padded.length(); i += 20) {
            int[] n = new int[5];
            for (int k = 0; k < 20; k++) {
                n[k / 4] = n[k / 4] << 8 | padded.charAt(i + k) & 255;
            }
            both("feed", x -> x.feed(n[0], n[1], n[2], n[3], n[4]), x -> x.feed(n));
        }
        both("trim", x -> x.trim(length), x -> x.trim(length));
        if (what == ToBuild.BUILD) {
            both("build of " + text, x -> x.build(), x -> x.build());
            if (slow.errorAt() < 0) {
                joints = draftJoints;
                cards = draftCards;
            }
        } else {
            both("run of " + text, x -> x.run(), x -> x.run());
        }
        both("errorAt of " + text, x -> x.errorAt(), x -> x.errorAt());
    }

    // ---- texts

    private String name() {
        return "" + (char) ('a' + upTo(25)) + (isOneIn(3) ? "" : "" + upTo(99));
    }

    private String blank() {
        return isOneIn(6) ? " \n " : " ";
    }

    private String design(boolean isLarge) {
        List<String> newJoints = new ArrayList<>();
        List<String> newCards = new ArrayList<>();
        StringBuilder text = new StringBuilder();
        int size = isLarge ? 11 + upTo(isOneIn(3) ? 2 : 1) : 2 + upTo(4);
        boolean isClean = !isOneIn(4);
        for (int i = 0; i < size; i++) {
            String name = name();
            if (isClean && newJoints.contains(name)) {
                i--;
                continue;
            }
            newJoints.add(name);
            text.append(i == 0 || isOneIn(4) ? "pier" : "joint").append(blank()).append(name).append(';');
        }
        int count = isLarge ? 10 + upTo(isOneIn(3) ? 3 : 2) : upTo(9);
        for (int i = 0; i < count; i++) {
            String name = name();
            String from = one(newJoints);
            String to = one(newJoints);
            boolean isBad = newCards.contains(name) || from.equals(to);
            if (isBad && isClean) {
                i--;
                continue;
            }
            newCards.add(name);
            int bears = isOneIn(isClean ? 1000000 : 8) ? upTo(35) : 1 + upTo(isOneIn(2) ? 29 : 10);
            text.append("card ").append(name).append(blank()).append("from ").append(from).append(" to ")
                    .append(isClean || !isOneIn(20) ? to : "nowhere").append(" bears ").append(bears)
                    .append(blank()).append(';');
        }
        draftJoints = newJoints;
        draftCards = newCards.isEmpty() ? List.of("z") : newCards;
        return text.toString();
    }

    private String script() {
        StringBuilder text = new StringBuilder();
        int size = 1 + upTo(isOneIn(10) ? 40 : 8);
        for (int i = 0; i < size; i++) {
            statement(text, 0);
        }
        if (isOneIn(10)) {
            text.insert(0, "repeat 40 [").append(']');
        }
        return text.toString();
    }

    private void block(StringBuilder text, int depth) {
        text.append('[');
        int size = upTo(3);
        for (int i = 0; i < size; i++) {
            statement(text, depth + 1);
        }
        text.append(']');
    }

    private void statement(StringBuilder text, int depth) {
        int kind = upTo(depth > 5 ? 5 : 8);
        switch (kind) {
            case 0:
            case 1:
            case 2:
                text.append(isOneIn(3) ? "take " : "put ").append(one(joints)).append(' ');
                sum(text, depth);
                text.append(";");
                break;
            case 3:
                text.append(random.nextBoolean() ? "cut " : "glue ").append(one(cards)).append(" ;");
                break;
            case 4:
            case 5:
                text.append("write ");
                sum(text, depth);
                text.append(";");
                break;
            case 6:
                text.append("repeat ").append(isOneIn(30) ? upTo(45) : upTo(5)).append(blank());
                block(text, depth);
                break;
            default:
                text.append("if ");
                test(text, depth);
                block(text, depth);
                if (random.nextBoolean()) {
                    text.append("else");
                    block(text, depth);
                }
                break;
        }
    }

    private void test(StringBuilder text, int depth) {
        for (int i = upTo(2); i >= 0; i--) {
            single(text, depth);
            text.append(i == 0 ? "" : random.nextBoolean() ? " and " : " or ");
        }
    }

    private void single(StringBuilder text, int depth) {
        switch (upTo(depth > 6 ? 5 : 7)) {
            case 0:
            case 1:
                text.append("holds ");
                break;
            case 2:
                text.append("hangs ").append(one(joints)).append(' ');
                break;
            case 6:
                text.append("not ");
                single(text, depth + 1);
                break;
            case 7:
                text.append("{");
                test(text, depth + 1);
                text.append("}");
                break;
            default:
                sum(text, depth);
                text.append(new String[] {"<", ">", "=", "<=", ">="}[upTo(4)]);
                sum(text, depth);
                break;
        }
    }

    private void sum(StringBuilder text, int depth) {
        value(text, depth);
        while (isOneIn(3)) {
            text.append(new String[] {"+", "-", "*", "/"}[upTo(3)]);
            value(text, depth);
        }
    }

    private void value(StringBuilder text, int depth) {
        switch (upTo(depth > 6 ? 6 : 9)) {
            case 0:
                text.append("load ").append(one(joints)).append(' ');
                break;
            case 1:
                text.append(" bears ");
                break;
            case 2:
                text.append(" all ");
                break;
            case 3:
                text.append(" fits ");
                break;
            case 7:
                text.append('-');
                value(text, depth + 1);
                break;
            case 8:
                text.append('(');
                sum(text, depth + 1);
                text.append(')');
                break;
            case 9:
                text.append(random.nextBoolean() ? " min(" : " max(");
                sum(text, depth + 1);
                text.append(',');
                sum(text, depth + 1);
                text.append(')');
                break;
            default:
                text.append(isOneIn(8) ? upTo(999999) : upTo(20));
                break;
        }
    }

    /** The text with some bytes or words more, less, or others. */
    private String spoilt(String text) {
        StringBuilder spoilt = new StringBuilder(text);
        for (int i = upTo(2); i >= 0; i--) {
            int at = upTo(spoilt.length());
            switch (upTo(5)) {
                case 0:
                    spoilt.setLength(at);
                    break;
                case 1:
                    spoilt.delete(at, Math.min(spoilt.length(), at + 1 + upTo(2)));
                    break;
                case 2:
                    spoilt.insert(at, (char) upTo(255));
                    break;
                case 3:
                    spoilt.insert(at, spoilt.substring(0, Math.min(at, 60)));
                    break;
                default:
                    spoilt.insert(at, " " + WORDS[random.nextInt(WORDS.length)] + " ");
                    break;
            }
        }
        return spoilt.toString();
    }
}
