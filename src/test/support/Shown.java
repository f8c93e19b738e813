import java.util.ArrayList;
import java.util.List;

/** All that later calls can show of an object: two objects that stand alike answer this row of calls alike. */
final class Shown {
    /** What stands behind the bytes that a tape holds already; its names are those of the bridges in RefusedCalls. */
    private static final String SCRIPT = " write fits; if holds [ write 1; ] put a 3; take b 1; cut k; glue m; write load b; cut n;";
    private final List<String> row = new ArrayList<>();
    private final CardBridge x;

    private Shown(CardBridge x) {
        this.x = x;
    }

    static List<String> by(CardBridge x) {
        Shown shown = new Shown(x);
        shown.ask("errorAt", x::errorAt);
        shown.state();
        shown.beams();
        shown.tape();
        return shown.row;
    }

    /** The same, but for errorAt() ahead of the next build() or run(). */
    static List<String> withoutErrorAt(CardBridge x) {
        List<String> row = by(x);
        row.remove(0);
        return row;
    }

    private void ask(String what, Check.Call call) {
        String answer;
        try {
            answer = "" + call.answer();
        } catch (RuntimeException e) {
            answer = e.getClass().getSimpleName();
        }
        row.add(what + " " + answer);
    }

    private void state() {
        ask("digest", x::digest);
        ask("share", () -> Double.doubleToLongBits(x.share()));
        int cards = x.count(2);
        for (int c = 0; c < cards; c++) {
            int card = c;
            ask("sure " + c, () -> x.sure(card));
        }
        int joints = x.count(0);
        for (int j = 0; j < joints; j++) {
            int joint = j;
            ask("most " + j, () -> x.most(joint));
            ask("safe " + j, () -> x.safe(joint));
            ask("advise " + j, () -> x.advise(joint));
            ask("would " + j, () -> x.would(joint, 20, true));
        }
    }

    /** Where the beams are, as hide() tells, and how many tests are kept, as more of them tell. */
    private void beams() {
        for (int i = 0; i < 31; i++) {
            ask("holds", () -> x.holds() ? 1 : 0);
        }
        ask("tests", () -> x.count(5));
        ask("digest", x::digest);
        int cards = x.count(2);
        for (int c = 0; c < cards; c++) {
            int card = c;
            ask("hide " + c, () -> x.hide(card));
        }
        ask("digest", x::digest);
    }

    /** What the tape holds, as run() tells with a script behind it, and the names of the bridge. */
    private void tape() {
        ask("bytes", () -> x.count(8));
        if (x.count(8) + 100 <= 2000) {
            Check.write(x, SCRIPT);
        }
        ask("run", x::run);
        ask("errorAt", x::errorAt);
        ask("statements", () -> x.count(9));
        ask("digest", x::digest);
        Check.write(x, SCRIPT);
        ask("run", x::run);
        ask("errorAt", x::errorAt);
        ask("digest", x::digest);
    }
}
