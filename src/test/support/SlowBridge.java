import java.util.ArrayList;
import java.util.Arrays;
import java.util.HashMap;
import java.util.List;
import java.util.Map;
import java.util.function.BooleanSupplier;
import java.util.function.IntSupplier;
import java.util.regex.Matcher;
import java.util.regex.Pattern;

/** The document once more, told as slowly and plainly as can be: sets of joints for flows, all tests anew for beams. */
final class SlowBridge {
    private static final List<String> KEYWORDS = Arrays.asList(("pier joint card from to bears put take cut glue write "
            + "repeat if else holds hangs load all fits not and or min max").split(" "));
    private static final Pattern TOKEN = Pattern.compile("[a-z][a-z0-9]*|[0-9]+|<=|>=|[-()\\[\\]{};,+*/<>=]");
    private static final Earley DESIGN = new Earley(false);
    private static final Earley SCRIPT = new Earley(true);

    private record Token(String text, int start) {
        String kind() {
            char first = text.charAt(0);
            if (first >= '0' && first <= '9') {
                return "NUMBER";
            }
            return first >= 'a' && first <= 'z' && !KEYWORDS.contains(text) ? "NAME" : text;
        }
    }

    private record Test(int[] loads, int cuts, boolean isHeld) {
    }

    private record Card(int from, int to, int bears) {
    }

    /** The 401st statement. */
    private static final class TooMany extends RuntimeException {
        private static final long serialVersionUID = 1;
        private final int place;

        TooMany(int place) {
            this.place = place;
        }
    }

    private StringBuilder tape = new StringBuilder();
    private StringBuilder paper = new StringBuilder();
    private Map<String, Integer> joints = new HashMap<>();
    private Map<String, Integer> cards = new HashMap<>();
    private List<Boolean> piers = new ArrayList<>();
    private List<Card> ends = new ArrayList<>();
    private int[] loads = new int[12];
    private int cuts = 0;
    private int beams = 0;
    private List<Test> tests = new ArrayList<>();
    private List<Integer> fits = new ArrayList<>();
    private int error = 0;
    private int errorAt = -1;
    private int carriedOut = 0;

    SlowBridge() {
        fits = allSets();
    }

    // ---- the languages

    int feed(int... fours) {
        if (tape.length() + 20 > 2000) {
            throw new IllegalStateException();
        }
        for (int four : fours) {
            for (int shift = 24; shift >= 0; shift -= 8) {
                tape.append((char) (four >>> shift & 255));
            }
        }
        return tape.length();
    }

    int trim(int n) {
        if (n < 0 || n > tape.length()) {
            throw new IllegalArgumentException();
        }
        tape.setLength(n);
        return n;
    }

    private void fail(int number, int place) {
        if (error == 0) {
            error = number;
            errorAt = place;
        }
    }

    /** The tokens of the tape, if it has no error 1; else null. */
    private List<Token> read(Earley grammar) {
        String text = tape.toString();
        tape.setLength(0);
        error = 0;
        errorAt = -1;
        List<Token> tokens = new ArrayList<>();
        List<String> kinds = new ArrayList<>();
        Matcher matcher = TOKEN.matcher(text);
        int at = 0;
        int bad = text.length();
        while (at < text.length()) {
            if (text.charAt(at) == ' ' || text.charAt(at) == '\n') {
                at++;
                continue;
            }
            boolean is = matcher.find(at) && matcher.start() == at && tokens.size() < 400;
            String found = is ? matcher.group() : "";
            if (!is || found.length() > (Character.isDigit(found.charAt(0)) ? 6 : 10)) {
                bad = at;
                break;
            }
            tokens.add(new Token(found, at));
            kinds.add(tokens.get(tokens.size() - 1).kind());
            at += found.length();
        }
        int wrong = grammar.firstWrong(kinds);
        if (wrong >= 0 && wrong < kinds.size()) {
            fail(1, tokens.get(wrong).start());
        } else if (wrong >= 0 || bad < text.length()) {
            fail(1, bad);
        }
        return error == 0 ? tokens : null;
    }

    int build() {
        List<Token> tokens = read(DESIGN);
        if (tokens == null) {
            return error;
        }
        Map<String, Integer> newJoints = new HashMap<>();
        Map<String, Integer> newCards = new HashMap<>();
        List<Boolean> newPiers = new ArrayList<>();
        List<Card> newEnds = new ArrayList<>();
        for (int i = 0; i < tokens.size() && error == 0;) {
            Token name = tokens.get(i + 1);
            if (!tokens.get(i).text().equals("card")) {
                declare(newJoints, name);
                newPiers.add(tokens.get(i).text().equals("pier"));
                i += 3;
                continue;
            }
            declare(newCards, name);
            Token from = tokens.get(i + 3);
            Token to = tokens.get(i + 5);
            Token bears = tokens.get(i + 7);
            int number = Integer.parseInt(bears.text());
            int one = newJoints.getOrDefault(from.text(), -1);
            int other = newJoints.getOrDefault(to.text(), -1);
            if (one < 0) {
                fail(3, from.start());
            }
            if (other < 0) {
                fail(3, to.start());
            }
            if (one == other) {
                fail(6, to.start());
            }
            if (number < 1 || number > 30) {
                fail(5, bears.start());
            }
            newEnds.add(new Card(one, other, number));
            i += 9;
        }
        if (error == 0) {
            joints = newJoints;
            cards = newCards;
            piers = newPiers;
            ends = newEnds;
            loads = new int[12];
            cuts = 0;
            beams = 0;
            forget();
        }
        return error;
    }

    private void declare(Map<String, Integer> names, Token name) {
        if (names.containsKey(name.text())) {
            fail(2, name.start());
        }
        if (names.size() == 12) {
            fail(4, name.start());
        }
        names.put(name.text(), names.size());
    }

    int run() {
        carriedOut = 0;
        List<Token> tokens = read(SCRIPT);
        for (int i = 1; tokens != null && i < tokens.size(); i++) {
            String before = tokens.get(i - 1).text();
            Token token = tokens.get(i);
            if (token.kind().equals("NAME")
                    && !(before.equals("cut") || before.equals("glue") ? cards : joints).containsKey(token.text())) {
                fail(3, token.start());
            }
            if (before.equals("repeat") && Integer.parseInt(token.text()) > 40) {
                fail(5, token.start());
            }
        }
        if (error == 0) {
            try {
                new Reader(tokens).script().run();
            } catch (TooMany e) {
                fail(7, e.place);
            }
        }
        return error;
    }

    /** Makes of the tokens something that can be carried out. */
    private final class Reader {
        private final List<Token> tokens;
        private int at = 0;

        Reader(List<Token> tokens) {
            this.tokens = tokens;
        }

        private String peek() {
            return at < tokens.size() ? tokens.get(at).text() : "";
        }

        private String next() {
            at++;
            return tokens.get(at - 1).text();
        }

        private boolean comes(String text) {
            boolean is = peek().equals(text);
            at += is ? 1 : 0;
            return is;
        }

        Runnable script() {
            List<Runnable> all = new ArrayList<>();
            while (at < tokens.size() && !peek().equals("]")) {
                int place = tokens.get(at).start();
                Runnable one = statement();
                all.add(() -> {
                    if (carriedOut == 400) {
                        throw new TooMany(place);
                    }
                    carriedOut++;
                    one.run();
                });
            }
            return () -> all.forEach(Runnable::run);
        }

        private Runnable block() {
            next();
            Runnable inside = script();
            next();
            return inside;
        }

        private Runnable statement() {
            String keyword = next();
            switch (keyword) {
                case "repeat": {
                    int times = Integer.parseInt(next());
                    Runnable inside = block();
                    return () -> {
                        for (int i = 0; i < times; i++) {
                            inside.run();
                        }
                    };
                }
                case "if": {
                    BooleanSupplier test = test();
                    Runnable then = block();
                    Runnable otherwise = comes("else") ? block() : () -> { };
                    return () -> (test.getAsBoolean() ? then : otherwise).run();
                }
                case "write": {
                    IntSupplier sum = sum();
                    next();
                    return () -> {
                        String line = sum.getAsInt() + "\n";
                        paper.append(paper.length() + line.length() <= 500 ? line : "");
                    };
                }
                case "cut":
                case "glue": {
                    int bit = 1 << cards.get(next());
                    next();
                    return () -> cuts = keyword.equals("cut") ? cuts | bit : cuts & ~bit;
                }
                default: {
                    int joint = joints.get(next());
                    IntSupplier sum = sum();
                    next();
                    return () -> {
                        long load = keyword.equals("put") ? (long) loads[joint] + sum.getAsInt()
                                : (long) loads[joint] - sum.getAsInt();
                        loads[joint] = load < 0 ? 0 : load > 60 ? 60 : (int) load;
                    };
                }
            }
        }

        private BooleanSupplier test() {
            BooleanSupplier left = both();
            while (comes("or")) {
                BooleanSupplier one = left;
                BooleanSupplier other = both();
                left = () -> {
                    boolean first = one.getAsBoolean();
                    boolean second = other.getAsBoolean();
                    return first || second;
                };
            }
            return left;
        }

        private BooleanSupplier both() {
            BooleanSupplier left = single();
            while (comes("and")) {
                BooleanSupplier one = left;
                BooleanSupplier other = single();
                left = () -> {
                    boolean first = one.getAsBoolean();
                    boolean second = other.getAsBoolean();
                    return first && second;
                };
            }
            return left;
        }

        private BooleanSupplier single() {
            if (comes("not")) {
                BooleanSupplier inside = single();
                return () -> !inside.getAsBoolean();
            }
            if (comes("{")) {
                BooleanSupplier inside = test();
                next();
                return inside;
            }
            if (comes("holds")) {
                return SlowBridge.this::holds;
            }
            if (comes("hangs")) {
                int joint = joints.get(next());
                return () -> hangs(joint);
            }
            IntSupplier one = sum();
            String sign = next();
            IntSupplier other = sum();
            return () -> {
                int compared = Integer.compare(one.getAsInt(), other.getAsInt());
                return compared < 0 && sign.startsWith("<") || compared > 0 && sign.startsWith(">")
                        || compared == 0 && sign.endsWith("=");
            };
        }

        private IntSupplier sum() {
            IntSupplier left = product();
            while (peek().equals("+") || peek().equals("-")) {
                boolean isPlus = next().equals("+");
                IntSupplier one = left;
                IntSupplier other = product();
                left = () -> (int) ((long) one.getAsInt() + (isPlus ? 1L : -1L) * other.getAsInt());
            }
            return left;
        }

        private IntSupplier product() {
            IntSupplier left = value();
            while (peek().equals("*") || peek().equals("/")) {
                boolean isTimes = next().equals("*");
                IntSupplier one = left;
                IntSupplier other = value();
                left = () -> {
                    long a = one.getAsInt();
                    long b = other.getAsInt();
                    return (int) (isTimes ? a * b : b == 0 ? 0 : a / b);
                };
            }
            return left;
        }

        private IntSupplier value() {
            String sign = next();
            switch (sign) {
                case "load": {
                    int joint = joints.get(next());
                    return () -> loads[joint];
                }
                case "bears":
                    return SlowBridge.this::bears;
                case "all":
                    return () -> count(4);
                case "fits":
                    return () -> count(6);
                case "-": {
                    IntSupplier inside = value();
                    return () -> (int) -(long) inside.getAsInt();
                }
                case "(": {
                    IntSupplier inside = sum();
                    next();
                    return inside;
                }
                case "min":
                case "max": {
                    next();
                    IntSupplier one = sum();
                    next();
                    IntSupplier other = sum();
                    next();
                    return () -> {
                        int a = one.getAsInt();
                        int b = other.getAsInt();
                        return a < b == sign.equals("min") ? a : b;
                    };
                }
                default: {
                    int number = Integer.parseInt(sign);
                    return () -> number;
                }
            }
        }
    }

    int errorAt() {
        return errorAt;
    }

    int count(int what) {
        switch (what) {
            case 0:
                return piers.size();
            case 1:
                return (int) piers.stream().filter(x -> x).count();
            case 2:
                return ends.size();
            case 3:
                return Integer.bitCount(cuts);
            case 4:
                return Arrays.stream(loads).sum();
            case 5:
                return tests.size();
            case 6:
                return fits.size();
            case 7:
                return paper.length();
            case 8:
                return tape.length();
            case 9:
                return carriedOut;
            default:
                throw new IndexOutOfBoundsException();
        }
    }

    // ---- the bridge

    private void look(boolean is) {
        if (!is) {
            throw new IndexOutOfBoundsException();
        }
    }

    private void lookJoint(int joint) {
        look(joint >= 0 && joint < piers.size());
    }

    private void lookCard(int card) {
        look(card >= 0 && card < ends.size());
    }

    private static void lookLoad(int load) {
        if (load < 0 || load > 60) {
            throw new IllegalArgumentException();
        }
    }

    private static boolean has(int set, int number) {
        return (set & 1 << number) != 0;
    }

    private boolean hangs(int joint) {
        boolean[] is = new boolean[12];
        for (int j = 0; j < piers.size(); j++) {
            is[j] = piers.get(j);
        }
        boolean goesOn = true;
        while (goesOn) {
            goesOn = false;
            for (int c = 0; c < ends.size(); c++) {
                Card card = ends.get(c);
                if (!has(cuts, c) && is[card.from()] != is[card.to()]) {
                    is[card.from()] = true;
                    is[card.to()] = true;
                    goesOn = true;
                }
            }
        }
        return is[joint];
    }

    int joint(int joint, int what) {
        lookJoint(joint);
        look(what >= 0 && what <= 3);
        int whole = 0;
        for (int c = 0; c < ends.size(); c++) {
            whole += !has(cuts, c) && (ends.get(c).from() == joint || ends.get(c).to() == joint) ? 1 : 0;
        }
        int[] facts = {piers.get(joint) ? 1 : 0, loads[joint], whole, hangs(joint) ? 1 : 0};
        return facts[what];
    }

    int card(int card, int what) {
        lookCard(card);
        look(what >= 0 && what <= 3);
        Card it = ends.get(card);
        int[] facts = {it.from(), it.to(), it.bears(), has(cuts, card) ? 1 : 0};
        return facts[what];
    }

    int hide(int card) {
        lookCard(card);
        if (!has(beams, card) && Integer.bitCount(beams) == 2) {
            throw new IllegalStateException();
        }
        beams ^= 1 << card;
        forget();
        return Integer.bitCount(beams);
    }

    int put(int joint, int load) {
        lookJoint(joint);
        lookLoad(load);
        int before = loads[joint];
        loads[joint] = load;
        return before;
    }

    int cut(int card) {
        lookCard(card);
        cuts ^= 1 << card;
        return Integer.bitCount(cuts);
    }

    boolean holds() {
        boolean isHeld = holds(loads, cuts, beams);
        if (tests.size() < 30) {
            tests.add(new Test(loads.clone(), cuts, isHeld));
            fits = allSets();
            fits.removeIf(set -> !fitsAll(set));
        }
        return isHeld;
    }

    private boolean fitsAll(int set) {
        for (Test test : tests) {
            if (holds(test.loads(), test.cuts(), set) != test.isHeld()) {
                return false;
            }
        }
        return true;
    }

    private void forget() {
        tests = new ArrayList<>();
        fits = allSets();
    }

    private List<Integer> allSets() {
        List<Integer> all = new ArrayList<>();
        for (int set = 0; set < 1 << ends.size(); set++) {
            if (Integer.bitCount(set) <= 2) {
                all.add(set);
            }
        }
        return all;
    }

    /** By how much less can go out from a set of joints than is put on them. */
    private int missing(int set, int[] someLoads, int someCuts, int someBeams) {
        int missing = 0;
        for (int j = 0; j < piers.size(); j++) {
            missing += has(set, j) ? someLoads[j] : 0;
        }
        for (int c = 0; c < ends.size(); c++) {
            Card card = ends.get(c);
            if (!has(someCuts, c) && has(set, card.from()) != has(set, card.to())) {
                missing -= card.bears() + (has(someBeams, c) ? 10 : 0);
            }
        }
        return missing;
    }

    private int pierSet() {
        int set = 0;
        for (int j = 0; j < piers.size(); j++) {
            set |= piers.get(j) ? 1 << j : 0;
        }
        return set;
    }

    private int notBorne(int[] someLoads, int someCuts, int someBeams) {
        int most = 0;
        int without = pierSet();
        for (int set = 0; set < 1 << piers.size(); set++) {
            if ((set & without) == 0) {
                most = Math.max(most, missing(set, someLoads, someCuts, someBeams));
            }
        }
        return most;
    }

    private boolean holds(int[] someLoads, int someCuts, int someBeams) {
        return notBorne(someLoads, someCuts, someBeams) == 0;
    }

    private int[] loadsWith(int joint, int load) {
        int[] with = loads.clone();
        with[joint] = load;
        return with;
    }

    // ---- by the cards as they are told

    int bears() {
        return count(4) - notBorne(loads, cuts, 0);
    }

    int blame() {
        int not = notBorne(loads, cuts, 0);
        if (not == 0) {
            return 0;
        }
        int without = pierSet();
        int inAll = -1;
        for (int set = 0; set < 1 << piers.size(); set++) {
            if ((set & without) == 0 && missing(set, loads, cuts, 0) == not) {
                inAll &= set;
            }
        }
        int blamed = 0;
        for (int c = 0; c < ends.size(); c++) {
            boolean isAtEdge = has(inAll, ends.get(c).from()) != has(inAll, ends.get(c).to());
            blamed |= isAtEdge && !has(cuts, c) ? 1 << c : 0;
        }
        return blamed;
    }

    int removal() {
        for (int size = 0; size <= 3; size++) {
            for (int set = 0; set < 1 << ends.size(); set++) {
                if (Integer.bitCount(set) == size && (set & cuts) == 0 && !holds(loads, cuts | set, 0)) {
                    return set;
                }
            }
        }
        return -1;
    }

    int most(int joint) {
        lookJoint(joint);
        int load = 60;
        while (load >= 0 && !holds(loadsWith(joint, load), cuts, 0)) {
            load--;
        }
        return load;
    }

    // ---- by beams that fit

    int fit(int index) {
        look(index >= 0 && index < fits.size());
        return fits.get(index);
    }

    int sure(int card) {
        lookCard(card);
        boolean isInAll = fits.stream().allMatch(set -> has(set, card));
        boolean isInNone = fits.stream().noneMatch(set -> has(set, card));
        return isInNone ? 0 : isInAll ? 1 : 2;
    }

    int would(int joint, int load, boolean isHeld) {
        lookJoint(joint);
        lookLoad(load);
        int[] with = loadsWith(joint, load);
        return (int) fits.stream().filter(set -> holds(with, cuts, set) == isHeld).count();
    }

    int advise(int joint) {
        lookJoint(joint);
        int best = -1;
        int least = Integer.MAX_VALUE;
        for (int load = 0; load <= 60; load++) {
            int worse = Math.max(would(joint, load, true), would(joint, load, false));
            if (worse < least) {
                least = worse;
                best = load;
            }
        }
        return best;
    }

    int safe(int joint) {
        lookJoint(joint);
        for (int load = 60; load >= 0; load--) {
            if (!fits.isEmpty() && would(joint, load, false) == 0) {
                return load;
            }
        }
        return -1;
    }

    // ---- the paper

    int byteAt(int index) {
        look(index >= 0 && index < paper.length());
        return paper.charAt(index);
    }

    int clear() {
        int before = paper.length();
        paper.setLength(0);
        return before;
    }

    double share() {
        return count(4) == 0 ? 1 : (double) bears() / count(4);
    }
}
