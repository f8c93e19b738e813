/**
 * Bridges of cards with secret beams: designs and scripts come in over a tape, the bridge is loaded and tested,
 * and it is told what it bears, and what is known of its beams. ../shared/DOC.md is the whole promise.
 */
public final class CardBridge {
    private static final int TAPE_MAX = 2000;
    private static final int FEED_BYTES = 20;
    private static final int PAPER_MAX = 500;
    private static final int JOINTS_MAX = 12;
    private static final int CARDS_MAX = 12;
    private static final int LOAD_MAX = 60;
    private static final int LOADS_MAX = JOINTS_MAX * LOAD_MAX;
    private static final int BEARS_MAX = 30;
    private static final int REPEAT_MAX = 40;
    private static final int BEAMS_MAX = 2;
    private static final int BEAM_BEARS = 10;
    /** No beam, one among twelve cards, or two among them. */
    private static final int SETS_MAX = 1 + 12 + 66;
    private static final int TESTS_MAX = 30;
    private static final int REMOVAL_MAX = 3;
    private static final int TOKENS_MAX = 400;
    private static final int STATEMENTS_MAX = 400;
    private static final int DEPTH_MAX = 8;
    private static final int WORD_MAX = 10;
    private static final int NUMBER_MAX = 6;

    private static final int COUNTS = 10;
    private static final int FACTS = 4;
    private static final int NONE = -1;

    private static final int NO_ERROR = 0;
    private static final int ERROR_GRAMMAR = 1;
    private static final int ERROR_TWICE = 2;
    private static final int ERROR_UNKNOWN = 3;
    private static final int ERROR_TOO_MANY = 4;
    private static final int ERROR_RANGE = 5;
    private static final int ERROR_SAME_END = 6;
    private static final int ERROR_TOO_LONG = 7;

    // Kinds of tokens: a symbol of one sign is its own kind, so the others stay clear of the signs' numbers.
    private static final int END = 0;
    private static final int BAD = 1;
    private static final int NAME = 2;
    private static final int NUMBER = 3;
    private static final int AT_MOST = 4;
    private static final int AT_LEAST = 5;
    private static final String SYMBOLS = "()[]{};,+-*/<>=";

    // The keywords' kinds follow the order of this text.
    private static final String KEYWORDS =
            "pier joint card from to bears put take cut glue write repeat if else holds hangs load all fits not and or min max ";
    private static final int KEYWORD_COUNT = 24;
    private static final int PIER = 128;
    private static final int JOINT = 129;
    private static final int CARD = 130;
    private static final int FROM = 131;
    private static final int TO = 132;
    private static final int BEARS = 133;
    private static final int PUT = 134;
    private static final int TAKE = 135;
    private static final int CUT = 136;
    private static final int GLUE = 137;
    private static final int WRITE = 138;
    private static final int REPEAT = 139;
    private static final int IF = 140;
    private static final int ELSE = 141;
    private static final int HOLDS = 142;
    private static final int HANGS = 143;
    private static final int LOAD = 144;
    private static final int ALL = 145;
    private static final int FITS = 146;
    private static final int NOT = 147;
    private static final int AND = 148;
    private static final int OR = 149;
    private static final int MIN = 150;
    private static final int MAX = 151;

    private final Tape tape;
    private final Tokens tokens;
    private final Grammar grammar;
    private final Bridge bridge;
    private final Bridge draft;
    private final Names names;
    private final Flow flow;
    private final Guesses guesses;
    private final Paper paper;
    private final Script script;
    private int errorPosition;
    private int carriedOut;

    /** Creates a bridge without joints, with an empty paper. */
    public CardBridge() {
        tape = new Tape();
        tokens = new Tokens();
        grammar = new Grammar(tokens);
        bridge = new Bridge();
        draft = new Bridge();
        names = new Names(tokens);
        flow = new Flow(bridge);
        guesses = new Guesses(bridge, flow);
        paper = new Paper();
        script = new Script(tokens, bridge, flow, guesses, paper);
        errorPosition = NONE;
        carriedOut = 0;
        guesses.forgetTests();
    }

    // ---- the languages

    /** Appends twenty bytes to the tape; returns its bytes. */
    public int feed(int a, int b, int c, int d, int e) throws IllegalStateException {
        if (tape.size() + FEED_BYTES > TAPE_MAX) {
            throw new IllegalStateException("the tape is full");
        }
        tape.append(a);
        tape.append(b);
        tape.append(c);
        tape.append(d);
        tape.append(e);
        return tape.size();
    }

    /** Shortens the tape to its first n bytes; returns n. */
    public int trim(int n) throws IllegalArgumentException {
        if (n < 0 || n > tape.size()) {
            throw new IllegalArgumentException("the tape has no such length");
        }
        tape.shorten(n);
        return n;
    }

    /** Reads the tape as a design; returns 0, or the error, 1 to 6. */
    public int build() {
        takeTape();
        int error = grammar.isDesign() ? names.designError(draft) : ERROR_GRAMMAR;
        if (error == NO_ERROR) {
            bridge.copyFrom(draft);
            guesses.forgetTests();
        }
        tellError(error);
        return error;
    }

    /** Reads the tape as a script, and carries it out; returns 0, or the error, 1, 3, 5 or 7. */
    public int run() {
        takeTape();
        carriedOut = 0;
        int error = grammar.isScript() ? names.scriptError(bridge) : ERROR_GRAMMAR;
        tellError(error);
        if (error == NO_ERROR) {
            if (!script.carriesOut()) {
                error = ERROR_TOO_LONG;
                errorPosition = tokens.startAt(script.place());
            }
            carriedOut = script.statementsCarriedOut();
        }
        return error;
    }

    /** Returns the position of the error of the latest build() or run(), -1 without one. */
    public int errorAt() {
        return errorPosition;
    }

    /** Returns one of ten counts. */
    public int count(int what) throws IndexOutOfBoundsException {
        switch (what) {
            case 0:
                return bridge.joints();
            case 1:
                return Integer.bitCount(bridge.piers());
            case 2:
                return bridge.cards();
            case 3:
                return Integer.bitCount(bridge.cutCards());
            case 4:
                return bridge.allLoads();
            case 5:
                return guesses.tests();
            case 6:
                return guesses.size();
            case 7:
                return paper.size();
            case 8:
                return tape.size();
            case 9:
                return carriedOut;
            default:
                throw new IndexOutOfBoundsException("there is no such count");
        }
    }

    // ---- the bridge

    /** Returns one of four facts of a joint. */
    public int joint(int joint, int what) throws IndexOutOfBoundsException {
        if (!bridge.hasJoint(joint) || what < 0 || what >= FACTS) {
            throw new IndexOutOfBoundsException("there is no such joint or fact");
        }
        switch (what) {
            case 0:
                return bridge.isPier(joint) ? 1 : 0;
            case 1:
                return bridge.loadOf(joint);
            case 2:
                return bridge.wholeCardsAt(joint);
            default:
                return bridge.isHanging(joint) ? 1 : 0;
        }
    }

    /** Returns one of four facts of a card. */
    public int card(int card, int what) throws IndexOutOfBoundsException {
        if (!bridge.hasCard(card) || what < 0 || what >= FACTS) {
            throw new IndexOutOfBoundsException("there is no such card or fact");
        }
        switch (what) {
            case 0:
                return bridge.fromOf(card);
            case 1:
                return bridge.toOf(card);
            case 2:
                return bridge.bearingOf(card);
            default:
                return isIn(card, bridge.cutCards()) ? 1 : 0;
        }
    }

    /** Puts a secret beam into a card, or takes it out; returns how many cards have beams then. */
    public int hide(int card) throws IndexOutOfBoundsException, IllegalStateException {
        if (!bridge.hasCard(card)) {
            throw new IndexOutOfBoundsException("there is no such card");
        }
        boolean hasBeam = isIn(card, bridge.beams());
        if (!hasBeam && Integer.bitCount(bridge.beams()) >= BEAMS_MAX) {
            throw new IllegalStateException("there are no more beams");
        }
        bridge.turnBeam(card);
        guesses.forgetTests();
        return Integer.bitCount(bridge.beams());
    }

    /** Puts a load on a joint; returns the load before. */
    public int put(int joint, int load) throws IndexOutOfBoundsException, IllegalArgumentException {
        if (!bridge.hasJoint(joint)) {
            throw new IndexOutOfBoundsException("there is no such joint");
        }
        if (!isLoad(load)) {
            throw new IllegalArgumentException("there is no such load");
        }
        int before = bridge.loadOf(joint);
        bridge.setLoad(joint, load);
        return before;
    }

    /** Cuts a card, or glues it, if it is cut; returns how many are cut then. */
    public int cut(int card) throws IndexOutOfBoundsException {
        if (!bridge.hasCard(card)) {
            throw new IndexOutOfBoundsException("there is no such card");
        }
        bridge.setCut(card, !isIn(card, bridge.cutCards()));
        return Integer.bitCount(bridge.cutCards());
    }

    /** Tests the bridge; returns whether it holds. */
    public boolean holds() {
        return guesses.testBridge();
    }

    // ---- by the cards as they are told

    /** Returns what the bridge bears, without beams. */
    public int bears() {
        return flow.borne();
    }

    /** Returns the cards to blame, without beams. */
    public int blame() {
        return flow.cardsToBlame();
    }

    /** Returns the fewest whole cards with which cut the bridge does not hold, without beams; -1 for more than 3. */
    public int removal() {
        return flow.fewestToCut();
    }

    /** Returns the greatest load of a joint with which the bridge holds, without beams; -1 for none. */
    public int most(int joint) throws IndexOutOfBoundsException {
        if (!bridge.hasJoint(joint)) {
            throw new IndexOutOfBoundsException("there is no such joint");
        }
        return flow.greatestLoad(joint, 0);
    }

    // ---- by beams that fit

    /** Returns the cards of one of the sets of beams that fit. */
    public int fit(int index) throws IndexOutOfBoundsException {
        if (index < 0 || index >= guesses.size()) {
            throw new IndexOutOfBoundsException("there are no such beams");
        }
        return guesses.setAt(index);
    }

    /** Returns whether no (0), all (1) or some (2) beams that fit are in a card. */
    public int sure(int card) throws IndexOutOfBoundsException {
        if (!bridge.hasCard(card)) {
            throw new IndexOutOfBoundsException("there is no such card");
        }
        int with = guesses.setsWith(card);
        if (with == 0) {
            return 0;
        }
        return with == guesses.size() ? 1 : 2;
    }

    /** Returns how many sets of beams would fit behind one more test. */
    public int would(int joint, int load, boolean isHeld) throws IndexOutOfBoundsException, IllegalArgumentException {
        if (!bridge.hasJoint(joint)) {
            throw new IndexOutOfBoundsException("there is no such joint");
        }
        if (!isLoad(load)) {
            throw new IllegalArgumentException("there is no such load");
        }
        return guesses.setsLeft(joint, load, isHeld);
    }

    /** Returns the load of a joint with which a test tells the most. */
    public int advise(int joint) throws IndexOutOfBoundsException {
        if (!bridge.hasJoint(joint)) {
            throw new IndexOutOfBoundsException("there is no such joint");
        }
        return guesses.tellingLoad(joint);
    }

    /** Returns the greatest load of a joint with which the bridge holds with any beams that fit; -1 for none. */
    public int safe(int joint) throws IndexOutOfBoundsException {
        if (!bridge.hasJoint(joint)) {
            throw new IndexOutOfBoundsException("there is no such joint");
        }
        return guesses.safeLoad(joint);
    }

    // ---- the paper

    /** Returns a byte of the paper. */
    public int byteAt(int index) throws IndexOutOfBoundsException {
        if (index < 0 || index >= paper.size()) {
            throw new IndexOutOfBoundsException("there is no such place on the paper");
        }
        return paper.signAt(index);
    }

    /** Takes the paper away; returns how many bytes it had. */
    public int clear() {
        int before = paper.size();
        paper.wipe();
        return before;
    }

    /** Returns the part of all loads that the bridge bears, without beams. */
    public double share() {
        int all = bridge.allLoads();
        return all == 0 ? 1.0 : (double) flow.borne() / (double) all;
    }

    /** Returns a checksum of all that can be told. */
    public long digest() {
        long d = 743;
        for (int what = 0; what < COUNTS; what++) {
            d = d * 31 + count(what);
        }
        for (int j = 0; j < bridge.joints(); j++) {
            for (int what = 0; what < FACTS; what++) {
                d = d * 31 + joint(j, what);
            }
        }
        for (int c = 0; c < bridge.cards(); c++) {
            for (int what = 0; what < FACTS; what++) {
                d = d * 31 + card(c, what);
            }
        }
        for (int i = 0; i < guesses.size(); i++) {
            d = d * 31 + guesses.setAt(i);
        }
        d = d * 31 + flow.borne();
        d = d * 31 + flow.cardsToBlame();
        d = d * 31 + flow.fewestToCut();
        for (int i = 0; i < paper.size(); i++) {
            d = d * 31 + paper.signAt(i);
        }
        return d;
    }

    /** The tape is empty behind build() and run(), whatever they find, so it goes as soon as its tokens are read. */
    private void takeTape() {
        tokens.readFrom(tape);
        tape.shorten(0);
    }

    private void tellError(int error) {
        if (error == NO_ERROR) {
            errorPosition = NONE;
        } else if (error == ERROR_GRAMMAR) {
            errorPosition = tokens.startAt(grammar.place());
        } else {
            errorPosition = tokens.startAt(names.place());
        }
    }

    private static boolean isLoad(int load) {
        return load >= 0 && load <= LOAD_MAX;
    }

    private static boolean isIn(int number, int set) {
        return (set >> number & 1) == 1;
    }

    /** The bytes that feed and trim fill. */
    private static final class Tape {
        private final byte[] bytes = new byte[TAPE_MAX];
        private int size = 0;

        int size() {
            return size;
        }

        /** The byte there, 0 to 255; -1 beyond the end. */
        int signAt(int place) {
            return place >= 0 && place < size && place < TAPE_MAX ? bytes[place] & 255 : NONE;
        }

        void append(int four) {
            for (int shift = 24; shift >= 0; shift -= 8) {
                if (size >= 0 && size < TAPE_MAX) {
                    bytes[size] = (byte) (four >> shift);
                    size++;
                }
            }
        }

        void shorten(int n) {
            size = n;
        }
    }

    /** The bytes that scripts write. */
    private static final class Paper {
        private static final int DIGITS_MAX = 10;
        private final byte[] bytes = new byte[PAPER_MAX];
        private final int[] digits = new int[DIGITS_MAX];
        private int size = 0;

        int size() {
            return size;
        }

        int signAt(int place) {
            return place >= 0 && place < size && place < PAPER_MAX ? bytes[place] & 255 : NONE;
        }

        void wipe() {
            size = 0;
        }

        /** Writes a line with the number, if there is room for all of it. */
        void writeLine(int number) {
            int count = splitDigits(number);
            int signs = number < 0 ? 1 : 0;
            if (size + signs + count + 1 > PAPER_MAX) {
                return;
            }
            if (number < 0) {
                append('-');
            }
            for (int i = count - 1; i >= 0; i--) {
                if (i < DIGITS_MAX) {
                    append('0' + digits[i]);
                }
            }
            append('\n');
        }

        /** Lays the digits out, the last one first; a long, as the least int has no positive partner. */
        private int splitDigits(int number) {
            long rest = Math.abs((long) number);
            int count = 0;
            for (int i = 0; i < DIGITS_MAX && (i == 0 || rest > 0); i++) {
                digits[i] = (int) (rest % 10);
                rest /= 10;
                count++;
            }
            return count;
        }

        private void append(int sign) {
            if (size >= 0 && size < PAPER_MAX) {
                bytes[size] = (byte) sign;
                size++;
            }
        }
    }

    /** The tokens of a tape, the last of them END, or BAD where no token can be read. */
    private static final class Tokens {
        /** Letters and digits count from 1, so that every word of up to ten signs has a number of its own. */
        private static final int SIGN_NUMBERS = 37;
        private final int[] kinds = new int[TOKENS_MAX + 1];
        private final int[] starts = new int[TOKENS_MAX + 1];
        private final long[] values = new long[TOKENS_MAX + 1];
        private final int[] partners = new int[TOKENS_MAX + 1];
        private final long[] keywords = new long[KEYWORD_COUNT];
        private int size = 0;

        Tokens() {
            int word = 0;
            long code = 0;
            for (int i = 0; i < KEYWORDS.length(); i++) {
                int sign = KEYWORDS.charAt(i);
                if (sign != ' ') {
                    code = code * SIGN_NUMBERS + signNumber(sign);
                } else if (word < KEYWORD_COUNT) {
                    keywords[word] = code;
                    word++;
                    code = 0;
                }
            }
        }

        int size() {
            return size;
        }

        int kindAt(int token) {
            return token >= 0 && token < size && token <= TOKENS_MAX ? kinds[token] : END;
        }

        int startAt(int token) {
            return has(token) ? starts[token] : NONE;
        }

        /** A name as a number, or what a number tells, or what setValue has put there. */
        long valueAt(int token) {
            return has(token) ? values[token] : 0;
        }

        int partnerOf(int token) {
            return has(token) ? partners[token] : 0;
        }

        void setValue(int token, long value) {
            if (has(token)) {
                values[token] = value;
            }
        }

        void setPartner(int token, int partner) {
            if (has(token)) {
                partners[token] = partner;
            }
        }

        void readFrom(Tape tape) {
            size = 0;
            int at = afterBlanks(tape, 0);
            for (int n = 0; n < TOKENS_MAX && at < tape.size(); n++) {
                int length = readToken(tape, at);
                if (length == 0) {
                    add(BAD, at, 0);
                    return;
                }
                at = afterBlanks(tape, at + length);
            }
            add(at < tape.size() ? BAD : END, at, 0);
        }

        private boolean has(int token) {
            return token >= 0 && token < size && token <= TOKENS_MAX;
        }

        private void add(int kind, int start, long value) {
            if (size >= 0 && size <= TOKENS_MAX) {
                kinds[size] = kind;
                starts[size] = start;
                values[size] = value;
                partners[size] = 0;
                size++;
            }
        }

        private static int afterBlanks(Tape tape, int from) {
            int at = from;
            for (int n = 0; n < TAPE_MAX && (tape.signAt(at) == ' ' || tape.signAt(at) == '\n'); n++) {
                at++;
            }
            return at;
        }

        /** Adds the token that begins there; returns its length, 0 if there is none. */
        private int readToken(Tape tape, int at) {
            int sign = tape.signAt(at);
            if (isLetter(sign)) {
                return readWord(tape, at);
            }
            if (isDigit(sign)) {
                return readNumber(tape, at);
            }
            if (sign < 0 || SYMBOLS.indexOf((char) sign) < 0) {
                return 0;
            }
            if ((sign == '<' || sign == '>') && tape.signAt(at + 1) == '=') {
                add(sign == '<' ? AT_MOST : AT_LEAST, at, 0);
                return 2;
            }
            add(sign, at, 0);
            return 1;
        }

        private int readWord(Tape tape, int at) {
            long code = 0;
            int length = 0;
            for (int n = 0; n <= WORD_MAX && signNumber(tape.signAt(at + n)) > 0; n++) {
                code = code * SIGN_NUMBERS + signNumber(tape.signAt(at + n));
                length++;
            }
            if (length > WORD_MAX) {
                return 0;
            }
            add(wordKind(code), at, code);
            return length;
        }

        private int readNumber(Tape tape, int at) {
            long value = 0;
            int length = 0;
            for (int n = 0; n <= NUMBER_MAX && isDigit(tape.signAt(at + n)); n++) {
                value = value * 10 + tape.signAt(at + n) - '0';
                length++;
            }
            if (length > NUMBER_MAX) {
                return 0;
            }
            add(NUMBER, at, value);
            return length;
        }

        private int wordKind(long code) {
            for (int i = 0; i < KEYWORD_COUNT; i++) {
                if (keywords[i] == code) {
                    return PIER + i;
                }
            }
            return NAME;
        }

        private static boolean isLetter(int sign) {
            return sign >= 'a' && sign <= 'z';
        }

        private static boolean isDigit(int sign) {
            return sign >= '0' && sign <= '9';
        }

        /** 1 to 26 for letters, 27 to 36 for digits, else 0. */
        private static int signNumber(int sign) {
            if (isLetter(sign)) {
                return sign - 'a' + 1;
            }
            return isDigit(sign) ? sign - '0' + 27 : 0;
        }
    }

    /** Whether the tokens are a design or a script; if not, place() is the first token that does not go on. */
    private static final class Grammar {
        private final Tokens tokens;
        private int at = 0;

        Grammar(Tokens tokens) {
            this.tokens = tokens;
        }

        int place() {
            return at;
        }

        boolean isDesign() {
            at = 0;
            for (int n = 0; n < TOKENS_MAX && tokens.kindAt(at) != END; n++) {
                if (!isPart()) {
                    return false;
                }
            }
            return tokens.kindAt(at) == END;
        }

        boolean isScript() {
            at = 0;
            return isStatements(0) && tokens.kindAt(at) == END;
        }

        private boolean goesOn(int kind) {
            if (tokens.kindAt(at) != kind) {
                return false;
            }
            at++;
            return true;
        }

        /** Goes on with a token behind which the depth is one greater. */
        private boolean opens(int kind, int depth) {
            return depth < DEPTH_MAX && goesOn(kind);
        }

        private boolean isPart() {
            if (goesOn(CARD)) {
                return goesOn(NAME) && goesOn(FROM) && goesOn(NAME) && goesOn(TO) && goesOn(NAME)
                        && goesOn(BEARS) && goesOn(NUMBER) && goesOn(';');
            }
            return (goesOn(PIER) || goesOn(JOINT)) && goesOn(NAME) && goesOn(';');
        }

        private boolean isStatements(int depth) {
            for (int n = 0; n < TOKENS_MAX && tokens.kindAt(at) != ']' && tokens.kindAt(at) != END; n++) {
                if (!isStatement(depth)) {
                    return false;
                }
            }
            return true;
        }

        private boolean isStatement(int depth) {
            if (goesOn(PUT) || goesOn(TAKE)) {
                return goesOn(NAME) && isSum(depth) && goesOn(';');
            }
            if (goesOn(CUT) || goesOn(GLUE)) {
                return goesOn(NAME) && goesOn(';');
            }
            if (goesOn(WRITE)) {
                return isSum(depth) && goesOn(';');
            }
            if (goesOn(REPEAT)) {
                return goesOn(NUMBER) && isBlock(depth);
            }
            return goesOn(IF) && isTest(depth) && isBlock(depth) && (!goesOn(ELSE) || isBlock(depth));
        }

        private boolean isBlock(int depth) {
            int open = at;
            if (!opens('[', depth) || !isStatements(depth + 1)) {
                return false;
            }
            tokens.setPartner(open, at);
            return goesOn(']');
        }

        private boolean isTest(int depth) {
            boolean is = isBoth(depth);
            for (int n = 0; n < TOKENS_MAX && is && goesOn(OR); n++) {
                is = isBoth(depth);
            }
            return is;
        }

        private boolean isBoth(int depth) {
            boolean is = isSingle(depth);
            for (int n = 0; n < TOKENS_MAX && is && goesOn(AND); n++) {
                is = isSingle(depth);
            }
            return is;
        }

        private boolean isSingle(int depth) {
            switch (tokens.kindAt(at)) {
                case NOT:
                    return opens(NOT, depth) && isSingle(depth + 1);
                case '{':
                    return opens('{', depth) && isTest(depth + 1) && goesOn('}');
                case HOLDS:
                    return goesOn(HOLDS);
                case HANGS:
                    return goesOn(HANGS) && goesOn(NAME);
                default:
                    return isSum(depth) && isComparison() && isSum(depth);
            }
        }

        private boolean isComparison() {
            return goesOn('<') || goesOn('>') || goesOn('=') || goesOn(AT_MOST) || goesOn(AT_LEAST);
        }

        private boolean isSum(int depth) {
            boolean is = isProduct(depth);
            for (int n = 0; n < TOKENS_MAX && is && (goesOn('+') || goesOn('-')); n++) {
                is = isProduct(depth);
            }
            return is;
        }

        private boolean isProduct(int depth) {
            boolean is = isValue(depth);
            for (int n = 0; n < TOKENS_MAX && is && (goesOn('*') || goesOn('/')); n++) {
                is = isValue(depth);
            }
            return is;
        }

        private boolean isValue(int depth) {
            switch (tokens.kindAt(at)) {
                case LOAD:
                    return goesOn(LOAD) && goesOn(NAME);
                case '-':
                    return opens('-', depth) && isValue(depth + 1);
                case '(':
                    return opens('(', depth) && isSum(depth + 1) && goesOn(')');
                case MIN:
                case MAX:
                    at++;
                    return opens('(', depth) && isSum(depth + 1) && goesOn(',') && isSum(depth + 1) && goesOn(')');
                default:
                    return goesOn(NUMBER) || goesOn(BEARS) || goesOn(ALL) || goesOn(FITS);
            }
        }
    }

    /** Looks at names and numbers of tokens that keep the grammar; place() is the token of the error found. */
    private static final class Names {
        private final Tokens tokens;
        private int at = 0;

        Names(Tokens tokens) {
            this.tokens = tokens;
        }

        int place() {
            return at;
        }

        /** Fills the draft with the design, till there is an error. */
        int designError(Bridge draft) {
            draft.empty();
            int error = NO_ERROR;
            for (int n = 0; n < tokens.size() && error == NO_ERROR; n++) {
                at = n;
                error = designErrorHere(draft);
            }
            return error;
        }

        private int designErrorHere(Bridge draft) {
            int kind = tokens.kindAt(at);
            int before = tokens.kindAt(at - 1);
            long value = tokens.valueAt(at);
            if (kind == NUMBER) {
                return draft.bearLastCard(value) ? NO_ERROR : ERROR_RANGE;
            }
            if (kind != NAME) {
                return NO_ERROR;
            }
            if (before == FROM || before == TO) {
                return endError(draft, draft.jointNamed(value), before == FROM);
            }
            boolean isCard = before == CARD;
            int known = isCard ? draft.cardNamed(value) : draft.jointNamed(value);
            if (known != NONE) {
                return ERROR_TWICE;
            }
            boolean isAdded = isCard ? draft.addCard(value) : draft.addJoint(value, before == PIER);
            return isAdded ? NO_ERROR : ERROR_TOO_MANY;
        }

        private static int endError(Bridge draft, int joint, boolean isFrom) {
            if (joint == NONE) {
                return ERROR_UNKNOWN;
            }
            return draft.joinLastCard(joint, isFrom) ? NO_ERROR : ERROR_SAME_END;
        }

        /** Puts the joint's or card's number in the place of each name, till there is an error. */
        int scriptError(Bridge bridge) {
            int error = NO_ERROR;
            for (int n = 0; n < tokens.size() && error == NO_ERROR; n++) {
                at = n;
                error = scriptErrorHere(bridge);
            }
            return error;
        }

        private int scriptErrorHere(Bridge bridge) {
            int kind = tokens.kindAt(at);
            int before = tokens.kindAt(at - 1);
            long value = tokens.valueAt(at);
            if (kind == NUMBER) {
                return before == REPEAT && value > REPEAT_MAX ? ERROR_RANGE : NO_ERROR;
            }
            if (kind != NAME) {
                return NO_ERROR;
            }
            int known = before == CUT || before == GLUE ? bridge.cardNamed(value) : bridge.jointNamed(value);
            if (known == NONE) {
                return ERROR_UNKNOWN;
            }
            tokens.setValue(at, known);
            return NO_ERROR;
        }
    }

    /** Joints and cards, with their loads, cuts and beams. */
    private static final class Bridge {
        private final long[] jointNames = new long[JOINTS_MAX];
        private final int[] loads = new int[JOINTS_MAX];
        private final long[] cardNames = new long[CARDS_MAX];
        private final int[] froms = new int[CARDS_MAX];
        private final int[] tos = new int[CARDS_MAX];
        private final int[] bearings = new int[CARDS_MAX];
        private int joints = 0;
        private int cards = 0;
        private int piers = 0;
        private int cutCards = 0;
        private int beams = 0;

        int joints() {
            return joints;
        }

        int cards() {
            return cards;
        }

        int piers() {
            return piers;
        }

        int cutCards() {
            return cutCards;
        }

        int beams() {
            return beams;
        }

        boolean hasJoint(int joint) {
            return joint >= 0 && joint < joints && joint < JOINTS_MAX;
        }

        boolean hasCard(int card) {
            return card >= 0 && card < cards && card < CARDS_MAX;
        }

        boolean isPier(int joint) {
            return hasJoint(joint) && isIn(joint, piers);
        }

        // What is asked of the bridge deep inside a reckoning tests its number by itself: calls go at most eight deep.
        int loadOf(int joint) {
            return joint >= 0 && joint < joints && joint < JOINTS_MAX ? loads[joint] : 0;
        }

        void setLoad(int joint, int load) {
            if (hasJoint(joint)) {
                loads[joint] = load;
            }
        }

        int allLoads() {
            int all = 0;
            for (int j = 0; j < JOINTS_MAX; j++) {
                all += loadOf(j);
            }
            return all;
        }

        int fromOf(int card) {
            return card >= 0 && card < cards && card < CARDS_MAX ? froms[card] : NONE;
        }

        int toOf(int card) {
            return card >= 0 && card < cards && card < CARDS_MAX ? tos[card] : NONE;
        }

        int bearingOf(int card) {
            return card >= 0 && card < cards && card < CARDS_MAX ? bearings[card] : 0;
        }

        void setCut(int card, boolean isCut) {
            if (hasCard(card)) {
                cutCards = isCut ? cutCards | 1 << card : cutCards & ~(1 << card);
            }
        }

        void turnBeam(int card) {
            if (hasCard(card)) {
                beams ^= 1 << card;
            }
        }

        int wholeCardsAt(int joint) {
            int at = 0;
            for (int c = 0; c < CARDS_MAX; c++) {
                if (!isIn(c, cutCards) && (fromOf(c) == joint || toOf(c) == joint)) {
                    at++;
                }
            }
            return at;
        }

        boolean isHanging(int joint) {
            int found = hasJoint(joint) ? 1 << joint : 0;
            // A way has fewer cards than there are joints, and each round finds one card more of it.
            for (int n = 0; n < JOINTS_MAX; n++) {
                for (int c = 0; c < CARDS_MAX; c++) {
                    if (hasCard(c) && !isIn(c, cutCards) && (isIn(froms[c], found) || isIn(tos[c], found))) {
                        found |= 1 << froms[c] | 1 << tos[c];
                    }
                }
            }
            return (found & piers) != 0;
        }

        int jointNamed(long name) {
            for (int j = 0; j < JOINTS_MAX; j++) {
                if (j < joints && jointNames[j] == name) {
                    return j;
                }
            }
            return NONE;
        }

        int cardNamed(long name) {
            for (int c = 0; c < CARDS_MAX; c++) {
                if (c < cards && cardNames[c] == name) {
                    return c;
                }
            }
            return NONE;
        }

        void empty() {
            joints = 0;
            cards = 0;
            piers = 0;
            cutCards = 0;
            beams = 0;
        }

        boolean addJoint(long name, boolean isPier) {
            if (joints < 0 || joints >= JOINTS_MAX) {
                return false;
            }
            jointNames[joints] = name;
            loads[joints] = 0;
            if (isPier) {
                piers |= 1 << joints;
            }
            joints++;
            return true;
        }

        boolean addCard(long name) {
            if (cards < 0 || cards >= CARDS_MAX) {
                return false;
            }
            cardNames[cards] = name;
            froms[cards] = NONE;
            tos[cards] = NONE;
            bearings[cards] = 0;
            cards++;
            return true;
        }

        /** Tells an end of the latest card; false if it is its other end already. */
        boolean joinLastCard(int joint, boolean isFrom) {
            int last = cards - 1;
            if (!hasCard(last) || !isFrom && froms[last] == joint) {
                return false;
            }
            if (isFrom) {
                froms[last] = joint;
            } else {
                tos[last] = joint;
            }
            return true;
        }

        /** Tells what the latest card bears; false if no card bears so much or so little. */
        boolean bearLastCard(long bearing) {
            int last = cards - 1;
            if (!hasCard(last) || bearing < 1 || bearing > BEARS_MAX) {
                return false;
            }
            bearings[last] = (int) bearing;
            return true;
        }

        void copyFrom(Bridge other) {
            for (int j = 0; j < JOINTS_MAX; j++) {
                jointNames[j] = other.jointNames[j];
                loads[j] = other.loads[j];
            }
            for (int c = 0; c < CARDS_MAX; c++) {
                cardNames[c] = other.cardNames[c];
                froms[c] = other.froms[c];
                tos[c] = other.tos[c];
                bearings[c] = other.bearings[c];
            }
            joints = other.joints;
            cards = other.cards;
            piers = other.piers;
            cutCards = other.cutCards;
            beams = other.beams;
        }
    }

    /** How loads come to piers: the greatest flow along the cards, a way at a time, and what follows from it. */
    private static final class Flow {
        private final Bridge bridge;
        /** What can still go along each card from its from to its to, and the other way. */
        private final int[] forth = new int[CARDS_MAX];
        private final int[] back = new int[CARDS_MAX];
        private final int[] froms = new int[CARDS_MAX];
        private final int[] tos = new int[CARDS_MAX];
        /** The loads that have not come to piers yet. */
        private final int[] left = new int[JOINTS_MAX];
        private final int[] queue = new int[JOINTS_MAX];
        private final int[] via = new int[JOINTS_MAX];
        private int queued = 0;
        private int reached = 0;
        private int goal = NONE;

        Flow(Bridge bridge) {
            this.bridge = bridge;
        }

        int borne() {
            return bridge.allLoads() - notBorne(0, bridge.cutCards(), NONE, 0);
        }

        /** How much does not come to piers with these beams and cuts, and this load of one joint (NONE: all as they are). */
        int notBorne(int beams, int cutCards, int joint, int load) {
            layCards(beams, cutCards);
            putLoads(joint, load);
            // Each way takes at least 1 of the loads along.
            for (int n = 0; n < LOADS_MAX && findsWay(); n++) {
                sendAlongWay();
            }
            int sum = 0;
            for (int j = 0; j < JOINTS_MAX; j++) {
                sum += left[j];
            }
            return sum;
        }

        /** The greatest load of a joint with which the bridge holds with these beams; -1 if there is none. */
        int greatestLoad(int joint, int beams) {
            if (notBorne(beams, bridge.cutCards(), joint, 0) > 0) {
                return NONE;
            }
            // The other loads hold, so what is missing with the greatest load is missing from this joint alone.
            return LOAD_MAX - notBorne(beams, bridge.cutCards(), joint, LOAD_MAX);
        }

        int cardsToBlame() {
            if (notBorne(0, bridge.cutCards(), NONE, 0) == 0) {
                return 0;
            }
            // What the last, vain search for a way reached is the least of the sets that let too little out.
            int blamed = 0;
            for (int c = 0; c < CARDS_MAX; c++) {
                boolean isWhole = bridge.hasCard(c) && !isIn(c, bridge.cutCards());
                if (isWhole && isIn(froms[c], reached) != isIn(tos[c], reached)) {
                    blamed |= 1 << c;
                }
            }
            return blamed;
        }

        int fewestToCut() {
            if (notBorne(0, bridge.cutCards(), NONE, 0) > 0) {
                return 0;
            }
            int used = usedCards();
            for (int size = 1; size <= REMOVAL_MAX; size++) {
                int least = leastToCut(size, used);
                if (least != NONE) {
                    return least;
                }
            }
            return NONE;
        }

        /** Sets without a card that is used now are passed over: without them the loads come along as they do now. */
        private int leastToCut(int size, int used) {
            for (int set = 1; set < 1 << CARDS_MAX && set >> bridge.cards() == 0; set++) {
                if (Integer.bitCount(set) == size && (set & used) != 0 && (set & bridge.cutCards()) == 0
                        && notBorne(0, bridge.cutCards() | set, NONE, 0) > 0) {
                    return set;
                }
            }
            return NONE;
        }

        private int usedCards() {
            int used = 0;
            for (int c = 0; c < CARDS_MAX; c++) {
                if (forth[c] != back[c]) {
                    used |= 1 << c;
                }
            }
            return used;
        }

        private void layCards(int beams, int cutCards) {
            for (int c = 0; c < CARDS_MAX; c++) {
                int room = bridge.bearingOf(c);
                if (isIn(c, beams)) {
                    room += BEAM_BEARS;
                }
                if (isIn(c, cutCards) || !bridge.hasCard(c)) {
                    room = 0;
                }
                forth[c] = room;
                back[c] = room;
                froms[c] = bridge.fromOf(c);
                tos[c] = bridge.toOf(c);
            }
        }

        private void putLoads(int joint, int load) {
            for (int j = 0; j < JOINTS_MAX; j++) {
                int there = j == joint ? load : bridge.loadOf(j);
                left[j] = isIn(j, bridge.piers()) ? 0 : there;
            }
        }

        /** Looks for a shortest way from a joint with something left to a pier. */
        private boolean findsWay() {
            reached = 0;
            queued = 0;
            for (int j = 0; j < JOINTS_MAX; j++) {
                if (left[j] > 0) {
                    reach(j, NONE);
                }
            }
            for (int n = 0; n < JOINTS_MAX && n < queued; n++) {
                for (int c = 0; c < CARDS_MAX; c++) {
                    int next = ahead(c, queue[n]);
                    if (next != NONE && !isIn(next, reached)) {
                        reach(next, c);
                        if (isIn(next, bridge.piers())) {
                            goal = next;
                            return true;
                        }
                    }
                }
            }
            return false;
        }

        private void reach(int joint, int card) {
            if (joint >= 0 && joint < JOINTS_MAX && queued >= 0 && queued < JOINTS_MAX) {
                reached |= 1 << joint;
                via[joint] = card;
                queue[queued] = joint;
                queued++;
            }
        }

        /** The joint to which something can still go along a card from a joint; NONE if nothing can. */
        private int ahead(int card, int joint) {
            if (card < 0 || card >= CARDS_MAX) {
                return NONE;
            }
            if (froms[card] == joint) {
                return forth[card] > 0 ? tos[card] : NONE;
            }
            if (tos[card] == joint) {
                return back[card] > 0 ? froms[card] : NONE;
            }
            return NONE;
        }

        private void sendAlongWay() {
            int amount = LOAD_MAX;
            int root = goal;
            int card = cardTo(root);
            for (int n = 0; n < JOINTS_MAX && card != NONE; n++) {
                amount = Math.min(amount, roomTo(root, card));
                root = otherEnd(root, card);
                card = cardTo(root);
            }
            if (root < 0 || root >= JOINTS_MAX) {
                return;
            }
            amount = Math.min(amount, left[root]);
            left[root] -= amount;
            int at = goal;
            card = cardTo(at);
            for (int n = 0; n < JOINTS_MAX && card != NONE; n++) {
                sendTo(at, card, amount);
                at = otherEnd(at, card);
                card = cardTo(at);
            }
        }

        /** The card by which the search came to a joint. */
        private int cardTo(int joint) {
            return joint >= 0 && joint < JOINTS_MAX ? via[joint] : NONE;
        }

        private int otherEnd(int joint, int card) {
            if (card < 0 || card >= CARDS_MAX) {
                return NONE;
            }
            return tos[card] == joint ? froms[card] : tos[card];
        }

        private int roomTo(int joint, int card) {
            if (card < 0 || card >= CARDS_MAX) {
                return 0;
            }
            return tos[card] == joint ? forth[card] : back[card];
        }

        private void sendTo(int joint, int card, int amount) {
            if (card < 0 || card >= CARDS_MAX) {
                return;
            }
            int along = tos[card] == joint ? amount : -amount;
            forth[card] -= along;
            back[card] += along;
        }
    }

    /** The sets of beams that fit all tests that are kept, the least first. */
    private static final class Guesses {
        private final Bridge bridge;
        private final Flow flow;
        private final int[] sets = new int[SETS_MAX];
        /** The greatest load of a joint with each of the sets; a row for the call that needs it. */
        private final int[] greatest = new int[SETS_MAX];
        private int size = 0;
        private int tests = 0;

        Guesses(Bridge bridge, Flow flow) {
            this.bridge = bridge;
            this.flow = flow;
        }

        int size() {
            return size;
        }

        int tests() {
            return tests;
        }

        int setAt(int index) {
            return index >= 0 && index < size && index < SETS_MAX ? sets[index] : 0;
        }

        void forgetTests() {
            tests = 0;
            size = 0;
            for (int set = 0; set < 1 << CARDS_MAX && set >> bridge.cards() == 0; set++) {
                if (Integer.bitCount(set) <= BEAMS_MAX) {
                    add(set);
                }
            }
        }

        /** Tells whether the bridge holds; a test that is kept leaves only the sets that tell the same. */
        boolean testBridge() {
            boolean isHeld = flow.notBorne(bridge.beams(), bridge.cutCards(), NONE, 0) == 0;
            if (tests < TESTS_MAX) {
                tests++;
                int before = size;
                size = 0;
                for (int i = 0; i < SETS_MAX && i < before; i++) {
                    int set = sets[i];
                    boolean wouldHold = flow.notBorne(set, bridge.cutCards(), NONE, 0) == 0;
                    if (wouldHold == isHeld) {
                        add(set);
                    }
                }
            }
            return isHeld;
        }

        int setsWith(int card) {
            int with = 0;
            for (int i = 0; i < SETS_MAX && i < size; i++) {
                if (isIn(card, sets[i])) {
                    with++;
                }
            }
            return with;
        }

        int setsLeft(int joint, int load, boolean isHeld) {
            int left = 0;
            for (int i = 0; i < SETS_MAX && i < size; i++) {
                boolean wouldHold = flow.notBorne(sets[i], bridge.cutCards(), joint, load) == 0;
                if (wouldHold == isHeld) {
                    left++;
                }
            }
            return left;
        }

        int tellingLoad(int joint) {
            reckonGreatest(joint);
            int best = 0;
            int fewest = SETS_MAX + 1;
            for (int load = 0; load <= LOAD_MAX; load++) {
                int held = setsHolding(load);
                int worse = Math.max(held, size - held);
                if (worse < fewest) {
                    fewest = worse;
                    best = load;
                }
            }
            return best;
        }

        int safeLoad(int joint) {
            reckonGreatest(joint);
            int least = size == 0 ? NONE : LOAD_MAX;
            for (int i = 0; i < SETS_MAX && i < size; i++) {
                least = Math.min(least, greatest[i]);
            }
            return least;
        }

        /** A bridge that holds with a load holds with a smaller one too, so one number a set tells of all loads. */
        private void reckonGreatest(int joint) {
            for (int i = 0; i < SETS_MAX && i < size; i++) {
                greatest[i] = flow.greatestLoad(joint, sets[i]);
            }
        }

        private int setsHolding(int load) {
            int holding = 0;
            for (int i = 0; i < SETS_MAX && i < size; i++) {
                if (greatest[i] >= load) {
                    holding++;
                }
            }
            return holding;
        }

        private void add(int set) {
            if (size >= 0 && size < SETS_MAX) {
                sets[size] = set;
                size++;
            }
        }
    }

    /** Carries a script out straight from its tokens, which keep the grammar and have numbers for names. */
    private static final class Script {
        private final Tokens tokens;
        private final Bridge bridge;
        private final Flow flow;
        private final Guesses guesses;
        private final Paper paper;
        private int at = 0;
        private int statements = 0;

        Script(Tokens tokens, Bridge bridge, Flow flow, Guesses guesses, Paper paper) {
            this.tokens = tokens;
            this.bridge = bridge;
            this.flow = flow;
            this.guesses = guesses;
            this.paper = paper;
        }

        /** The token of the statement that was one too many, if carriesOut() was false. */
        int place() {
            return at;
        }

        int statementsCarriedOut() {
            return statements;
        }

        /** False if there were too many statements. */
        boolean carriesOut() {
            at = 0;
            statements = 0;
            return carriesOutTo(tokens.size() - 1, 0);
        }

        private boolean carriesOutTo(int end, int depth) {
            if (depth > DEPTH_MAX) {
                return false;
            }
            for (int n = 0; n < TOKENS_MAX && at < end; n++) {
                if (statements >= STATEMENTS_MAX) {
                    return false;
                }
                statements++;
                if (!carriesOutOne(depth)) {
                    return false;
                }
            }
            return true;
        }

        private boolean carriesOutOne(int depth) {
            int keyword = tokens.kindAt(at);
            at++;
            if (keyword == REPEAT) {
                return repeats(depth);
            }
            if (keyword == IF) {
                return branches(depth);
            }
            if (keyword == WRITE) {
                paper.writeLine(sum(depth));
            } else {
                change(keyword, depth);
            }
            at++;
            return true;
        }

        private void change(int keyword, int depth) {
            int number = nextNumber();
            if (keyword == CUT || keyword == GLUE) {
                bridge.setCut(number, keyword == CUT);
                return;
            }
            long more = sum(depth);
            long load = bridge.loadOf(number) + (keyword == TAKE ? -more : more);
            bridge.setLoad(number, (int) Math.max(0L, Math.min(LOAD_MAX, load)));
        }

        private boolean repeats(int depth) {
            int times = nextNumber();
            int open = at;
            for (int n = 0; n < REPEAT_MAX && n < times; n++) {
                if (!carriesOutBlock(open, depth)) {
                    return false;
                }
            }
            at = tokens.partnerOf(open) + 1;
            return true;
        }

        private boolean branches(int depth) {
            boolean isSo = isTrue(depth);
            int open = at;
            int close = tokens.partnerOf(open);
            if (isSo && !carriesOutBlock(open, depth)) {
                return false;
            }
            at = close + 1;
            if (tokens.kindAt(at) == ELSE) {
                open = at + 1;
                close = tokens.partnerOf(open);
                if (!isSo && !carriesOutBlock(open, depth)) {
                    return false;
                }
                at = close + 1;
            }
            return true;
        }

        private boolean carriesOutBlock(int open, int depth) {
            at = open + 1;
            return carriesOutTo(tokens.partnerOf(open), depth + 1);
        }

        private boolean isTrue(int depth) {
            boolean is = areBothTrue(depth);
            for (int n = 0; n < TOKENS_MAX && tokens.kindAt(at) == OR; n++) {
                at++;
                // Both sides are looked at, as a test in the right one is kept.
                boolean isRight = areBothTrue(depth);
                is = is || isRight;
            }
            return is;
        }

        private boolean areBothTrue(int depth) {
            boolean is = isSingleTrue(depth);
            for (int n = 0; n < TOKENS_MAX && tokens.kindAt(at) == AND; n++) {
                at++;
                boolean isRight = isSingleTrue(depth);
                is = is && isRight;
            }
            return is;
        }

        private boolean isSingleTrue(int depth) {
            if (depth > DEPTH_MAX) {
                return false;
            }
            switch (tokens.kindAt(at)) {
                case NOT:
                    at++;
                    return !isSingleTrue(depth + 1);
                case '{':
                    return isTrueInside(depth);
                case HOLDS:
                    at++;
                    return guesses.testBridge();
                case HANGS:
                    at++;
                    return bridge.isHanging(nextNumber());
                default:
                    int one = sum(depth);
                    int comparison = tokens.kindAt(at);
                    at++;
                    return isSo(one, comparison, sum(depth));
            }
        }

        private boolean isTrueInside(int depth) {
            at++;
            boolean is = isTrue(depth + 1);
            at++;
            return is;
        }

        private static boolean isSo(int one, int comparison, int other) {
            switch (comparison) {
                case '<':
                    return one < other;
                case '>':
                    return one > other;
                case AT_MOST:
                    return one <= other;
                case AT_LEAST:
                    return one >= other;
                default:
                    return one == other;
            }
        }

        private int sum(int depth) {
            int sum = product(depth);
            for (int n = 0; n < TOKENS_MAX && (tokens.kindAt(at) == '+' || tokens.kindAt(at) == '-'); n++) {
                boolean isPlus = tokens.kindAt(at) == '+';
                at++;
                int next = product(depth);
                sum = isPlus ? sum + next : sum - next;
            }
            return sum;
        }

        private int product(int depth) {
            int product = value(depth);
            for (int n = 0; n < TOKENS_MAX && (tokens.kindAt(at) == '*' || tokens.kindAt(at) == '/'); n++) {
                boolean isTimes = tokens.kindAt(at) == '*';
                at++;
                int next = value(depth);
                product = isTimes ? product * next : quotient(product, next);
            }
            return product;
        }

        private static int quotient(int left, int right) {
            return right == 0 ? 0 : left / right;
        }

        private int value(int depth) {
            if (depth > DEPTH_MAX) {
                return 0;
            }
            int kind = tokens.kindAt(at);
            if (kind == NUMBER) {
                return nextNumber();
            }
            at++;
            switch (kind) {
                case LOAD:
                    return bridge.loadOf(nextNumber());
                case BEARS:
                    return bridge.allLoads() - flow.notBorne(0, bridge.cutCards(), NONE, 0);
                case ALL:
                    return bridge.allLoads();
                case FITS:
                    return guesses.size();
                case '-':
                    return -value(depth + 1);
                case '(':
                    return sumInside(depth);
                default:
                    return chosen(kind, depth);
            }
        }

        /** Goes on behind the ( of a sum. */
        private int sumInside(int depth) {
            int inside = sum(depth + 1);
            at++;
            return inside;
        }

        /** Goes on behind a min or max. */
        private int chosen(int kind, int depth) {
            at++;
            int one = sum(depth + 1);
            at++;
            int other = sum(depth + 1);
            at++;
            return kind == MIN ? Math.min(one, other) : Math.max(one, other);
        }

        private int nextNumber() {
            int number = (int) tokens.valueAt(at);
            at++;
            return number;
        }
    }
}
