/** A playbook of masks: plays that are stepped by hand, and by notes from evening to evening. */
public final class MaskPlays {

    private static final int MOST_BYTES = 2000;
    private static final int FED_BYTES = 20;
    private static final int MOST_TOKENS = 400;
    private static final int MOST_SIGNS = 10;
    private static final int MOST_DIGITS = 6;
    private static final int MOST_DEPTH = 8;
    private static final int MOST_ACTORS = 8;
    private static final int MOST_PLAYS = 12;
    private static final int MOST_NOTES = 16;
    private static final int MOST_PARTS = 150;
    private static final int MOST_STEPS = 40;
    private static final int MOST_EVENINGS = 20;

    /** The longest text of one part: a mask, with its name and the signs around it. */
    private static final int MOST_LETTERS = 7 + MOST_SIGNS;

    // The kinds of tokens. Those of keywords are their places in KEYWORDS, those of symbols follow
    // in the order of SYMBOLS; the code of tests uses the same numbers for what it does.
    private static final String KEYWORDS =
            "actor play is mask step give to renew when evening size masks steps finished same not and or min max";
    private static final int ACTOR = 0;
    private static final int PLAY = 1;
    private static final int IS = 2;
    private static final int MASK = 3;
    private static final int STEP = 4;
    private static final int GIVE = 5;
    private static final int TO = 6;
    private static final int RENEW = 7;
    private static final int WHEN = 8;
    private static final int EVENING = 9;
    private static final int SIZE = 10;
    private static final int MASKS = 11;
    private static final int STEPS = 12;
    private static final int FINISHED = 13;
    private static final int SAME = 14;
    private static final int NOT = 15;
    private static final int AND = 16;
    private static final int OR = 17;
    private static final int MIN = 18;
    private static final int MAX = 19;
    private static final int COUNT_OF_KEYWORDS = 20;
    private static final String SYMBOLS = "()[];,+-*/<>=";
    private static final int OPEN = 20;
    private static final int CLOSE = 21;
    private static final int OPEN_SQUARE = 22;
    private static final int CLOSE_SQUARE = 23;
    private static final int SEMICOLON = 24;
    private static final int COMMA = 25;
    private static final int PLUS = 26;
    private static final int MINUS = 27;
    private static final int TIMES = 28;
    private static final int OVER = 29;
    private static final int LESS = 30;
    private static final int MORE = 31;
    private static final int EQUAL = 32;
    private static final int AT_MOST = 33;
    private static final int AT_LEAST = 34;
    private static final int NAME = 35;
    private static final int NUMBER = 36;
    private static final int END = 37;
    private static final int NO_TOKEN = 38;
    /** Only in the code of tests, where it has to be told from the difference. */
    private static final int NEGATE = 39;

    private final byte[] tape;
    private int tapeLength = 0;
    private int errorPlace = -1;
    private final Tokens tokens;
    private final Grammar grammar;
    private final Telling telling;
    /** What was told last. */
    private Book book = new Book();
    /** The one into which is read: so that all stays if there is an error. */
    private Book spare;
    private final Step step;
    private final Stage stage;
    /** A copy of the stage for evenings that only would be. */
    private final Stage trial;
    private final Part tried = new Part();
    private final Part alsoTried = new Part();
    private final Text text = new Text();

    public MaskPlays() {
        // What several share goes to them as a local: nothing is taken out of an object half made.
        byte[] bytes = new byte[MOST_BYTES];
        Tokens reading = new Tokens(bytes);
        Book empty = new Book();
        Step taking = new Step();
        tape = bytes;
        tokens = reading;
        grammar = new Grammar(reading, empty);
        telling = new Telling(reading, empty);
        spare = empty;
        step = taking;
        stage = new Stage(taking);
        trial = new Stage(taking);
    }

    // ---- the language

    public int feed(int a, int b, int c, int d, int e) throws IllegalStateException {
        if (tapeLength + FED_BYTES > MOST_BYTES) {
            throw new IllegalStateException("the tape would be too long");
        }
        appendBytes(a);
        appendBytes(b);
        appendBytes(c);
        appendBytes(d);
        appendBytes(e);
        return tapeLength;
    }

    private void appendBytes(int number) {
        for (int shift = 24; shift >= 0; shift -= 8) {
            if (tapeLength >= 0 && tapeLength < tape.length) {
                tape[tapeLength] = (byte) (number >> shift);
                tapeLength++;
            }
        }
    }

    public int trim(int n) throws IllegalArgumentException {
        if (n < 0 || n > tapeLength) {
            throw new IllegalArgumentException("the tape has not so many bytes");
        }
        tapeLength = n;
        return n;
    }

    public int teach() {
        tokens.read(tapeLength);
        tapeLength = 0;
        spare.clear();
        int wrongToken = grammar.firstWrongToken(spare);
        int error = 1;
        if (wrongToken < 0) {
            error = telling.firstError(spare);
            wrongToken = telling.place();
        }
        if (error != 0) {
            errorPlace = tokens.placeAt(wrongToken);
            return error;
        }
        errorPlace = -1;
        Book told = spare;
        spare = book;
        book = told;
        stage.begin(book);
        return 0;
    }

    public int errorAt() {
        return errorPlace;
    }

    // ---- the playbook

    public int actors() {
        return book.actorCount;
    }

    public int plays() {
        return book.playCount;
    }

    public int notes() {
        return book.noteCount;
    }

    public int evenings() {
        return stage.eveningCount;
    }

    public int notesCarriedOut() {
        return stage.carriedOut;
    }

    public int tapeBytes() {
        return tapeLength;
    }

    // ---- what a play is

    public int sizeOf(int play) throws IndexOutOfBoundsException {
        return partOf(play).size;
    }

    public int masksIn(int play) throws IndexOutOfBoundsException {
        return partOf(play).countOf(Part.A_MASK);
    }

    public int scenesIn(int play) throws IndexOutOfBoundsException {
        return partOf(play).countOf(Part.A_SCENE);
    }

    public int mostMasksAround(int play) throws IndexOutOfBoundsException {
        return partOf(play).mostMasks();
    }

    public int standsIn(int play, int actor) throws IndexOutOfBoundsException {
        Part part = partOf(play);
        if (actor < 0 || actor >= book.actorCount) {
            throw new IndexOutOfBoundsException("there is no such actor");
        }
        return part.countOfOpen(book.actorNameAt(actor));
    }

    public int stepsDone(int play) throws IndexOutOfBoundsException {
        checkPlay(play);
        return stage.stepsAt(play);
    }

    public boolean isFinished(int play) throws IndexOutOfBoundsException {
        return partOf(play).readyScene() < 0;
    }

    public boolean canStep(int play) throws IndexOutOfBoundsException {
        return step.canBeTaken(partOf(play));
    }

    public int textLength(int play) throws IndexOutOfBoundsException {
        text.write(partOf(play));
        return text.length;
    }

    public int letterAt(int play, int place) throws IndexOutOfBoundsException {
        text.write(partOf(play));
        if (place < 0 || place >= text.length) {
            throw new IndexOutOfBoundsException("there is no such place");
        }
        return text.letter(place);
    }

    public int nextSceneAt(int play) throws IndexOutOfBoundsException, IllegalStateException {
        Part part = partOf(play);
        int scene = part.readyScene();
        if (scene < 0) {
            throw new IllegalStateException("the play is finished");
        }
        text.write(part);
        return text.beginningOf(scene);
    }

    public int renamedByStep(int play) throws IndexOutOfBoundsException, IllegalStateException {
        tried.setTo(partOf(play));
        if (!step.take(tried)) {
            throw new IllegalStateException("the step cannot be done");
        }
        return step.renamed;
    }

    public boolean isSame(int a, int b) throws IndexOutOfBoundsException {
        return partOf(a).isLike(partOf(b));
    }

    public boolean isAsTold(int play) throws IndexOutOfBoundsException {
        return partOf(play).isLike(book.toldAt(play));
    }

    // ---- by hand

    public int doStep(int play) throws IndexOutOfBoundsException, IllegalStateException {
        Part part = partOf(play);
        if (!step.canBeTaken(part)) {
            throw new IllegalStateException("the step cannot be done");
        }
        stage.stepPlay(play);
        return part.size;
    }

    public int give(int play, int to) throws IndexOutOfBoundsException, IllegalStateException {
        Part given = partOf(play);
        Part part = partOf(to);
        if (!Part.fitInScene(part, given)) {
            throw new IllegalStateException("the play would have too many parts");
        }
        stage.givePlay(play, to);
        return part.size;
    }

    public int renew(int play) throws IndexOutOfBoundsException {
        Part part = partOf(play);
        part.setTo(book.toldAt(play));
        return part.size;
    }

    // ---- evenings and what would be

    public int passEvenings(int evenings) throws IllegalArgumentException {
        checkEvenings(evenings);
        int carried = 0;
        for (int n = 0; n < evenings; n++) {
            carried += stage.passEvening(book);
        }
        return carried;
    }

    public int stepsToFinish(int play) throws IndexOutOfBoundsException, IllegalStateException {
        tried.setTo(partOf(play));
        int steps = step.takeUntilFinished(tried, MOST_STEPS);
        if (steps < 0) {
            throw new IllegalStateException("the play is not finished so");
        }
        return steps;
    }

    public int sizeAfterSteps(int play, int steps)
            throws IndexOutOfBoundsException, IllegalArgumentException {
        Part part = partOf(play);
        if (steps < 0 || steps > MOST_STEPS) {
            throw new IllegalArgumentException("steps are 0 to 40");
        }
        tried.setTo(part);
        step.takeUpTo(tried, steps);
        return tried.size;
    }

    public boolean endSame(int a, int b) throws IndexOutOfBoundsException {
        Part first = partOf(a);
        Part second = partOf(b);
        tried.setTo(first);
        step.takeUpTo(tried, MOST_STEPS);
        alsoTried.setTo(second);
        step.takeUpTo(alsoTried, MOST_STEPS);
        return tried.isLike(alsoTried);
    }

    public int sizeAfterEvenings(int play, int evenings)
            throws IndexOutOfBoundsException, IllegalArgumentException {
        checkPlay(play);
        checkEvenings(evenings);
        trial.setTo(stage, book.playCount);
        for (int n = 0; n < evenings; n++) {
            trial.passEvening(book);
        }
        return trial.partAt(play).size;
    }

    public int eveningsUntilFinished(int play) throws IndexOutOfBoundsException {
        checkPlay(play);
        trial.setTo(stage, book.playCount);
        for (int n = 0; n < MOST_EVENINGS; n++) {
            if (trial.partAt(play).readyScene() < 0) {
                return n;
            }
            trial.passEvening(book);
        }
        return trial.partAt(play).readyScene() < 0 ? MOST_EVENINGS : -1;
    }

    public int bestGift(int play) throws IndexOutOfBoundsException {
        Part part = partOf(play);
        int best = -1;
        int fewest = MOST_STEPS + 1;
        for (int gift = 0; gift < book.playCount; gift++) {
            int steps = stepsWithGift(part, stage.partAt(gift), fewest - 1);
            if (steps >= 0) {
                best = gift;
                fewest = steps;
            }
        }
        return best;
    }

    private int stepsWithGift(Part part, Part gift, int mostSteps) {
        if (!Part.fitInScene(part, gift)) {
            return -1;
        }
        tried.setToScene(part, gift);
        return step.takeUntilFinished(tried, mostSteps);
    }

    public double meanSize() {
        int all = 0;
        for (int play = 0; play < book.playCount; play++) {
            all += stage.partAt(play).size;
        }
        return book.playCount > 0 ? (double) all / (double) book.playCount : 0.0;
    }

    public long digest() {
        long d = 941;
        d = d * 31 + actors();
        d = d * 31 + plays();
        d = d * 31 + notes();
        d = d * 31 + evenings();
        d = d * 31 + notesCarriedOut();
        d = d * 31 + tapeBytes();
        for (int play = 0; play < book.playCount; play++) {
            d = withPlay(d, play);
        }
        return d;
    }

    private long withPlay(long before, int play) {
        long d = before;
        d = d * 31 + sizeOf(play);
        d = d * 31 + masksIn(play);
        d = d * 31 + scenesIn(play);
        d = d * 31 + mostMasksAround(play);
        d = d * 31 + stepsDone(play);
        d = d * 31 + (isFinished(play) ? 1 : 0);
        d = d * 31 + (isAsTold(play) ? 1 : 0);
        d = d * 31 + textLength(play);
        for (int place = 0; place < text.length; place++) {
            d = d * 31 + text.letter(place);
        }
        for (int actor = 0; actor < book.actorCount; actor++) {
            d = d * 31 + standsIn(play, actor);
        }
        return d;
    }

    private void checkPlay(int play) {
        if (play < 0 || play >= book.playCount) {
            throw new IndexOutOfBoundsException("there is no such play");
        }
    }

    private Part partOf(int play) {
        checkPlay(play);
        return stage.partAt(play);
    }

    private void checkEvenings(int evenings) {
        if (evenings < 1 || evenings > MOST_EVENINGS) {
            throw new IllegalArgumentException("evenings are 1 to 20");
        }
    }

    /**
     * Names as numbers, six bits a sign and the first sign highest: so that two names are the same
     * if their numbers are, and no text is made for any of them.
     */
    static final class Words {
        private static final int BITS = 6;
        private static final int HIGHEST = BITS * (MOST_SIGNS - 1);

        /** The name with one more sign, a small letter or a digit. */
        static long longer(long word, int sign) {
            // No sign has the code 0, so that a shorter name is told from a longer one.
            int code = sign >= 'a' ? sign - 'a' + 1 : sign - '0' + 27;
            return word << BITS | code;
        }

        /** The sign at a shift, HIGHEST to 0 in steps of BITS; 0 if the name is too short for it. */
        static int signAt(long word, int shift) {
            int code = (int) (word >>> shift) & 63;
            if (code == 0) {
                return 0;
            }
            return code < 27 ? 'a' + code - 1 : '0' + code - 27;
        }

        /** z0, z1, z2 and so on, up to z999. */
        static long zName(int number) {
            long word = longer(0, 'z');
            for (int unit = 100; unit >= 1; unit /= 10) {
                if (number >= unit || unit == 1) {
                    word = longer(word, '0' + number / unit % 10);
                }
            }
            return word;
        }
    }

    /** The tokens of the tape; behind them stands END, or NO_TOKEN where nothing can be read. */
    static final class Tokens {
        private final long[] keywords = new long[COUNT_OF_KEYWORDS];
        private final int[] kinds = new int[MOST_TOKENS + 1];
        private final int[] places = new int[MOST_TOKENS + 1];
        private final long[] words = new long[MOST_TOKENS + 1];
        private final int[] values = new int[MOST_TOKENS + 1];
        /** What one reading leaves at a token for the next one. */
        private final int[] marks = new int[MOST_TOKENS + 1];
        private int count;
        private final byte[] tape;
        private int length;

        Tokens(byte[] tape) {
            this.tape = tape;
            int keyword = 0;
            for (int i = 0; i < KEYWORDS.length(); i++) {
                char sign = KEYWORDS.charAt(i);
                if (sign == ' ') {
                    keyword++;
                } else if (keyword < keywords.length) {
                    keywords[keyword] = Words.longer(keywords[keyword], sign);
                }
            }
        }

        void read(int tapeLength) {
            length = tapeLength;
            count = 0;
            int place = 0;
            for (int n = 0; n <= MOST_TOKENS; n++) {
                place = behindBlanks(place);
                if (place >= length) {
                    add(END, length, 0, 0);
                    return;
                }
                int behind = n < MOST_TOKENS ? readToken(place) : place;
                if (behind <= place) {
                    add(NO_TOKEN, place, 0, 0);
                    return;
                }
                place = behind;
            }
        }

        int kindAt(int token) {
            return token >= 0 && token < count && token < kinds.length ? kinds[token] : END;
        }

        int placeAt(int token) {
            return token >= 0 && token < count && token < places.length ? places[token] : length;
        }

        long wordAt(int token) {
            return token >= 0 && token < count && token < words.length ? words[token] : 0;
        }

        int valueAt(int token) {
            return token >= 0 && token < count && token < values.length ? values[token] : 0;
        }

        int markAt(int token) {
            return token >= 0 && token < count && token < marks.length ? marks[token] : 0;
        }

        void mark(int token, int mark) {
            if (token >= 0 && token < count && token < marks.length) {
                marks[token] = mark;
            }
        }

        private void add(int kind, int place, long word, int value) {
            if (count >= 0 && count < kinds.length) {
                kinds[count] = kind;
                places[count] = place;
                words[count] = word;
                values[count] = value;
                marks[count] = 0;
                count++;
            }
        }

        private int byteAt(int place) {
            if (place < 0 || place >= length || place >= tape.length) {
                return -1;
            }
            return tape[place] & 255;
        }

        private int behindBlanks(int from) {
            int place = from;
            while (place < length && (byteAt(place) == ' ' || byteAt(place) == '\n')) {
                place++;
            }
            return place;
        }

        /** Adds the token that begins there, and returns the place behind it; from, if none does. */
        private int readToken(int from) {
            int sign = byteAt(from);
            if (isLetter(sign)) {
                return readWord(from);
            }
            if (isDigit(sign)) {
                return readNumber(from);
            }
            return readSymbol(from);
        }

        private int readWord(int from) {
            long word = 0;
            int place = from;
            while (place < length && (isLetter(byteAt(place)) || isDigit(byteAt(place)))) {
                word = Words.longer(word, byteAt(place));
                place++;
            }
            if (place - from > MOST_SIGNS) {
                return from;
            }
            add(kindOf(word), from, word, 0);
            return place;
        }

        private int kindOf(long word) {
            for (int keyword = 0; keyword < keywords.length; keyword++) {
                if (keywords[keyword] == word) {
                    return keyword;
                }
            }
            return NAME;
        }

        private int readNumber(int from) {
            int value = 0;
            int place = from;
            while (place < length && isDigit(byteAt(place))) {
                value = value * 10 + byteAt(place) - '0';
                place++;
            }
            if (place - from > MOST_DIGITS) {
                return from;
            }
            add(NUMBER, from, 0, value);
            return place;
        }

        private int readSymbol(int from) {
            int symbol = SYMBOLS.indexOf((char) byteAt(from));
            if (symbol < 0) {
                return from;
            }
            int kind = OPEN + symbol;
            if (byteAt(from + 1) == '=' && (kind == LESS || kind == MORE)) {
                add(kind == LESS ? AT_MOST : AT_LEAST, from, 0, 0);
                return from + 2;
            }
            add(kind, from, 0, 0);
            return from + 1;
        }

        private static boolean isLetter(int sign) {
            return sign >= 'a' && sign <= 'z';
        }

        private static boolean isDigit(int sign) {
            return sign >= '0' && sign <= '9';
        }
    }

    /**
     * Reads the tokens by the grammar alone. It leaves the number of its parts as the mark of each [
     * in a part, puts the code of each test into the book, and leaves the place of the code as the
     * mark of its when. The code tells both sides ahead of what is done with them; the token of a
     * name stands in it for the play, until the names are looked up.
     */
    static final class Grammar {
        private final Tokens tokens;
        private Book book;
        private int at;

        Grammar(Tokens tokens, Book book) {
            this.tokens = tokens;
            this.book = book;
        }

        /** The first token with which the tokens so far begin no playbook; -1 if there is none. */
        int firstWrongToken(Book into) {
            book = into;
            at = 0;
            for (int lines = 0; lines < MOST_TOKENS && !sees(END); lines++) {
                if (!line()) {
                    return at;
                }
            }
            return -1;
        }

        private boolean sees(int kind) {
            return tokens.kindAt(at) == kind;
        }

        private boolean take(int kind) {
            if (tokens.kindAt(at) != kind) {
                return false;
            }
            at++;
            return true;
        }

        private boolean line() {
            int kind = tokens.kindAt(at);
            at++;
            switch (kind) {
                case ACTOR:
                    return take(NAME) && take(SEMICOLON);
                case PLAY:
                    return take(NAME) && take(IS) && part(0) && take(SEMICOLON);
                case STEP:
                    return take(NAME) && (sees(SEMICOLON) || when()) && take(SEMICOLON);
                case GIVE:
                    return take(NAME) && take(TO) && take(NAME) && when() && take(SEMICOLON);
                case RENEW:
                    return take(NAME) && when() && take(SEMICOLON);
                default:
                    at--;
                    return false;
            }
        }

        private boolean part(int depth) {
            if (sees(OPEN_SQUARE)) {
                return scenes(depth);
            }
            if (take(MASK)) {
                return take(NAME) && depth < MOST_DEPTH && take(OPEN) && part(depth + 1)
                        && take(CLOSE);
            }
            return take(NAME);
        }

        private boolean scenes(int depth) {
            int open = at;
            if (depth >= MOST_DEPTH || !take(OPEN_SQUARE)) {
                return false;
            }
            int parts = 0;
            for (; parts < MOST_TOKENS && (parts < 2 || !sees(CLOSE_SQUARE)); parts++) {
                if (!part(depth + 1)) {
                    return false;
                }
            }
            tokens.mark(open, parts);
            return take(CLOSE_SQUARE);
        }

        private boolean when() {
            tokens.mark(at, book.codeLength);
            return take(WHEN) && test(0) && put(END, 0);
        }

        /** Always true, so that it can stand in a row with what has to be taken. */
        private boolean put(int kind, int value) {
            book.addCode(kind, value);
            return true;
        }

        private boolean test(int depth) {
            if (!both(depth)) {
                return false;
            }
            for (int n = 0; n < MOST_TOKENS && take(OR); n++) {
                if (!both(depth)) {
                    return false;
                }
                put(OR, 0);
            }
            return true;
        }

        private boolean both(int depth) {
            if (!single(depth)) {
                return false;
            }
            for (int n = 0; n < MOST_TOKENS && take(AND); n++) {
                if (!single(depth)) {
                    return false;
                }
                put(AND, 0);
            }
            return true;
        }

        private boolean single(int depth) {
            int kind = tokens.kindAt(at);
            switch (kind) {
                case NOT:
                    return depth < MOST_DEPTH && take(NOT) && single(depth + 1) && put(NOT, 0);
                case OPEN_SQUARE:
                    return depth < MOST_DEPTH && take(OPEN_SQUARE) && test(depth + 1)
                            && take(CLOSE_SQUARE);
                case FINISHED:
                    return take(FINISHED) && take(NAME) && put(NAME, at - 1) && put(FINISHED, 0);
                case SAME:
                    return take(SAME) && take(NAME) && put(NAME, at - 1)
                            && take(NAME) && put(NAME, at - 1) && put(SAME, 0);
                default:
                    break;
            }
            if (!sum(depth)) {
                return false;
            }
            int order = tokens.kindAt(at);
            if (order < LESS || order > AT_LEAST) {
                return false;
            }
            at++;
            return sum(depth) && put(order, 0);
        }

        private boolean sum(int depth) {
            if (!product(depth)) {
                return false;
            }
            for (int n = 0; n < MOST_TOKENS && (sees(PLUS) || sees(MINUS)); n++) {
                int kind = tokens.kindAt(at);
                at++;
                if (!product(depth)) {
                    return false;
                }
                put(kind, 0);
            }
            return true;
        }

        private boolean product(int depth) {
            if (!value(depth)) {
                return false;
            }
            for (int n = 0; n < MOST_TOKENS && (sees(TIMES) || sees(OVER)); n++) {
                int kind = tokens.kindAt(at);
                at++;
                if (!value(depth)) {
                    return false;
                }
                put(kind, 0);
            }
            return true;
        }

        private boolean value(int depth) {
            int kind = tokens.kindAt(at);
            switch (kind) {
                case NUMBER:
                    return put(NUMBER, tokens.valueAt(at)) && take(NUMBER);
                case EVENING:
                    return take(EVENING) && put(EVENING, 0);
                case SIZE:
                case MASKS:
                case STEPS:
                    return take(kind) && take(NAME) && put(NAME, at - 1) && put(kind, 0);
                case MINUS:
                    return depth < MOST_DEPTH && take(MINUS) && value(depth + 1) && put(NEGATE, 0);
                case OPEN:
                    return depth < MOST_DEPTH && take(OPEN) && sum(depth + 1) && take(CLOSE);
                case MIN:
                case MAX:
                    return take(kind) && depth < MOST_DEPTH && take(OPEN) && sum(depth + 1)
                            && take(COMMA) && sum(depth + 1) && take(CLOSE) && put(kind, 0);
                default:
                    return false;
            }
        }
    }

    /** Reads tokens without an error 1 for what they tell, and fills the book with it. */
    static final class Telling {
        private final Tokens tokens;
        private final long[] masksAround = new long[MOST_DEPTH];
        private int masksOpen;
        private int partsTold;
        private Book book;
        private int at;

        Telling(Tokens tokens, Book book) {
            this.tokens = tokens;
            this.book = book;
        }

        /** The token of the first error. */
        int place() {
            return at;
        }

        /** The first error, 2 to 5; 0 if there is none. */
        int firstError(Book into) {
            book = into;
            at = 0;
            for (int lines = 0; lines < MOST_TOKENS && tokens.kindAt(at) != END; lines++) {
                int error = line();
                if (error != 0) {
                    return error;
                }
            }
            book.lookUpPlays(tokens);
            return 0;
        }

        private int line() {
            int kind = tokens.kindAt(at);
            if (kind == ACTOR) {
                return actor();
            }
            return kind == PLAY ? play() : note(kind);
        }

        private int actor() {
            at++;
            long name = tokens.wordAt(at);
            if (book.knows(name)) {
                return 2;
            }
            if (book.actorCount >= MOST_ACTORS) {
                return 4;
            }
            book.addActor(name);
            at += 2;
            return 0;
        }

        private int play() {
            at++;
            long name = tokens.wordAt(at);
            if (book.knows(name)) {
                return 2;
            }
            if (book.playCount >= MOST_PLAYS) {
                return 4;
            }
            at += 2;
            Part part = book.toldAt(book.playCount);
            part.clear();
            partsTold = 0;
            masksOpen = 0;
            for (int n = 0; n < MOST_TOKENS && tokens.kindAt(at) != SEMICOLON; n++) {
                int error = tokenOf(part);
                if (error != 0) {
                    return error;
                }
                at++;
            }
            if (partsTold > MOST_PARTS) {
                return 5;
            }
            part.link();
            book.addPlay(name);
            at++;
            return 0;
        }

        private int tokenOf(Part part) {
            switch (tokens.kindAt(at)) {
                case MASK:
                    at++;
                    return mask(part);
                case CLOSE:
                    masksOpen--;
                    return 0;
                case OPEN_SQUARE:
                    // The scenes of one bracket lie in one another, all as the first part.
                    for (int n = 1; n < tokens.markAt(at); n++) {
                        addTo(part, Part.A_SCENE, 0);
                    }
                    return 0;
                case NAME:
                    return name(part);
                default:
                    return 0;
            }
        }

        /** More parts than fit are counted, but not kept: the play is refused at its end. */
        private void addTo(Part part, int kind, long name) {
            part.add(kind, name);
            partsTold++;
        }

        private int mask(Part part) {
            long name = tokens.wordAt(at);
            if (book.knows(name)) {
                return 2;
            }
            if (masksOpen >= 0 && masksOpen < masksAround.length) {
                masksAround[masksOpen] = name;
                masksOpen++;
            }
            addTo(part, Part.A_MASK, name);
            return 0;
        }

        private int name(Part part) {
            long name = tokens.wordAt(at);
            if (isMaskAround(name) || book.actorOf(name) >= 0) {
                addTo(part, Part.A_NAME, name);
                return 0;
            }
            int play = book.playOf(name);
            if (play < 0) {
                return 3;
            }
            Part told = book.toldAt(play);
            part.append(told, 0, told.size);
            partsTold += told.size;
            return 0;
        }

        private boolean isMaskAround(long name) {
            for (int n = 0; n < masksOpen && n < masksAround.length; n++) {
                if (masksAround[n] == name) {
                    return true;
                }
            }
            return false;
        }

        private int note(int kind) {
            if (book.noteCount >= MOST_NOTES) {
                return 4;
            }
            at++;
            int first = at;
            int code = Note.NO_TEST;
            for (int n = 0; n < MOST_TOKENS && tokens.kindAt(at) != SEMICOLON; n++) {
                if (tokens.kindAt(at) == WHEN) {
                    code = tokens.markAt(at);
                } else if (tokens.kindAt(at) == NAME) {
                    int play = book.playOf(tokens.wordAt(at));
                    if (play < 0) {
                        return 3;
                    }
                    tokens.mark(at, play);
                }
                at++;
            }
            int second = kind == GIVE ? first + 2 : first;
            book.addNote(kind, tokens.markAt(second), tokens.markAt(first), code);
            at++;
            return 0;
        }
    }

    /** A line with step, give or renew. */
    static final class Note {
        static final int NO_TEST = -1;

        int kind;
        /** The play that gets another text by it. */
        int play;
        /** The play that is given, if it is a give. */
        int gift;
        /** Where the code of its test begins in the book, or NO_TEST. */
        int code = NO_TEST;
    }

    /** What was told: actors, plays as they were told, and notes with the code of their tests. */
    static final class Book {
        int actorCount;
        int playCount;
        int noteCount;
        int codeLength;
        private final long[] actorNames = new long[MOST_ACTORS];
        private final long[] playNames = new long[MOST_PLAYS];
        private final Part[] told = new Part[MOST_PLAYS];
        private final Note[] notes = new Note[MOST_NOTES];
        private final int[] codeKinds = new int[MOST_TOKENS];
        private final int[] codeValues = new int[MOST_TOKENS];
        private final Part noPart = new Part();
        private final Note noNote = new Note();

        Book() {
            for (int play = 0; play < told.length; play++) {
                told[play] = new Part();
            }
            for (int note = 0; note < notes.length; note++) {
                notes[note] = new Note();
            }
        }

        void clear() {
            actorCount = 0;
            playCount = 0;
            noteCount = 0;
            codeLength = 0;
        }

        void addActor(long name) {
            if (actorCount >= 0 && actorCount < actorNames.length) {
                actorNames[actorCount] = name;
                actorCount++;
            }
        }

        /** Its part is what toldAt(playCount) was filled with ahead of it. */
        void addPlay(long name) {
            if (playCount >= 0 && playCount < playNames.length) {
                playNames[playCount] = name;
                playCount++;
            }
        }

        void addNote(int kind, int play, int gift, int code) {
            Note note = noteAt(noteCount);
            note.kind = kind;
            note.play = play;
            note.gift = gift;
            note.code = code;
            noteCount++;
        }

        void addCode(int kind, int value) {
            if (codeLength >= 0 && codeLength < codeKinds.length) {
                codeKinds[codeLength] = kind;
                codeValues[codeLength] = value;
                codeLength++;
            }
        }

        boolean knows(long name) {
            return actorOf(name) >= 0 || playOf(name) >= 0;
        }

        int actorOf(long name) {
            for (int actor = 0; actor < actorCount && actor < actorNames.length; actor++) {
                if (actorNames[actor] == name) {
                    return actor;
                }
            }
            return -1;
        }

        int playOf(long name) {
            for (int play = 0; play < playCount && play < playNames.length; play++) {
                if (playNames[play] == name) {
                    return play;
                }
            }
            return -1;
        }

        long actorNameAt(int actor) {
            return actor >= 0 && actor < actorNames.length ? actorNames[actor] : 0;
        }

        Part toldAt(int play) {
            return play >= 0 && play < told.length ? told[play] : noPart;
        }

        Note noteAt(int note) {
            return note >= 0 && note < notes.length ? notes[note] : noNote;
        }

        int codeKindAt(int place) {
            boolean known = place >= 0 && place < codeLength && place < codeKinds.length;
            return known ? codeKinds[place] : END;
        }

        int codeValueAt(int place) {
            boolean known = place >= 0 && place < codeLength && place < codeValues.length;
            return known ? codeValues[place] : 0;
        }

        /** Puts the numbers of plays in the place of the tokens that name them. */
        void lookUpPlays(Tokens tokens) {
            for (int place = 0; place < codeLength && place < codeValues.length; place++) {
                if (codeKindAt(place) == NAME) {
                    codeValues[place] = tokens.markAt(codeValues[place]);
                }
            }
        }
    }

    /**
     * A part with all that is below it, in the order in which their texts begin: a mask ahead of the
     * part below it, a scene ahead of its first part, and this ahead of the second one.
     */
    static final class Part {
        static final int A_NAME = 0;
        static final int A_MASK = 1;
        static final int A_SCENE = 2;

        int size;
        private final int[] kinds = new int[MOST_PARTS];
        private final long[] names = new long[MOST_PARTS];
        /** Behind the last one of those below. */
        private final int[] ends = new int[MOST_PARTS];
        /** The innermost mask around, or -1. */
        private final int[] outers = new int[MOST_PARTS];

        static boolean fitInScene(Part first, Part second) {
            return 1 + first.size + second.size <= MOST_PARTS;
        }

        void clear() {
            size = 0;
        }

        void add(int kind, long name) {
            if (size >= 0 && size < kinds.length) {
                kinds[size] = kind;
                names[size] = name;
                size++;
            }
        }

        void append(Part other, int from, int to) {
            for (int i = from; i < to; i++) {
                add(other.kindAt(i), other.nameAt(i));
            }
        }

        void setTo(Part other) {
            int n = Math.max(0, Math.min(other.size, MOST_PARTS));
            System.arraycopy(other.kinds, 0, kinds, 0, n);
            System.arraycopy(other.names, 0, names, 0, n);
            System.arraycopy(other.ends, 0, ends, 0, n);
            System.arraycopy(other.outers, 0, outers, 0, n);
            size = n;
        }

        /** Neither of both may be this one. */
        void setToScene(Part first, Part second) {
            clear();
            add(A_SCENE, 0);
            append(first, 0, first.size);
            append(second, 0, second.size);
            link();
        }

        /** To be called when all parts have been added. */
        void link() {
            for (int i = size - 1; i >= 0; i--) {
                int end = i + 1;
                if (kindAt(i) != A_NAME) {
                    end = endAt(end);
                }
                if (kindAt(i) == A_SCENE) {
                    end = endAt(end);
                }
                if (i < ends.length) {
                    ends[i] = end;
                }
            }
            setOuter(0, -1);
            for (int i = 0; i < size; i++) {
                int kind = kindAt(i);
                if (kind == A_MASK) {
                    setOuter(i + 1, i);
                } else if (kind == A_SCENE) {
                    setOuter(i + 1, outerAt(i));
                    setOuter(endAt(i + 1), outerAt(i));
                }
            }
        }

        private void setOuter(int i, int outer) {
            if (i >= 0 && i < outers.length) {
                outers[i] = outer;
            }
        }

        int kindAt(int i) {
            return i >= 0 && i < size && i < kinds.length ? kinds[i] : A_NAME;
        }

        long nameAt(int i) {
            return i >= 0 && i < size && i < names.length ? names[i] : 0;
        }

        int endAt(int i) {
            return i >= 0 && i < size && i < ends.length ? ends[i] : size;
        }

        int outerAt(int i) {
            return i >= 0 && i < size && i < outers.length ? outers[i] : -1;
        }

        /** The mask to which the name there belongs; -1 if to none. */
        int maskOf(int i) {
            if (i < 0 || i >= size || i >= names.length) {
                return -1;
            }
            long name = names[i];
            int mask = outers[i];
            for (int n = 0; n < MOST_PARTS && mask >= 0 && mask < names.length; n++) {
                if (names[mask] == name) {
                    return mask;
                }
                mask = outers[mask];
            }
            return -1;
        }

        int countOf(int kind) {
            int count = 0;
            for (int i = 0; i < size; i++) {
                if (kindAt(i) == kind) {
                    count++;
                }
            }
            return count;
        }

        int countOfOpen(long name) {
            int count = 0;
            for (int i = 0; i < size; i++) {
                if (kindAt(i) == A_NAME && nameAt(i) == name && maskOf(i) < 0) {
                    count++;
                }
            }
            return count;
        }

        int mostMasks() {
            int most = 0;
            for (int i = 0; i < size; i++) {
                // Around a name stand all masks that stand around what it lies in.
                if (kindAt(i) == A_NAME) {
                    most = Math.max(most, masksAround(i));
                }
            }
            return most;
        }

        private int masksAround(int i) {
            int mask = outerAt(i);
            for (int count = 0; count < MOST_PARTS; count++) {
                if (mask < 0) {
                    return count;
                }
                mask = outerAt(mask);
            }
            return MOST_PARTS;
        }

        /** The next scene; -1 if the part is finished. */
        int readyScene() {
            for (int i = 0; i + 1 < size; i++) {
                if (kindAt(i) == A_SCENE && kindAt(i + 1) == A_MASK) {
                    return i;
                }
            }
            return -1;
        }

        boolean holdsName(long name, int from, int to) {
            for (int i = from < 0 ? 0 : from; i < to && i < size && i < names.length; i++) {
                if (names[i] == name) {
                    return true;
                }
            }
            return false;
        }

        void renameMask(int mask, long name) {
            long before = nameAt(mask);
            for (int i = mask + 1; i < endAt(mask); i++) {
                if (kindAt(i) == A_NAME && nameAt(i) == before && maskOf(i) == mask) {
                    setName(i, name);
                }
            }
            // Only now: by its old name its uses are found.
            setName(mask, name);
        }

        private void setName(int i, long name) {
            if (i >= 0 && i < names.length) {
                names[i] = name;
            }
        }

        boolean hasTextOf(Part other) {
            if (size != other.size) {
                return false;
            }
            for (int i = 0; i < size; i++) {
                if (kindAt(i) != other.kindAt(i) || nameAt(i) != other.nameAt(i)) {
                    return false;
                }
            }
            return true;
        }

        /** Whether both are the same but for the names of their masks. */
        boolean isLike(Part other) {
            if (size != other.size) {
                return false;
            }
            for (int i = 0; i < size; i++) {
                if (kindAt(i) != other.kindAt(i)) {
                    return false;
                }
                if (kindAt(i) == A_NAME && !belongsLike(i, other)) {
                    return false;
                }
            }
            return true;
        }

        private boolean belongsLike(int i, Part other) {
            // All up to i has the same kinds in both, so the same masks stand around it in both.
            int mask = outerAt(i);
            for (int n = 0; n < MOST_PARTS && mask >= 0; n++) {
                boolean here = nameAt(mask) == nameAt(i);
                boolean there = other.nameAt(mask) == other.nameAt(i);
                if (here || there) {
                    return here && there;
                }
                mask = outerAt(mask);
            }
            return nameAt(i) == other.nameAt(i);
        }
    }

    /** Takes off masks. What it works with is made once, for all steps. */
    static final class Step {
        /** How many masks the latest step renamed. */
        int renamed;
        /** Whether the latest step gave its part another text. */
        boolean changed;
        private final Part before = new Part();
        private final Part made = new Part();
        private final boolean[] isReplaced = new boolean[MOST_PARTS];
        private final boolean[] isAroundReplaced = new boolean[MOST_PARTS];
        private final long[] openNames = new long[MOST_PARTS];
        private int openCount;
        /** One name more than those that the names of a part can rule out. */
        private final long[] freshNames = new long[MOST_PARTS + 1];
        private int scene;
        private int mask;
        private int second;
        private int behind;
        private int uses;

        Step() {
            for (int n = 0; n < freshNames.length; n++) {
                freshNames[n] = Words.zName(n);
            }
        }

        boolean canBeTaken(Part part) {
            scene = part.readyScene();
            if (scene < 0) {
                return false;
            }
            mask = scene + 1;
            second = part.endAt(mask);
            behind = part.endAt(scene);
            findUses(part);
            int given = behind - second;
            return part.size - 2 - given - uses + uses * given <= MOST_PARTS;
        }

        /** Steps the part, if this can be done, and returns whether it could. */
        boolean take(Part part) {
            if (!canBeTaken(part)) {
                return false;
            }
            renamed = 0;
            before.setTo(part);
            findOpenNames();
            findMasksAround();
            renameMasks();
            build();
            changed = !made.hasTextOf(part);
            part.setTo(made);
            return true;
        }

        void takeUpTo(Part part, int steps) {
            for (int n = 0; n < steps; n++) {
                if (!take(part)) {
                    return;
                }
            }
        }

        /** Behind how many steps it is finished; -1 if not behind so many, or one cannot be done. */
        int takeUntilFinished(Part part, int mostSteps) {
            for (int n = 0; n <= mostSteps; n++) {
                if (part.readyScene() < 0) {
                    return n;
                }
                if (n == mostSteps || !take(part)) {
                    return -1;
                }
            }
            return -1;
        }

        private void findUses(Part part) {
            uses = 0;
            long name = part.nameAt(mask);
            for (int i = 0; i < isReplaced.length; i++) {
                isReplaced[i] = i > mask && i < second && part.kindAt(i) == Part.A_NAME
                        && part.nameAt(i) == name && part.maskOf(i) == mask;
                if (isReplaced[i]) {
                    uses++;
                }
            }
        }

        private void findOpenNames() {
            openCount = 0;
            for (int i = second; i < behind; i++) {
                boolean isOpen = before.kindAt(i) == Part.A_NAME && before.maskOf(i) < second;
                if (isOpen && !isOpenName(before.nameAt(i))) {
                    addOpenName(before.nameAt(i));
                }
            }
        }

        private void addOpenName(long name) {
            if (openCount >= 0 && openCount < openNames.length) {
                openNames[openCount] = name;
                openCount++;
            }
        }

        private boolean isOpenName(long name) {
            for (int n = 0; n < openCount && n < openNames.length; n++) {
                if (openNames[n] == name) {
                    return true;
                }
            }
            return false;
        }

        private void findMasksAround() {
            for (int i = 0; i < isAroundReplaced.length; i++) {
                isAroundReplaced[i] = false;
            }
            for (int i = 0; i < isReplaced.length; i++) {
                if (isReplaced[i]) {
                    markMasksAround(i);
                }
            }
        }

        private void markMasksAround(int use) {
            int outer = before.outerAt(use);
            for (int n = 0; n < MOST_PARTS && outer > mask; n++) {
                if (outer >= 0 && outer < isAroundReplaced.length) {
                    isAroundReplaced[outer] = true;
                }
                outer = before.outerAt(outer);
            }
        }

        /** In the order of the parts masks farther out come ahead of those farther in. */
        private void renameMasks() {
            for (int i = 0; i < isAroundReplaced.length; i++) {
                if (isAroundReplaced[i] && isOpenName(before.nameAt(i))) {
                    before.renameMask(i, freshNameBelow(i));
                    renamed++;
                }
            }
        }

        private long freshNameBelow(int renamedMask) {
            int end = before.endAt(renamedMask);
            for (int n = 0; n < freshNames.length; n++) {
                long name = freshNames[n];
                if (!isOpenName(name) && !before.holdsName(name, renamedMask + 1, end)) {
                    return name;
                }
            }
            return before.nameAt(renamedMask);
        }

        private void build() {
            made.clear();
            for (int i = 0; i < before.size && i < isReplaced.length; i++) {
                boolean goes = i == scene || i == mask || i >= second && i < behind;
                if (isReplaced[i]) {
                    made.append(before, second, behind);
                } else if (!goes) {
                    made.add(before.kindAt(i), before.nameAt(i));
                }
            }
            made.link();
        }
    }

    /** The text of one part at a time. */
    static final class Text {
        int length;
        private final byte[] letters = new byte[MOST_PARTS * MOST_LETTERS];
        private final int[] beginnings = new int[MOST_PARTS];
        /** The signs that are still to come, the next one last: at most two for each part. */
        private final char[] toCome = new char[2 * MOST_PARTS];
        private int comingCount;

        void write(Part part) {
            length = 0;
            comingCount = 0;
            for (int i = 0; i < part.size && i < beginnings.length; i++) {
                beginnings[i] = length;
                int kind = part.kindAt(i);
                if (kind == Part.A_SCENE) {
                    put('[');
                    putLater(']');
                    putLater(' ');
                } else if (kind == Part.A_MASK) {
                    putAll("mask ");
                    putName(part.nameAt(i));
                    put('(');
                    putLater(')');
                } else {
                    putName(part.nameAt(i));
                    putWhatComes();
                }
            }
        }

        int letter(int place) {
            return place >= 0 && place < length && place < letters.length ? letters[place] : 0;
        }

        int beginningOf(int i) {
            return i >= 0 && i < beginnings.length ? beginnings[i] : 0;
        }

        private void put(int sign) {
            if (length >= 0 && length < letters.length) {
                letters[length] = (byte) sign;
                length++;
            }
        }

        private void putAll(String signs) {
            for (int i = 0; i < signs.length(); i++) {
                put(signs.charAt(i));
            }
        }

        private void putName(long name) {
            for (int shift = Words.HIGHEST; shift >= 0; shift -= Words.BITS) {
                int sign = Words.signAt(name, shift);
                if (sign != 0) {
                    put(sign);
                }
            }
        }

        private void putLater(char sign) {
            if (comingCount >= 0 && comingCount < toCome.length) {
                toCome[comingCount] = sign;
                comingCount++;
            }
        }

        /** Behind a name all ends that lie in one another, up to a blank: then a part comes again. */
        private void putWhatComes() {
            while (comingCount > 0 && comingCount <= toCome.length) {
                comingCount--;
                char sign = toCome[comingCount];
                put(sign);
                if (sign == ' ') {
                    return;
                }
            }
        }
    }

    /** The plays as they are at one time, and what has been counted up to it. */
    static final class Stage {
        int eveningCount;
        int carriedOut;
        private final Part[] now = new Part[MOST_PLAYS];
        private final int[] steps = new int[MOST_PLAYS];
        private final Part noPart = new Part();
        private final Part made = new Part();
        private final Step step;
        private final Tests tests = new Tests();

        Stage(Step step) {
            this.step = step;
            for (int play = 0; play < now.length; play++) {
                now[play] = new Part();
            }
        }

        void begin(Book book) {
            eveningCount = 0;
            carriedOut = 0;
            for (int play = 0; play < now.length; play++) {
                now[play].setTo(book.toldAt(play));
                setSteps(play, 0);
            }
        }

        void setTo(Stage other, int plays) {
            eveningCount = other.eveningCount;
            carriedOut = other.carriedOut;
            for (int play = 0; play < plays && play < now.length; play++) {
                now[play].setTo(other.partAt(play));
                setSteps(play, other.stepsAt(play));
            }
        }

        Part partAt(int play) {
            return play >= 0 && play < now.length ? now[play] : noPart;
        }

        int stepsAt(int play) {
            return play >= 0 && play < steps.length ? steps[play] : 0;
        }

        private void setSteps(int play, int count) {
            if (play >= 0 && play < steps.length) {
                steps[play] = count;
            }
        }

        /** Returns whether the play has another text then. */
        boolean stepPlay(int play) {
            if (!step.take(partAt(play))) {
                return false;
            }
            setSteps(play, stepsAt(play) + 1);
            return step.changed;
        }

        /** Returns whether the play to which it is given has another text then. */
        boolean givePlay(int gift, int to) {
            if (!Part.fitInScene(partAt(to), partAt(gift))) {
                return false;
            }
            made.setToScene(partAt(to), partAt(gift));
            partAt(to).setTo(made);
            return true;
        }

        private boolean renewPlay(int play, Book book) {
            boolean changes = !partAt(play).hasTextOf(book.toldAt(play));
            partAt(play).setTo(book.toldAt(play));
            return changes;
        }

        /** Returns how many notes are carried out in it. */
        int passEvening(Book book) {
            int carried = 0;
            for (int n = 0; n < book.noteCount; n++) {
                Note note = book.noteAt(n);
                if (tests.holds(book, note.code, this) && carryOut(note, book)) {
                    carried++;
                }
            }
            eveningCount++;
            carriedOut += carried;
            return carried;
        }

        private boolean carryOut(Note note, Book book) {
            switch (note.kind) {
                case STEP:
                    return stepPlay(note.play);
                case GIVE:
                    return givePlay(note.gift, note.play);
                default:
                    return renewPlay(note.play, book);
            }
        }
    }

    /** Reckons tests by their code; whether something holds counts 1 or 0. */
    static final class Tests {
        private final int[] stack = new int[MOST_TOKENS];
        private int height;

        boolean holds(Book book, int from, Stage stage) {
            if (from == Note.NO_TEST) {
                return true;
            }
            height = 0;
            for (int place = from; place < book.codeLength; place++) {
                int kind = book.codeKindAt(place);
                if (kind == END) {
                    break;
                }
                reckon(kind, book.codeValueAt(place), stage);
            }
            return pop() != 0;
        }

        private void push(int value) {
            if (height >= 0 && height < stack.length) {
                stack[height] = value;
                height++;
            }
        }

        private int pop() {
            if (height <= 0 || height > stack.length) {
                return 0;
            }
            height--;
            return stack[height];
        }

        private void reckon(int kind, int value, Stage stage) {
            switch (kind) {
                case NUMBER:
                case NAME:
                    push(value);
                    break;
                case EVENING:
                    push(stage.eveningCount);
                    break;
                case NOT:
                    push(pop() == 0 ? 1 : 0);
                    break;
                case NEGATE:
                    push(-pop());
                    break;
                case SIZE:
                case MASKS:
                case STEPS:
                case FINISHED:
                    push(ofPlay(kind, pop(), stage));
                    break;
                case SAME:
                    push(stage.partAt(pop()).isLike(stage.partAt(pop())) ? 1 : 0);
                    break;
                default:
                    int right = pop();
                    int left = pop();
                    push(kind < LESS ? ofNumbers(kind, left, right) : ofOrder(kind, left, right));
                    break;
            }
        }

        private static int ofPlay(int kind, int play, Stage stage) {
            switch (kind) {
                case SIZE:
                    return stage.partAt(play).size;
                case MASKS:
                    return stage.partAt(play).countOf(Part.A_MASK);
                case STEPS:
                    return stage.stepsAt(play);
                default:
                    return stage.partAt(play).readyScene() < 0 ? 1 : 0;
            }
        }

        private static int ofNumbers(int kind, int left, int right) {
            switch (kind) {
                case PLUS:
                    return left + right;
                case MINUS:
                    return left - right;
                case TIMES:
                    return left * right;
                case OVER:
                    return right == 0 ? 0 : left / right;
                case MIN:
                    return Math.min(left, right);
                case MAX:
                    return Math.max(left, right);
                case AND:
                    return left & right;
                default:
                    return left | right;
            }
        }

        private static int ofOrder(int kind, int left, int right) {
            boolean holds;
            switch (kind) {
                case LESS:
                    holds = left < right;
                    break;
                case MORE:
                    holds = left > right;
                    break;
                case EQUAL:
                    holds = left == right;
                    break;
                case AT_MOST:
                    holds = left <= right;
                    break;
                default:
                    holds = left >= right;
                    break;
            }
            return holds ? 1 : 0;
        }
    }
}
