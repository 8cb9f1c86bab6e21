import java.util.NoSuchElementException;

/**
 * A bus that answers requests one at a time: the askers vote in turns for the order in which classes of
 * requests are answered, vetoes cost credits or make debts, answers settle debts, and those who are silent
 * for too long do not count. A class of requests is called a kind in this program.
 */
public final class BallotBus {
    public static final int NONE = -1;
    public static final int POINTS = 0, FIRSTS = 1, PAIRS = 2;
    public static final int SERIAL = 0, SHORT = 1, RICH = 2, OWING = 3;

    private static final int MAX_KINDS = 5;
    private static final int MAX_ORDERS = 120;
    private static final int MAX_ASKERS = 8;
    private static final int MAX_REQUESTS = 40;
    private static final int MAX_ASKED = 9999;
    private static final int MAX_LENGTH = 20;
    private static final int MAX_CREDITS = 999;
    private static final int MAX_SILENCE = 99;
    private static final int MAX_ANSWERS = 60;
    private static final int MAX_CHANGES = 8;
    private static final int MAX_INPUT = 500;
    private static final int MAX_OUTPUT = 64;
    private static final int MAX_TICKS = 500;
    private static final int MAX_BALLOT_TICKS = 100;
    private static final int MAX_FORECAST = 1000;

    private static final int FED_BYTES = 20;
    private static final int NAME_LETTERS = 6;
    private static final int NUMBER_DIGITS = 3;

    /** Places of the settings in a setup, in the order in which count tells them. */
    private static final int TURN = 0, ROUND = 1, PRICE = 2, LIMIT = 3, SILENCE = 4, SETTINGS = 5;

    private final Input input = new Input();
    private final SetupReader reader = new SetupReader(input);
    private final byte[] output = new byte[MAX_OUTPUT];
    private int outputLength = 0;
    private int faultCode = 0;
    private int faultOffset = NONE;

    /** The draft takes a text that may turn out faulty, so that the setup in use stays as it is. */
    private Setup setup = new Setup();
    private Setup draft = new Setup();
    private final State state = new State(setup);
    private final State trial = new State(setup);
    private final State saved = new State(setup);
    private boolean hasSaved = false;
    private final History history = new History(setup);

    private final Poll poll = new Poll();
    private final int[] firstRow = new int[MAX_KINDS];
    private final int[] secondRow = new int[MAX_KINDS];

    public BallotBus() {
        setup.addKind('a', SERIAL);
        setup.addAsker('a', 0, 1);
        state.begin(setup);
    }

    // ---- the input buffer and the setup text

    public int feed(int a, int b, int c, int d, int e) {
        if (input.length > MAX_INPUT - FED_BYTES) {
            return NONE;
        }
        input.append(a);
        input.append(b);
        input.append(c);
        input.append(d);
        input.append(e);
        return input.length;
    }

    public boolean truncate(int length) {
        if (length < 0 || length > input.length) {
            return false;
        }
        input.length = length;
        return true;
    }

    public int parse() {
        boolean good = reader.read(draft);
        input.length = 0;
        faultCode = reader.code;
        faultOffset = reader.offset;
        if (!good) {
            return NONE;
        }
        Setup before = setup;
        setup = draft;
        draft = before;
        state.begin(setup);
        history.size = 0;
        hasSaved = false;
        return setup.kinds;
    }

    public int errorCode() {
        return faultCode;
    }

    public int errorOffset() {
        return faultOffset;
    }

    // ---- what there is

    public int count(int what) {
        if (what >= 4 && what < 4 + SETTINGS) {
            return setup.settings[what - 4];
        }
        switch (what) {
            case 0: return setup.kinds;
            case 1: return setup.askers;
            case 2: return state.time;
            case 3: return state.tally;
            case 9: return state.requests.waiting();
            case 10: return state.answered;
            case 11: return state.asked;
            case 12: return state.turn;
            case 13: return state.vetoed;
            case 14: return state.votings;
            case 15: return history.size;
            default: return NONE;
        }
    }

    public int find(boolean asker) {
        long name = input.asName();
        input.length = 0;
        return asker ? setup.askerNamed(name) : setup.kindNamed(name);
    }

    public int asker(int asker, int what) throws IndexOutOfBoundsException {
        checkAsker(asker);
        switch (what) {
            case 0: return state.accounts.credits[asker];
            case 1: return state.accounts.debts[asker];
            case 2: return setup.weights[asker];
            case 3: return state.accounts.silences[asker];
            case 4: return state.isHeard(asker) ? 1 : 0;
            case 5: return state.turn == asker && state.hasCast ? 1 : 0;
            case 6: return state.requests.waitingWith(Requests.ASKER, asker);
            case 7: return state.accounts.answers[asker];
            case 8: return state.accounts.lengths[asker];
            case 9: return state.accounts.vetoes[asker];
            default: throw new IndexOutOfBoundsException("no such property");
        }
    }

    public int kind(int kind, int what) throws IndexOutOfBoundsException {
        checkKind(kind);
        switch (what) {
            case 0: return state.manners[kind];
            case 1: return state.requests.waitingWith(Requests.KIND, kind);
            case 2: return state.kindAnswers[kind];
            case 3: return Rows.placeOf(state.order, setup.kinds, kind);
            case 4: return state.isVetoed(kind) ? 1 : 0;
            case 5: return state.requests.serialAt(state.firstOf(kind));
            default: throw new IndexOutOfBoundsException("no such property");
        }
    }

    public int ballot(int asker, int place) throws IndexOutOfBoundsException {
        checkAsker(asker);
        checkKind(place);
        return state.ballots[asker][place];
    }

    public int order(int place) throws IndexOutOfBoundsException {
        checkKind(place);
        return state.order[place];
    }

    public int request(int serial, int what) throws IllegalArgumentException, NoSuchElementException {
        if (what < 0 || what > Requests.TIME) {
            throw new IllegalArgumentException("no such property");
        }
        return state.requests.cells[what][indexOfRequest(serial)];
    }

    public int line(int kind, int index) throws IndexOutOfBoundsException, NoSuchElementException {
        checkKind(kind);
        int found = state.inLine(kind, index);
        if (found == NONE) {
            throw new NoSuchElementException("no such index");
        }
        return state.requests.serialAt(found);
    }

    public int progress() {
        return state.requests.current;
    }

    public int answer(int back, int what) throws IllegalArgumentException, NoSuchElementException {
        if (what < 0 || what >= AnswerLog.PROPERTIES) {
            throw new IllegalArgumentException("no such property");
        }
        if (back < 0 || back >= state.log.size) {
            throw new NoSuchElementException("no such answer");
        }
        return state.log.look(back, what);
    }

    // ---- votes

    public int points(int kind) throws IndexOutOfBoundsException {
        checkKind(kind);
        poll.countVotes(state, NONE);
        return poll.scores[kind];
    }

    public int firsts(int kind, int place) throws IndexOutOfBoundsException {
        checkKind(kind);
        checkKind(place);
        poll.countVotes(state, NONE);
        return poll.placed[kind][place];
    }

    public boolean beats(int kind, int other) throws IndexOutOfBoundsException {
        checkKind(kind);
        checkKind(other);
        poll.countVotes(state, NONE);
        return poll.defeats(kind, other);
    }

    public int wins(int kind) throws IndexOutOfBoundsException {
        checkKind(kind);
        poll.countVotes(state, NONE);
        return poll.defeated[kind];
    }

    public int champion() {
        poll.countVotes(state, NONE);
        if (poll.weight == 0) {
            return NONE;
        }
        for (int kind = 0; kind < setup.kinds; kind++) {
            if (poll.defeated[kind] == setup.kinds - 1) {
                return kind;
            }
        }
        return NONE;
    }

    public int voted(int tally, int place) throws IndexOutOfBoundsException, IllegalArgumentException {
        checkKind(place);
        checkTally(tally);
        voteNow(tally, NONE, firstRow);
        return firstRow[place];
    }

    public boolean isDecisive(int asker) throws IndexOutOfBoundsException {
        checkAsker(asker);
        if (!state.isHeard(asker)) {
            return false;
        }
        voteNow(state.tally, NONE, firstRow);
        voteNow(state.tally, asker, secondRow);
        return Rows.inversions(firstRow, secondRow, setup.kinds) > 0;
    }

    public int votes() {
        poll.countVotes(state, NONE);
        return poll.weight;
    }

    public int differences(int tally, int other) throws IllegalArgumentException {
        checkTally(tally);
        checkTally(other);
        voteNow(tally, NONE, firstRow);
        voteNow(other, NONE, secondRow);
        return Rows.inversions(firstRow, secondRow, setup.kinds);
    }

    public int distance(int asker) throws IndexOutOfBoundsException {
        checkAsker(asker);
        return Rows.inversions(state.ballots[asker], state.order, setup.kinds);
    }

    public int middle(int place) throws IndexOutOfBoundsException {
        checkKind(place);
        poll.countVotes(state, NONE);
        Rows.number(firstRow);
        int least = NONE;
        boolean more = true;
        for (int tried = 0; more && tried < MAX_ORDERS; tried++) {
            int sum = poll.disagreement(firstRow);
            if (least == NONE || sum < least) {
                least = sum;
                Rows.copy(firstRow, secondRow);
            }
            more = Rows.advance(firstRow, setup.kinds);
        }
        return secondRow[place];
    }

    // ---- accounts

    public double meanWait(int kind) throws IndexOutOfBoundsException {
        checkKind(kind);
        int number = state.kindAnswers[kind];
        return number == 0 ? 0.0 : (double) state.kindWaits[kind] / (double) number;
    }

    public float share(int asker) throws IndexOutOfBoundsException {
        checkAsker(asker);
        int all = 0;
        for (int each = 0; each < setup.askers; each++) {
            all += state.accounts.lengths[each];
        }
        return all == 0 ? 0.0f : (float) state.accounts.lengths[asker] / (float) all;
    }

    public int debts() {
        int sum = 0;
        for (int asker = 0; asker < setup.askers; asker++) {
            sum += state.accounts.debts[asker];
        }
        return sum;
    }

    public int richest() {
        int best = 0;
        for (int asker = 1; asker < setup.askers; asker++) {
            if (state.accounts.balance(asker) > state.accounts.balance(best)) {
                best = asker;
            }
        }
        return best;
    }

    // ---- changes: each remembers the state only when nothing can refuse it any more

    public int run(int ticks) throws IllegalArgumentException {
        checkTicks(ticks, MAX_TICKS);
        history.push(state);
        int before = state.answered;
        state.pass(ticks, poll);
        return state.answered - before;
    }

    public int ask(int asker, int kind, int length)
            throws IndexOutOfBoundsException, IllegalArgumentException, IllegalStateException {
        checkAsker(asker);
        checkKind(kind);
        if (length < 1 || length > MAX_LENGTH) {
            throw new IllegalArgumentException("length out of range");
        }
        if (state.requests.size >= MAX_REQUESTS || state.asked >= MAX_ASKED) {
            throw new IllegalStateException("too many requests");
        }
        history.push(state);
        return state.take(asker, kind, length);
    }

    public int cancel(int serial) throws IllegalStateException, NoSuchElementException {
        int index = indexOfRequest(serial);
        if (!state.requests.waits(index)) {
            throw new IllegalStateException("in progress");
        }
        history.push(state);
        int length = state.requests.cells[Requests.LENGTH][index];
        state.requests.removeAt(index);
        return length;
    }

    public int cast(int code) throws IllegalArgumentException {
        if (!Rows.decode(code, firstRow, setup.kinds)) {
            throw new IllegalArgumentException("no ballot");
        }
        history.push(state);
        state.takeBallot(firstRow);
        return state.turn;
    }

    public int veto(int asker, int kind) throws IndexOutOfBoundsException, IllegalStateException {
        checkAsker(asker);
        checkKind(kind);
        if (!state.allowsVeto(asker, kind)) {
            throw new IllegalStateException("vetoed already, or too dear");
        }
        history.push(state);
        state.takeVeto(asker, kind);
        return state.accounts.debts[asker];
    }

    public int payBack(int asker) throws IndexOutOfBoundsException {
        checkAsker(asker);
        history.push(state);
        return state.accounts.settleFromCredits(asker);
    }

    public int setTally(int tally) throws IllegalArgumentException {
        checkTally(tally);
        history.push(state);
        int before = state.tally;
        state.tally = tally;
        return before;
    }

    public int setManner(int kind, int manner) throws IndexOutOfBoundsException, IllegalArgumentException {
        checkKind(kind);
        if (manner < SERIAL || manner > OWING) {
            throw new IllegalArgumentException("no such manner");
        }
        history.push(state);
        int before = state.manners[kind];
        state.manners[kind] = manner;
        return before;
    }

    public int undo() throws IllegalStateException {
        if (history.size == 0) {
            throw new IllegalStateException("nothing to undo");
        }
        history.pop(state);
        return history.size;
    }

    // ---- forecasts: they let ticks pass in the trial state only

    public int answeredIn(int serial, int ticks) throws IllegalArgumentException, NoSuchElementException {
        checkTicks(ticks, MAX_TICKS);
        indexOfRequest(serial);
        trial.copyFrom(state);
        for (int passed = 1; passed <= ticks; passed++) {
            trial.tick(poll);
            if (trial.requests.indexOf(serial) == NONE) {
                return passed;
            }
        }
        return NONE;
    }

    public int answersIn(int ticks, int asker) throws IndexOutOfBoundsException, IllegalArgumentException {
        if (asker != NONE) {
            checkAsker(asker);
        }
        checkTicks(ticks, MAX_TICKS);
        trial.copyFrom(state);
        trial.pass(ticks, poll);
        return trial.answersOf(asker) - state.answersOf(asker);
    }

    public int bestVeto(int asker, int ticks) throws IndexOutOfBoundsException, IllegalArgumentException {
        checkAsker(asker);
        checkTicks(ticks, MAX_TICKS);
        trial.copyFrom(state);
        trial.pass(ticks, poll);
        int most = trial.answersOf(asker);
        int best = NONE;
        for (int kind = 0; kind < setup.kinds; kind++) {
            if (state.allowsVeto(asker, kind)) {
                trial.copyFrom(state);
                trial.takeVeto(asker, kind);
                trial.pass(ticks, poll);
                if (trial.answersOf(asker) > most) {
                    most = trial.answersOf(asker);
                    best = kind;
                }
            }
        }
        return best;
    }

    public int bestTally(int ticks) throws IllegalArgumentException {
        checkTicks(ticks, MAX_TICKS);
        int most = NONE;
        int best = POINTS;
        for (int tally = POINTS; tally <= PAIRS; tally++) {
            trial.copyFrom(state);
            trial.tally = tally;
            trial.pass(ticks, poll);
            if (trial.answered > most) {
                most = trial.answered;
                best = tally;
            }
        }
        return best;
    }

    public int bestBallot(int ticks) throws IllegalArgumentException {
        checkTicks(ticks, MAX_BALLOT_TICKS);
        Rows.number(firstRow);
        int most = NONE;
        int best = NONE;
        boolean more = true;
        for (int tried = 0; more && tried < MAX_ORDERS; tried++) {
            trial.copyFrom(state);
            trial.takeBallot(firstRow);
            trial.pass(ticks, poll);
            int answers = trial.answersOf(state.turn);
            if (answers > most) {
                most = answers;
                best = Rows.encode(firstRow, setup.kinds);
            }
            more = Rows.advance(firstRow, setup.kinds);
        }
        return best;
    }

    public int silentIn(int asker) throws IndexOutOfBoundsException {
        checkAsker(asker);
        trial.copyFrom(state);
        for (int passed = 0; passed <= MAX_FORECAST; passed++) {
            if (!trial.isHeard(asker)) {
                return passed;
            }
            trial.tick(poll);
        }
        return NONE;
    }

    public int emptyIn() {
        trial.copyFrom(state);
        for (int passed = 0; passed <= MAX_FORECAST; passed++) {
            if (trial.requests.size == 0) {
                return passed;
            }
            trial.tick(poll);
        }
        return NONE;
    }

    // ---- output and state

    public int printOrder() {
        outputLength = 0;
        for (int place = 0; place < setup.kinds; place++) {
            int kind = state.order[place];
            if (place > 0) {
                putByte(' ');
                putByte('>');
                putByte(' ');
            }
            putName(setup.kindNames[kind]);
            if (state.isVetoed(kind)) {
                putByte('*');
            }
        }
        return outputLength;
    }

    public int outputByte(int index) {
        return index < 0 || index >= outputLength ? NONE : output[index] & 255;
    }

    public int saveState() {
        saved.copyFrom(state);
        hasSaved = true;
        return state.time;
    }

    public int restoreState() throws IllegalStateException {
        if (!hasSaved) {
            throw new IllegalStateException("no state is saved");
        }
        state.copyFrom(saved);
        history.size = 0;
        return state.time;
    }

    // ---- what the calls share

    private void checkAsker(int asker) {
        if (asker < 0 || asker >= setup.askers) {
            throw new IndexOutOfBoundsException("no such asker");
        }
    }

    /** Also for places of orders and ballots: there are as many as classes. */
    private void checkKind(int kind) {
        if (kind < 0 || kind >= setup.kinds) {
            throw new IndexOutOfBoundsException("no such class or place");
        }
    }

    private void checkTally(int tally) {
        if (tally < POINTS || tally > PAIRS) {
            throw new IllegalArgumentException("no such tally");
        }
    }

    private void checkTicks(int ticks, int most) {
        if (ticks < 1 || ticks > most) {
            throw new IllegalArgumentException("ticks out of range");
        }
    }

    private int indexOfRequest(int serial) {
        int index = state.requests.indexOf(serial);
        if (index == NONE) {
            throw new NoSuchElementException("no such request");
        }
        return index;
    }

    private void voteNow(int tally, int without, int[] row) {
        poll.countVotes(state, without);
        Rows.copy(state.order, row);
        poll.rank(tally, row);
    }

    private void putName(long name) {
        for (int shift = 8 * (NAME_LETTERS - 1); shift >= 0; shift -= 8) {
            int letter = (int) (name >> shift) & 255;
            if (letter != 0) {
                putByte(letter);
            }
        }
    }

    private void putByte(int value) {
        if (outputLength < MAX_OUTPUT) {
            output[outputLength] = (byte) value;
            outputLength++;
        }
    }

    /** The input buffer. Names are held as numbers: their letters as the bytes of a long. */
    private static final class Input {
        final byte[] bytes = new byte[MAX_INPUT];
        int length = 0;

        void append(int word) {
            for (int shift = 24; shift >= 0; shift -= 8) {
                if (length < MAX_INPUT) {
                    bytes[length] = (byte) (word >> shift);
                    length++;
                }
            }
        }

        int byteAt(int index) {
            return index < 0 || index >= length ? NONE : bytes[index] & 255;
        }

        boolean isLetter(int index) {
            int value = byteAt(index);
            return value >= 'a' && value <= 'z';
        }

        boolean isDigit(int index) {
            int value = byteAt(index);
            return value >= '0' && value <= '9';
        }

        boolean isBlank(int index) {
            int value = byteAt(index);
            return value == ' ' || value == '\n';
        }

        /** The whole content as a name, or NONE if no name can look like it. */
        long asName() {
            if (length < 1 || length > NAME_LETTERS) {
                return NONE;
            }
            for (int index = 0; index < length; index++) {
                if (!isLetter(index)) {
                    return NONE;
                }
            }
            return nameAt(0, length);
        }

        long nameAt(int start, int end) {
            long name = 0;
            for (int index = start; index < end; index++) {
                name = (name << 8) | byteAt(index);
            }
            return name;
        }
    }

    /** Cuts the input buffer into tokens; it stands at one of them. */
    private static final class Tokens {
        static final int END = 0, WORD = 1, NUMBER = 2, SEMICOLON = 3, OTHER = 4;

        private final Input text;
        int type = END;
        int start = 0;
        private int end = 0;

        Tokens(Input input) {
            text = input;
        }

        void open() {
            end = 0;
            advance();
        }

        void advance() {
            start = end;
            while (start < text.length && text.isBlank(start)) {
                start++;
            }
            end = start;
            if (start >= text.length) {
                type = END;
            } else if (text.isLetter(start)) {
                type = WORD;
                while (end < text.length && text.isLetter(end)) {
                    end++;
                }
            } else if (text.isDigit(start)) {
                type = NUMBER;
                while (end < text.length && text.isDigit(end)) {
                    end++;
                }
            } else {
                type = text.byteAt(start) == ';' ? SEMICOLON : OTHER;
                end++;
            }
        }

        int size() {
            return end - start;
        }

        boolean is(String word) {
            if (type != WORD || size() != word.length()) {
                return false;
            }
            for (int index = 0; index < word.length(); index++) {
                if (text.byteAt(start + index) != word.charAt(index)) {
                    return false;
                }
            }
            return true;
        }

        boolean isName() {
            return type == WORD && size() <= NAME_LETTERS && !isQuoted();
        }

        private boolean isQuoted() {
            return is("class") || is("short") || is("rich") || is("owing")
                || is("asker") || is("credits") || is("weight")
                || is("tally") || is("points") || is("firsts") || is("pairs")
                || is("turn") || is("round") || is("veto") || is("line") || is("silence")
                || is("ask");
        }

        long name() {
            return text.nameAt(start, end);
        }

        boolean isNumber() {
            return type == NUMBER && size() <= NUMBER_DIGITS;
        }

        int number() {
            int value = 0;
            for (int index = start; index < end; index++) {
                value = value * 10 + text.byteAt(index) - '0';
            }
            return value;
        }
    }

    /** What a setup text tells. */
    private static final class Setup {
        int kinds = 0;
        final long[] kindNames = new long[MAX_KINDS];
        final int[] manners = new int[MAX_KINDS];
        int askers = 0;
        final long[] askerNames = new long[MAX_ASKERS];
        final int[] credits = new int[MAX_ASKERS];
        final int[] weights = new int[MAX_ASKERS];
        int tally = POINTS;
        final int[] settings = new int[SETTINGS];
        final Requests requests = new Requests();

        Setup() {
            setDefaults();
        }

        void clear() {
            kinds = 0;
            askers = 0;
            tally = POINTS;
            requests.clear();
            setDefaults();
        }

        private void setDefaults() {
            settings[TURN] = 3;
            settings[ROUND] = 6;
            settings[PRICE] = 10;
            settings[LIMIT] = 0;
            settings[SILENCE] = 3;
        }

        void addKind(long name, int manner) {
            if (kinds < MAX_KINDS) {
                kindNames[kinds] = name;
                manners[kinds] = manner;
                kinds++;
            }
        }

        void addAsker(long name, int credit, int weight) {
            if (askers < MAX_ASKERS) {
                askerNames[askers] = name;
                credits[askers] = credit;
                weights[askers] = weight;
                askers++;
            }
        }

        int kindNamed(long name) {
            for (int kind = 0; kind < kinds; kind++) {
                if (kindNames[kind] == name) {
                    return kind;
                }
            }
            return NONE;
        }

        int askerNamed(long name) {
            for (int asker = 0; asker < askers; asker++) {
                if (askerNames[asker] == name) {
                    return asker;
                }
            }
            return NONE;
        }
    }

    /** Reads a setup text by its grammar, up to the first error. */
    private static final class SetupReader {
        private static final int TALLY_BIT = 1 << SETTINGS;

        private final Tokens tokens;
        private Setup setup = new Setup();
        private int told = 0;
        int code = 0;
        int offset = NONE;

        SetupReader(Input input) {
            tokens = new Tokens(input);
        }

        boolean read(Setup draft) {
            setup = draft;
            setup.clear();
            told = 0;
            code = 0;
            offset = NONE;
            tokens.open();
            // A statement takes two tokens at the least, so there are fewer than bytes.
            for (int n = 0; n < MAX_INPUT && code == 0 && tokens.type != Tokens.END; n++) {
                if (readStatement()) {
                    readSemicolon();
                }
            }
            if (code == 0 && (setup.kinds == 0 || setup.askers == 0)) {
                fail(5);
            }
            return code == 0;
        }

        private boolean fail(int number) {
            code = number;
            offset = tokens.start;
            return false;
        }

        private boolean readSemicolon() {
            if (tokens.type != Tokens.SEMICOLON) {
                return fail(1);
            }
            tokens.advance();
            return true;
        }

        private boolean readStatement() {
            if (tokens.is("class")) {
                return readKind();
            } else if (tokens.is("asker")) {
                return readAsker();
            } else if (tokens.is("ask")) {
                return readRequest();
            } else if (tokens.is("tally")) {
                return readTally();
            } else if (tokens.is("turn")) {
                return readSetting(TURN, 1, 20);
            } else if (tokens.is("round")) {
                return readSetting(ROUND, 1, 50);
            } else if (tokens.is("veto")) {
                return readSetting(PRICE, 0, 99);
            } else if (tokens.is("line")) {
                return readSetting(LIMIT, 0, 99);
            } else if (tokens.is("silence")) {
                return readSetting(SILENCE, 1, 9);
            }
            return fail(1);
        }

        private boolean readKind() {
            if (setup.kinds >= MAX_KINDS) {
                return fail(4);
            }
            tokens.advance();
            if (!tokens.isName()) {
                return fail(1);
            }
            long name = tokens.name();
            if (setup.kindNamed(name) != NONE) {
                return fail(3);
            }
            tokens.advance();
            setup.addKind(name, readManner());
            return true;
        }

        private int readManner() {
            int manner = tokens.is("short") ? SHORT : tokens.is("rich") ? RICH : tokens.is("owing") ? OWING : SERIAL;
            if (manner != SERIAL) {
                tokens.advance();
            }
            return manner;
        }

        private boolean readAsker() {
            if (setup.askers >= MAX_ASKERS) {
                return fail(4);
            }
            tokens.advance();
            if (!tokens.isName()) {
                return fail(1);
            }
            long name = tokens.name();
            if (setup.askerNamed(name) != NONE) {
                return fail(3);
            }
            tokens.advance();
            if (!tokens.is("credits")) {
                return fail(1);
            }
            tokens.advance();
            int credits = readNumber(0, MAX_CREDITS);
            int weight = 1;
            if (code == 0 && tokens.is("weight")) {
                tokens.advance();
                weight = readNumber(1, 9);
            }
            setup.addAsker(name, credits, weight);
            return code == 0;
        }

        private boolean readRequest() {
            if (setup.requests.size >= MAX_REQUESTS) {
                return fail(4);
            }
            tokens.advance();
            if (!tokens.isName()) {
                return fail(1);
            }
            int asker = setup.askerNamed(tokens.name());
            if (asker == NONE) {
                return fail(3);
            }
            tokens.advance();
            if (!tokens.isName()) {
                return fail(1);
            }
            int kind = setup.kindNamed(tokens.name());
            if (kind == NONE) {
                return fail(3);
            }
            tokens.advance();
            int length = readNumber(1, MAX_LENGTH);
            setup.requests.add(setup.requests.size, asker, kind, length, 0);
            return code == 0;
        }

        private boolean readTally() {
            if ((told & TALLY_BIT) != 0) {
                return fail(3);
            }
            told |= TALLY_BIT;
            tokens.advance();
            if (tokens.is("points")) {
                setup.tally = POINTS;
            } else if (tokens.is("firsts")) {
                setup.tally = FIRSTS;
            } else if (tokens.is("pairs")) {
                setup.tally = PAIRS;
            } else {
                return fail(1);
            }
            tokens.advance();
            return true;
        }

        private boolean readSetting(int setting, int least, int most) {
            int bit = 1 << setting;
            if ((told & bit) != 0) {
                return fail(3);
            }
            told |= bit;
            tokens.advance();
            int value = readNumber(least, most);
            if (code == 0 && setting >= 0 && setting < SETTINGS) {
                setup.settings[setting] = value;
            }
            return code == 0;
        }

        private int readNumber(int least, int most) {
            if (!tokens.isNumber()) {
                fail(1);
                return NONE;
            }
            int value = tokens.number();
            if (value < least || value > most) {
                fail(2);
                return NONE;
            }
            tokens.advance();
            return value;
        }
    }

    /** Helps with rows of classes: orders and ballots. */
    private static final class Rows {
        static void number(int[] row) {
            for (int place = 0; place < row.length; place++) {
                row[place] = place;
            }
        }

        static void copy(int[] from, int[] to) {
            System.arraycopy(from, 0, to, 0, Math.min(from.length, to.length));
        }

        static int placeOf(int[] row, int kinds, int kind) {
            for (int place = 0; place < kinds && place < row.length; place++) {
                if (row[place] == kind) {
                    return place;
                }
            }
            return NONE;
        }

        /** How many pairs of classes stand in the one row the other way round than in the other row. */
        static int inversions(int[] row, int[] other, int kinds) {
            int pairs = 0;
            for (int place = 0; place < kinds && place < row.length; place++) {
                for (int before = 0; before < place; before++) {
                    if (placeOf(other, kinds, row[before]) > placeOf(other, kinds, row[place])) {
                        pairs++;
                    }
                }
            }
            return pairs;
        }

        /** Goes on to the lexicographically next order; false, with no change, behind the last one. */
        static boolean advance(int[] row, int kinds) {
            int size = Math.min(kinds, row.length);
            int pivot = size - 2;
            while (pivot >= 0 && row[pivot] > row[pivot + 1]) {
                pivot--;
            }
            if (pivot < 0) {
                return false;
            }
            int next = size - 1;
            while (next > pivot && row[next] < row[pivot]) {
                next--;
            }
            swap(row, pivot, next);
            for (int left = pivot + 1, right = size - 1; left < right; left++, right--) {
                swap(row, left, right);
            }
            return true;
        }

        private static void swap(int[] row, int place, int other) {
            int kind = row[place];
            row[place] = row[other];
            row[other] = kind;
        }

        static int encode(int[] row, int kinds) {
            int code = 0;
            for (int place = 0; place < kinds && place < row.length; place++) {
                code = code * 10 + row[place];
            }
            return code;
        }

        /** Fills the row with the digits of a code; false if they are not each class once. */
        static boolean decode(int code, int[] row, int kinds) {
            int rest = code;
            int seen = 0;
            for (int place = Math.min(kinds, row.length) - 1; place >= 0; place--) {
                int digit = rest % 10;
                if (digit < 0 || digit >= kinds || (seen & 1 << digit) != 0) {
                    return false;
                }
                seen |= 1 << digit;
                row[place] = digit;
                rest = rest / 10;
            }
            return rest == 0;
        }
    }

    /** The requests that wait or are in progress, in the order of their serial numbers. */
    private static final class Requests {
        static final int ASKER = 0, KIND = 1, LENGTH = 2, LEFT = 3, TIME = 4, NUMBER = 5, COLUMNS = 6;

        final int[][] cells = new int[COLUMNS][MAX_REQUESTS];
        int size = 0;
        /** The serial number of the request in progress. */
        int current = NONE;

        void clear() {
            size = 0;
            current = NONE;
        }

        void copyFrom(Requests other) {
            size = other.size;
            current = other.current;
            for (int column = 0; column < COLUMNS; column++) {
                System.arraycopy(other.cells[column], 0, cells[column], 0, MAX_REQUESTS);
            }
        }

        void add(int serial, int asker, int kind, int length, int time) {
            if (size < MAX_REQUESTS) {
                cells[ASKER][size] = asker;
                cells[KIND][size] = kind;
                cells[LENGTH][size] = length;
                cells[LEFT][size] = length;
                cells[TIME][size] = time;
                cells[NUMBER][size] = serial;
                size++;
            }
        }

        void removeAt(int index) {
            if (index < 0 || index >= size) {
                return;
            }
            for (int column = 0; column < COLUMNS; column++) {
                System.arraycopy(cells[column], index + 1, cells[column], index, size - index - 1);
            }
            size--;
        }

        int indexOf(int serial) {
            for (int index = 0; index < size; index++) {
                if (cells[NUMBER][index] == serial) {
                    return index;
                }
            }
            return NONE;
        }

        int serialAt(int index) {
            return index < 0 || index >= size ? NONE : cells[NUMBER][index];
        }

        boolean waits(int index) {
            return cells[NUMBER][index] != current;
        }

        int waiting() {
            return current == NONE ? size : size - 1;
        }

        int waitingWith(int column, int value) {
            int number = 0;
            for (int index = 0; index < size; index++) {
                if (cells[column][index] == value && waits(index)) {
                    number++;
                }
            }
            return number;
        }
    }

    /** The latest answers, in a ring. */
    private static final class AnswerLog {
        static final int PROPERTIES = 6;

        private final int[] cells = new int[MAX_ANSWERS * PROPERTIES];
        private int next = 0;
        int size = 0;

        void clear() {
            next = 0;
            size = 0;
        }

        void copyFrom(AnswerLog other) {
            next = other.next;
            size = other.size;
            System.arraycopy(other.cells, 0, cells, 0, cells.length);
        }

        /** Logs the request at an index, answered at a time, as one that settled so much of a debt. */
        void add(Requests requests, int index, int time, int settled) {
            int base = next * PROPERTIES;
            cells[base] = requests.cells[Requests.NUMBER][index];
            cells[base + 1] = requests.cells[Requests.ASKER][index];
            cells[base + 2] = requests.cells[Requests.KIND][index];
            cells[base + 3] = requests.cells[Requests.TIME][index];
            cells[base + 4] = time;
            cells[base + 5] = settled;
            next = (next + 1) % MAX_ANSWERS;
            size = Math.min(size + 1, MAX_ANSWERS);
        }

        int look(int back, int what) {
            int slot = (next - 1 - back + MAX_ANSWERS) % MAX_ANSWERS;
            return slot < 0 ? NONE : cells[slot * PROPERTIES + what];
        }
    }

    /** What each asker has, owes and has done. */
    private static final class Accounts {
        final int[] credits = new int[MAX_ASKERS];
        final int[] debts = new int[MAX_ASKERS];
        final int[] silences = new int[MAX_ASKERS];
        final int[] answers = new int[MAX_ASKERS];
        final int[] lengths = new int[MAX_ASKERS];
        final int[] vetoes = new int[MAX_ASKERS];

        void begin(int[] firstCredits) {
            for (int asker = 0; asker < MAX_ASKERS; asker++) {
                credits[asker] = firstCredits[asker];
                debts[asker] = 0;
                silences[asker] = 0;
                answers[asker] = 0;
                lengths[asker] = 0;
                vetoes[asker] = 0;
            }
        }

        void copyFrom(Accounts other) {
            System.arraycopy(other.credits, 0, credits, 0, MAX_ASKERS);
            System.arraycopy(other.debts, 0, debts, 0, MAX_ASKERS);
            System.arraycopy(other.silences, 0, silences, 0, MAX_ASKERS);
            System.arraycopy(other.answers, 0, answers, 0, MAX_ASKERS);
            System.arraycopy(other.lengths, 0, lengths, 0, MAX_ASKERS);
            System.arraycopy(other.vetoes, 0, vetoes, 0, MAX_ASKERS);
        }

        int balance(int asker) {
            return credits[asker] - debts[asker];
        }

        int debtAfterPaying(int asker, int price) {
            return debts[asker] + Math.max(0, price - credits[asker]);
        }

        void payVeto(int asker, int price) {
            debts[asker] = debtAfterPaying(asker, price);
            credits[asker] = Math.max(0, credits[asker] - price);
            vetoes[asker]++;
        }

        int settleFromCredits(int asker) {
            int paid = Math.min(credits[asker], debts[asker]);
            credits[asker] -= paid;
            debts[asker] -= paid;
            return paid;
        }

        /** Books an answer and returns how much of the debt it settles. */
        int book(int asker, int length) {
            int settled = Math.min(length, debts[asker]);
            debts[asker] -= settled;
            credits[asker] = Math.min(MAX_CREDITS, credits[asker] + length - settled);
            answers[asker]++;
            lengths[asker] += length;
            return settled;
        }
    }

    /** The votes that count at one moment. */
    private static final class Poll {
        private int kinds = 0;
        int weight = 0;
        final int[] scores = new int[MAX_KINDS];
        final int[] defeated = new int[MAX_KINDS];
        final int[][] placed = new int[MAX_KINDS][MAX_KINDS];
        /** The weights of those that have the one class before the other one. */
        private final int[][] ahead = new int[MAX_KINDS][MAX_KINDS];

        /** Counts the votes of a state; without is an asker whose vote is left out, or NONE. */
        void countVotes(State state, int without) {
            clear(state.setup.kinds);
            for (int asker = 0; asker < state.setup.askers; asker++) {
                if (asker != without && state.isHeard(asker)) {
                    addBallot(state.ballots[asker], state.setup.weights[asker]);
                }
            }
            for (int kind = 0; kind < kinds; kind++) {
                for (int other = 0; other < kinds; other++) {
                    if (defeats(kind, other)) {
                        defeated[kind]++;
                    }
                }
            }
        }

        private void clear(int number) {
            kinds = number;
            weight = 0;
            for (int kind = 0; kind < MAX_KINDS; kind++) {
                scores[kind] = 0;
                defeated[kind] = 0;
                for (int other = 0; other < MAX_KINDS; other++) {
                    placed[kind][other] = 0;
                    ahead[kind][other] = 0;
                }
            }
        }

        private void addBallot(int[] row, int share) {
            weight += share;
            for (int place = 0; place < kinds; place++) {
                int kind = row[place];
                scores[kind] += share * (kinds - 1 - place);
                placed[kind][place] += share;
                for (int behind = place + 1; behind < kinds; behind++) {
                    ahead[kind][row[behind]] += share;
                }
            }
        }

        boolean defeats(int kind, int other) {
            return ahead[kind][other] > ahead[other][kind];
        }

        /** The sum of the distances of all ballots from an order. */
        int disagreement(int[] row) {
            int sum = 0;
            for (int place = 0; place < kinds; place++) {
                for (int behind = place + 1; behind < kinds; behind++) {
                    sum += ahead[row[behind]][row[place]];
                }
            }
            return sum;
        }

        /** Puts the order that is voted by a tally into the row, which stays as it is if no vote counts. */
        void rank(int tally, int[] row) {
            if (weight == 0) {
                return;
            }
            for (int kind = 0; kind < kinds; kind++) {
                int place = kind;
                while (place > 0 && isAbove(kind, row[place - 1], tally)) {
                    row[place] = row[place - 1];
                    place--;
                }
                row[place] = kind;
            }
        }

        /** Whether a class comes before another one in spite of its greater number. */
        private boolean isAbove(int kind, int other, int tally) {
            if (tally == FIRSTS) {
                return hasMoreFirsts(kind, other);
            }
            if (tally == PAIRS && defeated[kind] != defeated[other]) {
                return defeated[kind] > defeated[other];
            }
            return scores[kind] > scores[other];
        }

        private boolean hasMoreFirsts(int kind, int other) {
            for (int place = 0; place < kinds; place++) {
                if (placed[kind][place] != placed[other][place]) {
                    return placed[kind][place] > placed[other][place];
                }
            }
            return false;
        }
    }

    /** All that ticks and changes alter, and what undo, saving and forecasts copy. */
    private static final class State {
        Setup setup;
        int time = 0;
        int tally = POINTS;
        int turn = 0;
        boolean hasCast = false;
        int vetoed = 0;
        int votings = 0;
        int asked = 0;
        int answered = 0;
        final int[] order = new int[MAX_KINDS];
        final int[] manners = new int[MAX_KINDS];
        final int[] kindAnswers = new int[MAX_KINDS];
        final long[] kindWaits = new long[MAX_KINDS];
        final int[][] ballots = new int[MAX_ASKERS][MAX_KINDS];
        final Accounts accounts = new Accounts();
        final Requests requests = new Requests();
        final AnswerLog log = new AnswerLog();

        State(Setup rules) {
            setup = rules;
        }

        void begin(Setup rules) {
            setup = rules;
            time = 0;
            tally = rules.tally;
            turn = 0;
            hasCast = false;
            vetoed = 0;
            votings = 0;
            asked = rules.requests.size;
            answered = 0;
            Rows.number(order);
            for (int kind = 0; kind < MAX_KINDS; kind++) {
                manners[kind] = rules.manners[kind];
                kindAnswers[kind] = 0;
                kindWaits[kind] = 0;
            }
            for (int asker = 0; asker < MAX_ASKERS; asker++) {
                Rows.number(ballots[asker]);
            }
            accounts.begin(rules.credits);
            requests.copyFrom(rules.requests);
            log.clear();
        }

        void copyFrom(State other) {
            setup = other.setup;
            time = other.time;
            tally = other.tally;
            turn = other.turn;
            hasCast = other.hasCast;
            vetoed = other.vetoed;
            votings = other.votings;
            asked = other.asked;
            answered = other.answered;
            Rows.copy(other.order, order);
            Rows.copy(other.manners, manners);
            Rows.copy(other.kindAnswers, kindAnswers);
            System.arraycopy(other.kindWaits, 0, kindWaits, 0, MAX_KINDS);
            for (int asker = 0; asker < MAX_ASKERS; asker++) {
                Rows.copy(other.ballots[asker], ballots[asker]);
            }
            accounts.copyFrom(other.accounts);
            requests.copyFrom(other.requests);
            log.copyFrom(other.log);
        }

        boolean isHeard(int asker) {
            return accounts.silences[asker] < setup.settings[SILENCE];
        }

        boolean isVetoed(int kind) {
            return (vetoed & 1 << kind) != 0;
        }

        /** The answers to an asker, or to all with NONE. */
        int answersOf(int asker) {
            return asker == NONE ? answered : accounts.answers[asker];
        }

        // -- lines

        /** The index of the request of a class that is first in its line, NONE without one that waits. */
        int firstOf(int kind) {
            int best = NONE;
            for (int index = 0; index < requests.size; index++) {
                if (isInLine(index, kind) && (best == NONE || rankInLine(index) < rankInLine(best))) {
                    best = index;
                }
            }
            return best;
        }

        /** The index of the request that stands at a place of a line, NONE if there is none. */
        int inLine(int kind, int place) {
            for (int index = 0; index < requests.size; index++) {
                if (isInLine(index, kind) && numberAhead(index, kind) == place) {
                    return index;
                }
            }
            return NONE;
        }

        private int numberAhead(int index, int kind) {
            int number = 0;
            int rank = rankInLine(index);
            for (int other = 0; other < requests.size; other++) {
                if (isInLine(other, kind)
                        && (rankInLine(other) < rank || rankInLine(other) == rank && other < index)) {
                    number++;
                }
            }
            return number;
        }

        private boolean isInLine(int index, int kind) {
            return requests.cells[Requests.KIND][index] == kind && requests.waits(index);
        }

        /** The smaller one is taken first; on a tie it is the one with the smaller index, hence serial number. */
        private int rankInLine(int index) {
            int asker = requests.cells[Requests.ASKER][index];
            switch (manners[requests.cells[Requests.KIND][index]]) {
                case SHORT: return requests.cells[Requests.LENGTH][index];
                case RICH: return -accounts.credits[asker];
                case OWING: return -accounts.debts[asker];
                default: return 0;
            }
        }

        // -- changes

        int take(int asker, int kind, int length) {
            int serial = asked;
            requests.add(serial, asker, kind, length, time);
            asked++;
            return serial;
        }

        /** The vote of the asker counts again at once: a cast does not wait for the turn to end the silence. */
        void takeBallot(int[] row) {
            Rows.copy(row, ballots[turn]);
            hasCast = true;
            accounts.silences[turn] = 0;
        }

        boolean allowsVeto(int asker, int kind) {
            return !isVetoed(kind) && accounts.debtAfterPaying(asker, setup.settings[PRICE]) <= setup.settings[LIMIT];
        }

        void takeVeto(int asker, int kind) {
            accounts.payVeto(asker, setup.settings[PRICE]);
            vetoed |= 1 << kind;
        }

        // -- ticks

        void pass(int ticks, Poll poll) {
            for (int passed = 0; passed < ticks; passed++) {
                tick(poll);
            }
        }

        void tick(Poll poll) {
            if (isMultipleOf(setup.settings[ROUND])) {
                holdVote(poll);
            }
            if (time != 0 && isMultipleOf(setup.settings[TURN])) {
                passTurn();
            }
            if (requests.current == NONE) {
                takeUp();
            }
            work();
            time++;
        }

        private boolean isMultipleOf(int step) {
            return step > 0 && time % step == 0;
        }

        private void holdVote(Poll poll) {
            poll.countVotes(this, NONE);
            poll.rank(tally, order);
            vetoed = 0;
            votings++;
        }

        private void passTurn() {
            if (!hasCast) {
                accounts.silences[turn] = Math.min(MAX_SILENCE, accounts.silences[turn] + 1);
            }
            hasCast = false;
            turn = turn + 1 < setup.askers ? turn + 1 : 0;
        }

        private void takeUp() {
            for (int place = 0; place < setup.kinds; place++) {
                int first = isVetoed(order[place]) ? NONE : firstOf(order[place]);
                if (first != NONE) {
                    requests.current = requests.serialAt(first);
                    return;
                }
            }
        }

        private void work() {
            int index = requests.indexOf(requests.current);
            if (index == NONE) {
                return;
            }
            requests.cells[Requests.LEFT][index]--;
            if (requests.cells[Requests.LEFT][index] <= 0) {
                finish(index);
            }
        }

        private void finish(int index) {
            int asker = requests.cells[Requests.ASKER][index];
            int kind = requests.cells[Requests.KIND][index];
            int settled = accounts.book(asker, requests.cells[Requests.LENGTH][index]);
            kindAnswers[kind]++;
            kindWaits[kind] += time - requests.cells[Requests.TIME][index];
            answered++;
            log.add(requests, index, time, settled);
            requests.current = NONE;
            requests.removeAt(index);
        }
    }

    /** The states before the latest changes, in a ring. */
    private static final class History {
        private final State[] states = new State[MAX_CHANGES];
        private int latest = 0;
        int size = 0;

        History(Setup rules) {
            for (int slot = 0; slot < MAX_CHANGES; slot++) {
                states[slot] = new State(rules);
            }
        }

        void push(State state) {
            latest = latest + 1 < MAX_CHANGES ? latest + 1 : 0;
            states[latest].copyFrom(state);
            size = Math.min(size + 1, MAX_CHANGES);
        }

        void pop(State state) {
            if (size > 0) {
                state.copyFrom(states[latest]);
                latest = latest > 0 ? latest - 1 : MAX_CHANGES - 1;
                size--;
            }
        }
    }
}
