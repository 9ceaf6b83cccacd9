import java.util.Arrays;
import java.util.NoSuchElementException;

/** A core with renamed registers, told as a text; ../shared/DOC.md says what each call answers. */
public final class RenamedCells {
    public static final int NONE = -1;

    private static final int NOTHING = -2;

    private static final int REGISTERS = 8;
    private static final int FEWEST_CELLS = 9;
    private static final int MOST_CELLS = 24;
    private static final int MOST_ENTRIES = 12;
    private static final int MOST_STEPS = 24;
    private static final int MOST_UNSURE = 4;
    private static final int MOST_GOT = 6;
    private static final int MOST_PLAIN = 200;
    private static final int MOST_CYCLES = 300;
    private static final int MOST_TRIES = 300;
    private static final int MOST_UNDONE = 16;
    private static final int MOST_IMAGES = 3;
    private static final int TAPE_BYTES = 900;
    private static final int MODULUS = 10000;
    private static final int SEEDS = 65537;

    private static final int FINE = 0;
    private static final int NO_SUCH = 1;
    private static final int A_NUMBER = 2;
    private static final int NO_ROOM = 3;
    private static final int A_FAULT = 4;
    private static final int NOT_SO = 5;
    private static final int THERE_IS_NONE = 6;

    private static final int CORE_STOPS = 1;
    private static final int NO_SUCH_STEP = 2;

    private final byte[] tape = new byte[TAPE_BYTES];
    private int taped;
    private boolean told;
    private Program program = new Program();
    private Program draft = new Program();
    private final Reader reader = new Reader(draft);
    private final Machine machine = new Machine(program);
    private final Machine drawn = new Machine(program);
    private final History history = new History(program);
    private final Plain plain = new Plain();
    private final Cycles byCells = new Cycles(program);
    private final Fits sets = new Fits();
    private int refusal;

    public RenamedCells() {
        told = false;
        taped = 0;
        refusal = FINE;
    }

    // ---- the core

    public int feed(int a, int b, int c, int d, int e) {
        if (taped + 20 > TAPE_BYTES) {
            return NONE;
        }
        putBytes(a);
        putBytes(b);
        putBytes(c);
        putBytes(d);
        putBytes(e);
        return taped;
    }

    private void putBytes(int four) {
        for (int shift = 24; shift >= 0 && taped < TAPE_BYTES; shift -= 8) {
            tape[taped] = (byte) (four >>> shift);
            taped++;
        }
    }

    public int core(int n) {
        if (refused(n < 0 || n > taped, A_NUMBER)) {
            return NONE;
        }
        boolean fine = reader.reads(tape, n, draft);
        taped = 0;
        if (refused(!fine, A_FAULT)) {
            return NONE;
        }
        beginWithDraft();
        return program.steps;
    }

    // The two programs change places, so a text with a FAULT never touches the CORE that stays.
    private void beginWithDraft() {
        Program old = program;
        program = draft;
        draft = old;
        told = true;
        machine.begin(program, program.cells);
        history.forget();
        byCells.forget();
        sets.find(program, plain);
    }

    public int fault() {
        return reader.found;
    }

    public int where() {
        return refusal == A_FAULT ? reader.foundAt : NONE;
    }

    // ---- the plain machine

    public int plainSteps() {
        if (refused(!told, NO_SUCH)) {
            return NONE;
        }
        return plainTotal();
    }

    private int plainTotal() {
        plain.play(program, 0, MOST_PLAIN);
        return plain.done;
    }

    public int plainEnd() {
        if (refused(!told, NO_SUCH)) {
            return NONE;
        }
        plain.play(program, 0, MOST_PLAIN);
        if (plain.trapped) {
            return 1;
        }
        return program.has(plain.next) ? 2 : 0;
    }

    public int plainAt(int r, int n) {
        if (refused(!told || !isRegister(r), NO_SUCH)) {
            return NONE;
        }
        if (refused(n < 0 || n > plainTotal(), A_NUMBER)) {
            return NONE;
        }
        plain.play(program, 0, n);
        return plain.register[r];
    }

    public int plainStep(int n) {
        if (refused(!told, NO_SUCH) || refused(n < 0 || n > plainTotal(), A_NUMBER)) {
            return NONE;
        }
        plain.play(program, 0, n);
        return plain.next;
    }

    public int plainMisses() {
        if (refused(!told, NO_SUCH)) {
            return NONE;
        }
        plain.play(program, 0, MOST_PLAIN);
        return plain.missed;
    }

    // ---- registers, cells

    public int value(int r) {
        if (refused(!told || !isRegister(r), NO_SUCH)) {
            return NONE;
        }
        return machine.keptValue(r);
    }

    public int kept(int r) {
        if (refused(!told || !isRegister(r), NO_SUCH)) {
            return NONE;
        }
        return machine.keptCell[r];
    }

    public int mapped(int r) {
        if (refused(!told || !isRegister(r), NO_SUCH)) {
            return NONE;
        }
        return machine.mapBy(machine.count, r);
    }

    public int letGo() {
        if (refused(!told, NO_SUCH)) {
            return NONE;
        }
        return machine.letGoBits(machine.count);
    }

    public int cell(int c, int what) {
        if (refused(!told || c < 0 || c >= program.cells || what < 0 || what > 2, NO_SUCH)) {
            return NONE;
        }
        if (what == 0) {
            return machine.isReady(c) ? machine.cellValue[c] : NOTHING;
        }
        if (what == 1) {
            return machine.holdersBut(machine.letGoBits(machine.count), c);
        }
        return machine.waitersFor(c);
    }

    public int free() {
        if (refused(!told, NO_SUCH)) {
            return NONE;
        }
        return machine.freeBits(machine.count);
    }

    public int ready() {
        if (refused(!told, NO_SUCH)) {
            return NONE;
        }
        return machine.readyBits;
    }

    // ---- the window

    public int entries() {
        if (refused(!told, NO_SUCH)) {
            return NONE;
        }
        return machine.count;
    }

    public int entry(int i, int what) {
        if (refused(!isEntry(i) || what < 0 || what > 8, NO_SUCH)) {
            return NONE;
        }
        switch (what) {
            case 0: return machine.stepOf[i];
            case 1: return machine.newCell[i];
            case 2: return machine.firstCell[i];
            case 3: return machine.secondCell[i];
            case 4: return machine.doneBits >> i & 1;
            case 5: return machine.trappedBits >> i & 1;
            case 6: return machine.mergedBits >> i & 1;
            case 7: return machine.saveBits >> i & 1;
            default: return machine.isSure(i) ? 1 : 0;
        }
    }

    public int runnable() {
        if (refused(!told, NO_SUCH)) {
            return NONE;
        }
        int bits = 0;
        for (int i = 0; i < machine.count; i++) {
            if (machine.canWork(i)) {
                bits |= 1 << i;
            }
        }
        return bits;
    }

    public int nextStep() {
        if (refused(!told, NO_SUCH)) {
            return NONE;
        }
        return machine.next;
    }

    public int fetchable() {
        if (refused(!told, NO_SUCH)) {
            return NONE;
        }
        return machine.whyNotTake();
    }

    public int commitable() {
        if (refused(!told, NO_SUCH)) {
            return NONE;
        }
        return machine.whyNotRetire();
    }

    // ---- maps

    public int walked(int i, int r) {
        if (refused(!isEntry(i) || !isRegister(r), NO_SUCH)) {
            return NONE;
        }
        return machine.mapBy(i + 1, r);
    }

    // A SAVE needs no row of its own: while its skip is in the WINDOW only older ENTRIES can COMMIT,
    // and a COMMIT turns the NEW CELL into the KEPT one, so the MAP walked back is the MAP saved.
    public int saved(int i, int r) {
        if (refused(!isEntry(i) || !isRegister(r), NO_SUCH)) {
            return NONE;
        }
        return (machine.saveBits >> i & 1) == 1 ? machine.mapBy(i + 1, r) : NOTHING;
    }

    public int gives(int i) {
        if (refused(!isEntry(i), NO_SUCH)) {
            return NONE;
        }
        int then = Integer.bitCount(machine.freeBits(i + 1));
        return then - Integer.bitCount(machine.freeBits(machine.count));
    }

    public int agrees() {
        if (refused(!told, NO_SUCH)) {
            return NONE;
        }
        if (machine.resumed || machine.committed > plainTotal()) {
            return 0;
        }
        plain.play(program, 0, machine.committed);
        int gone = machine.letGoBits(machine.count);
        for (int r = 0; r < REGISTERS; r++) {
            boolean matters = (gone >> r & 1) == 0;
            if (matters && machine.keptValue(r) != plain.register[r]) {
                return 0;
            }
        }
        return 1;
    }

    // ---- cycles

    public int cycles(int cells) {
        if (refused(!told, NO_SUCH) || refused(!isCells(cells), A_NUMBER)) {
            return NONE;
        }
        return byCells.took[byCells.slotOf(program, cells)];
    }

    public int commits(int cells) {
        if (refused(!told, NO_SUCH) || refused(!isCells(cells), A_NUMBER)) {
            return NONE;
        }
        return byCells.committed[byCells.slotOf(program, cells)];
    }

    public int misses(int cells) {
        if (refused(!told, NO_SUCH) || refused(!isCells(cells), A_NUMBER)) {
            return NONE;
        }
        return byCells.missed[byCells.slotOf(program, cells)];
    }

    public int crowd(int cells) {
        if (refused(!told, NO_SUCH) || refused(!isCells(cells), A_NUMBER)) {
            return NONE;
        }
        return byCells.crowded[byCells.slotOf(program, cells)];
    }

    public int cellsFor(int n) {
        if (refused(!told, NO_SUCH) || refused(n < 0 || n > MOST_CYCLES, A_NUMBER)) {
            return NONE;
        }
        for (int cells = FEWEST_CELLS; cells <= MOST_CELLS; cells++) {
            if (byCells.took[byCells.slotOf(program, cells)] <= n) {
                return cells;
            }
        }
        return NOTHING;
    }

    public long rate(int cells, boolean lower) {
        if (refused(!told, NO_SUCH) || refused(!isCells(cells), A_NUMBER)) {
            return NONE;
        }
        int slot = byCells.slotOf(program, cells);
        int over = byCells.committed[slot];
        int under = byCells.took[slot];
        int common = commonDivisor(over, under);
        return lower ? under / common : over / common;
    }

    // Of 0 and a number this is the number itself, so nothing committed becomes 0 by 1.
    private static int commonDivisor(int over, int under) {
        for (int d = under; d > 1; d--) {
            if (over % d == 0 && under % d == 0) {
                return d;
            }
        }
        return 1;
    }

    // ---- unsure numbers

    public int fits() {
        if (refused(!told, NO_SUCH)) {
            return NONE;
        }
        return sets.howMany();
    }

    public int fitAt(int i) {
        if (refused(!told || i < 0 || i >= sets.howMany(), NO_SUCH)) {
            return NONE;
        }
        return sets.nth(i);
    }

    public int could() {
        if (refused(!told, NO_SUCH)) {
            return NONE;
        }
        return sets.inSome();
    }

    public int surely() {
        if (refused(!told, NO_SUCH)) {
            return NONE;
        }
        return sets.inAll();
    }

    public int ask() {
        if (refused(!told, NO_SUCH)) {
            return NONE;
        }
        return sets.bestQuestion();
    }

    public int askLeaves() {
        if (refused(!told, NO_SUCH)) {
            return NONE;
        }
        int best = sets.bestQuestion();
        return best < 0 ? NOTHING : sets.leftBy(best);
    }

    public int judge() {
        if (refused(!told, NO_SUCH)) {
            return NONE;
        }
        plain.play(program, 0, MOST_PLAIN);
        return plain.firstNotGot(program);
    }

    // ---- drawn

    public int drawnCommits(int seed, int n) {
        if (refused(!told, NO_SUCH) || refused(!isDraw(seed, n), A_NUMBER)) {
            return NONE;
        }
        drawTries(seed, n);
        return drawn.committed - machine.committed;
    }

    public int drawnValue(int r, int seed, int n) {
        if (refused(!told || !isRegister(r), NO_SUCH) || refused(!isDraw(seed, n), A_NUMBER)) {
            return NONE;
        }
        drawTries(seed, n);
        return drawn.keptValue(r);
    }

    private static boolean isDraw(int seed, int n) {
        return seed >= 0 && seed < SEEDS && n >= 0 && n <= MOST_TRIES;
    }

    private void drawTries(int seed, int n) {
        drawn.copyFrom(machine);
        int now = seed;
        for (int k = 0; k < n; k++) {
            now = nextSeed(now);
            int sort = now % 3;
            if (sort == 0 && drawn.whyNotTake() == 0) {
                drawn.take();
            } else if (sort == 1 && drawn.count > 0) {
                now = nextSeed(now);
                workIfPossible(now % drawn.count);
            } else if (sort == 2 && drawn.whyNotRetire() == 0) {
                drawn.retire();
            }
        }
    }

    private void workIfPossible(int i) {
        if (drawn.canWork(i)) {
            drawn.work(i);
        }
    }

    private static int nextSeed(int seed) {
        return (75 * seed + 74) % SEEDS;
    }

    // ---- acts

    public int fetch() {
        if (refused(!told, NO_SUCH)) {
            return NONE;
        }
        int why = machine.whyNotTake();
        if (refused(why == CORE_STOPS, NOT_SO) || refused(why == NO_SUCH_STEP, THERE_IS_NONE)) {
            return NONE;
        }
        if (refused(why != 0, NO_ROOM)) {
            return NONE;
        }
        history.keep(machine);
        return machine.take();
    }

    public int run(int i) {
        if (refused(!isEntry(i), NO_SUCH) || refused(!machine.canWork(i), NOT_SO)) {
            return NONE;
        }
        history.keep(machine);
        return machine.work(i);
    }

    public int commit() {
        if (refused(!told, NO_SUCH) || refused(machine.count == 0, THERE_IS_NONE)) {
            return NONE;
        }
        if (refused(machine.whyNotRetire() != 0, NOT_SO)) {
            return NONE;
        }
        history.keep(machine);
        return machine.retire();
    }

    public boolean resume(int step) {
        if (refused(!told, NO_SUCH) || refused(step < 0 || step > MOST_STEPS, A_NUMBER)) {
            return false;
        }
        if (refused(!machine.stopped, NOT_SO)) {
            return false;
        }
        history.keep(machine);
        machine.goOnAt(step);
        return true;
    }

    public boolean undo() {
        if (refused(history.acts == 0, THERE_IS_NONE)) {
            return false;
        }
        history.takeBack(machine);
        return true;
    }

    public int image() {
        if (refused(!told, NO_SUCH) || refused(history.pictures >= MOST_IMAGES, NO_ROOM)) {
            return NONE;
        }
        return history.picture(machine);
    }

    public boolean back(int image) {
        if (refused(image < 0 || image >= history.pictures, NO_SUCH)) {
            return false;
        }
        history.returnTo(image, machine);
        return true;
    }

    // ---- what is told

    public int led(int i) throws NoSuchElementException {
        int place = told && i >= 0 ? machine.nthDone(i) : NONE;
        if (place < 0) {
            throw new NoSuchElementException();
        }
        return place;
    }

    public int size(int what) {
        if (what < 0 || what > 13) {
            return NONE;
        }
        if (what == 13) {
            return taped;
        }
        if (!told) {
            return 0;
        }
        return what < 8 ? sizeOfText(what) : sizeOfState(what);
    }

    private int sizeOfText(int what) {
        switch (what) {
            case 0: return program.cells;
            case 1: return program.window;
            case 2: return program.saves;
            case 3: return program.share;
            case 4: return program.early ? 1 : 0;
            case 5: return program.steps;
            case 6: return program.unsures;
            default: return program.gots;
        }
    }

    private int sizeOfState(int what) {
        switch (what) {
            case 8: return machine.committed;
            case 9: return Integer.bitCount(machine.saveBits);
            case 10: return machine.stopped ? 1 : 0;
            case 11: return history.acts;
            default: return history.pictures;
        }
    }

    public int trouble() {
        return refusal;
    }

    private boolean refused(boolean really, int why) {
        refusal = really ? why : FINE;
        return really;
    }

    private static boolean isRegister(int r) {
        return r >= 0 && r < REGISTERS;
    }

    private static boolean isCells(int cells) {
        return cells >= FEWEST_CELLS && cells <= MOST_CELLS;
    }

    private boolean isEntry(int i) {
        return told && i >= 0 && i < machine.count;
    }

    /** What a text tells: the core's sizes, its STEPS, the unsure numbers and what was got. */
    private static final class Program {
        static final int SET = 0;
        static final int ADD = 1;
        static final int SUB = 2;
        static final int DIV = 3;
        static final int MOVE = 4;
        static final int SKIP = 5;
        static final int TRAP = -1;

        int cells;
        int window;
        int saves;
        int share;
        boolean early;
        int steps;
        final int[] kind = new int[MOST_STEPS];
        final int[] target = new int[MOST_STEPS];
        final int[] first = new int[MOST_STEPS];
        final int[] second = new int[MOST_STEPS];
        final int[] number = new int[MOST_STEPS];
        final boolean[] guessedYes = new boolean[MOST_STEPS];
        int unsures;
        final int[] unsureStep = new int[MOST_UNSURE];
        final int[] unsureNumber = new int[MOST_UNSURE];
        int gots;
        final int[] gotRegister = new int[MOST_GOT];
        final int[] gotNumber = new int[MOST_GOT];

        void clear() {
            steps = 0;
            unsures = 0;
            gots = 0;
        }

        /** The row of the STEP that is being told, empty; it counts from steps++ on. */
        int emptyStep(int sort) {
            int step = steps < MOST_STEPS ? steps : MOST_STEPS - 1;
            kind[step] = sort;
            target[step] = NONE;
            first[step] = NONE;
            second[step] = NONE;
            number[step] = 0;
            guessedYes[step] = false;
            return step;
        }

        boolean has(int step) {
            return step >= 0 && step < steps;
        }

        boolean isUnsure(int step) {
            for (int u = 0; u < unsures; u++) {
                if (unsureStep[u] == step) {
                    return true;
                }
            }
            return false;
        }

        boolean isGot(int register) {
            for (int g = 0; g < gots; g++) {
                if (gotRegister[g] == register) {
                    return true;
                }
            }
            return false;
        }

        /** The number of a set, the unsure ones among the bits of others being the other ones. */
        int numberBy(int step, int others) {
            for (int u = 0; u < unsures; u++) {
                if (unsureStep[u] == step && (others >> u & 1) == 1) {
                    return unsureNumber[u];
                }
            }
            return number[step];
        }

        boolean isRisky(int step) {
            return kind[step] == SKIP || kind[step] == DIV;
        }

        int outcome(int step, int a, int b) {
            switch (kind[step]) {
                case SET: return number[step];
                case ADD: return (a + b) % MODULUS;
                case SUB: return (a - b + MODULUS) % MODULUS;
                case DIV: return b == 0 ? TRAP : a / b;
                default: return a;
            }
        }

        int nextBehind(int step, int a, int b) {
            return kind[step] == SKIP && a == b ? number[step] : step + 1;
        }

        int guessBehind(int step) {
            return kind[step] == SKIP && guessedYes[step] ? number[step] : step + 1;
        }
    }

    /** A text parted into TOKENS, up to its end or to the first byte that begins none. */
    private static final class Tokens {
        static final int END = 0;
        static final int WORD = 1;
        static final int WHOLE = 2;
        static final int SEMICOLON = 3;
        static final int NO_TOKEN = 4;

        private static final int LONGEST_WORD = 8;
        private static final int LONGEST_WHOLE = 4;

        final int[] sort = new int[TAPE_BYTES + 1];
        final int[] start = new int[TAPE_BYTES + 1];
        final int[] end = new int[TAPE_BYTES + 1];
        int last;

        // The last TOKEN is the END or NO_TOKEN; a reader goes on behind neither.
        void part(byte[] bytes, int length) {
            int place = pastBlanks(bytes, 0, length);
            int k = 0;
            while (place < length && k < TAPE_BYTES) {
                start[k] = place;
                end[k] = runEnd(bytes, place, length);
                sort[k] = sortOf(bytes[place], end[k] - place);
                if (sort[k] == NO_TOKEN) {
                    last = k;
                    return;
                }
                place = pastBlanks(bytes, end[k], length);
                k++;
            }
            start[k] = length;
            end[k] = length;
            sort[k] = END;
            last = k;
        }

        private static int pastBlanks(byte[] bytes, int from, int length) {
            int place = from;
            while (place < length && bytes[place] == ' ') {
                place++;
            }
            return place;
        }

        private static boolean isLetter(byte b) {
            return b >= 'a' && b <= 'z';
        }

        private static boolean isDigit(byte b) {
            return b >= '0' && b <= '9';
        }

        private static int runEnd(byte[] bytes, int from, int length) {
            boolean letters = isLetter(bytes[from]);
            boolean digits = isDigit(bytes[from]);
            int place = from + 1;
            while (place < length
                    && (letters && isLetter(bytes[place]) || digits && isDigit(bytes[place]))) {
                place++;
            }
            return place;
        }

        private static int sortOf(byte begins, int howLong) {
            if (isLetter(begins)) {
                return howLong <= LONGEST_WORD ? WORD : NO_TOKEN;
            }
            if (isDigit(begins)) {
                return howLong <= LONGEST_WHOLE ? WHOLE : NO_TOKEN;
            }
            return begins == ';' ? SEMICOLON : NO_TOKEN;
        }
    }

    /** Reads a text into a Program, up to the first FAULT from the left. */
    private static final class Reader {
        private static final int FORM = 1;
        private static final int NO_SET = 2;
        private static final int TWICE = 3;
        private static final int BOUNDS = 4;
        private static final int MANY = 5;
        private static final int LACKS = 6;

        private static final int CORE_LINE = 6;
        private static final int UNSURE_LINE = 7;
        private static final int GOT_LINE = 8;

        int found;
        int foundAt;
        private byte[] bytes = new byte[0];
        private final Tokens tokens = new Tokens();
        private int at;
        private int taken;
        private int takenAt;
        private Program into;

        Reader(Program draft) {
            into = draft;
        }

        boolean reads(byte[] tape, int n, Program program) {
            int length = n < 0 ? 0 : Math.min(n, tape.length);
            bytes = tape;
            tokens.part(tape, length);
            at = 0;
            found = 0;
            foundAt = 0;
            into = program;
            into.clear();
            for (int line = 0; line <= length; line++) {
                if (!readLine(line)) {
                    return false;
                }
                if (tokens.sort[at] == Tokens.END) {
                    return into.steps > 0 || fails(LACKS);
                }
                if (tokens.sort[at] != Tokens.SEMICOLON) {
                    return fails(FORM);
                }
                advance();
            }
            return fails(FORM);
        }

        private void advance() {
            if (at < tokens.last) {
                at++;
            }
        }

        private boolean fails(int fault) {
            found = fault;
            foundAt = tokens.start[at];
            return false;
        }

        private boolean failsAt(int fault, int place) {
            found = fault;
            foundAt = place;
            return false;
        }

        private boolean readLine(int line) {
            int sort = sortOfLine();
            if (sort < 0) {
                return fails(FORM);
            }
            if (sort == CORE_LINE) {
                return line == 0 ? readCore() : fails(TWICE);
            }
            if (line == 0) {
                return fails(LACKS);
            }
            if (sort == UNSURE_LINE) {
                return into.unsures < MOST_UNSURE ? readUnsure() : fails(MANY);
            }
            if (sort == GOT_LINE) {
                return into.gots < MOST_GOT ? readGot() : fails(MANY);
            }
            if (into.steps >= MOST_STEPS) {
                return fails(MANY);
            }
            boolean fine = sort == Program.SKIP ? readSkip() : readChange(sort);
            into.steps += fine ? 1 : 0;
            return fine;
        }

        private int sortOfLine() {
            if (isWord("set")) {
                return Program.SET;
            }
            if (isWord("add")) {
                return Program.ADD;
            }
            if (isWord("sub")) {
                return Program.SUB;
            }
            if (isWord("div")) {
                return Program.DIV;
            }
            if (isWord("move")) {
                return Program.MOVE;
            }
            if (isWord("skip")) {
                return Program.SKIP;
            }
            if (isWord("core")) {
                return CORE_LINE;
            }
            if (isWord("unsure")) {
                return UNSURE_LINE;
            }
            return isWord("got") ? GOT_LINE : NONE;
        }

        private boolean readCore() {
            advance();
            if (!takesWord("cells") || !takesWhole(FEWEST_CELLS, MOST_CELLS)) {
                return false;
            }
            into.cells = taken;
            if (!takesWord("window") || !takesWhole(2, MOST_ENTRIES)) {
                return false;
            }
            into.window = taken;
            if (!takesWord("saves") || !takesWhole(0, 4)) {
                return false;
            }
            into.saves = taken;
            if (!takesWord("share") || !takesWhole(1, 4)) {
                return false;
            }
            into.share = taken;
            into.early = isWord("early");
            return into.early ? takesWord("early") : takesWord("late");
        }

        private boolean readSkip() {
            advance();
            int step = into.emptyStep(Program.SKIP);
            if (!takesPair(step) || !takesWhole(0, MOST_STEPS)) {
                return false;
            }
            into.number[step] = taken;
            into.guessedYes[step] = isWord("yes");
            return into.guessedYes[step] ? takesWord("yes") : takesWord("no");
        }

        private boolean readChange(int kind) {
            advance();
            int step = into.emptyStep(kind);
            if (!takesWhole(0, REGISTERS - 1)) {
                return false;
            }
            into.target[step] = taken;
            if (kind == Program.SET) {
                boolean fine = takesWhole(0, MODULUS - 1);
                into.number[step] = taken;
                return fine;
            }
            if (kind == Program.MOVE) {
                boolean fine = takesWhole(0, REGISTERS - 1);
                into.first[step] = taken;
                return fine;
            }
            return takesPair(step);
        }

        private boolean takesPair(int step) {
            if (!takesWhole(0, REGISTERS - 1)) {
                return false;
            }
            into.first[step] = taken;
            boolean fine = takesWhole(0, REGISTERS - 1);
            into.second[step] = taken;
            return fine;
        }

        private boolean readUnsure() {
            advance();
            if (!takesWhole(0, MODULUS - 1)) {
                return false;
            }
            int step = taken;
            if (!into.has(step) || into.kind[step] != Program.SET) {
                return failsAt(NO_SET, takenAt);
            }
            if (into.isUnsure(step)) {
                return failsAt(TWICE, takenAt);
            }
            if (!takesWhole(0, MODULUS - 1)) {
                return false;
            }
            into.unsureStep[into.unsures] = step;
            into.unsureNumber[into.unsures] = taken;
            into.unsures++;
            return true;
        }

        private boolean readGot() {
            advance();
            if (!takesWhole(0, REGISTERS - 1)) {
                return false;
            }
            int register = taken;
            if (into.isGot(register)) {
                return failsAt(TWICE, takenAt);
            }
            if (!takesWhole(0, MODULUS - 1)) {
                return false;
            }
            into.gotRegister[into.gots] = register;
            into.gotNumber[into.gots] = taken;
            into.gots++;
            return true;
        }

        private boolean takesWord(String word) {
            if (!isWord(word)) {
                return fails(FORM);
            }
            advance();
            return true;
        }

        private boolean takesWhole(int low, int high) {
            if (tokens.sort[at] != Tokens.WHOLE) {
                return fails(FORM);
            }
            taken = wholeHere();
            takenAt = tokens.start[at];
            if (taken < low || taken > high) {
                return fails(BOUNDS);
            }
            advance();
            return true;
        }

        private boolean isWord(String word) {
            int from = tokens.start[at];
            if (tokens.sort[at] != Tokens.WORD || tokens.end[at] - from != word.length()) {
                return false;
            }
            for (int k = 0; k < word.length(); k++) {
                if (bytes[from + k] != word.charAt(k)) {
                    return false;
                }
            }
            return true;
        }

        private int wholeHere() {
            int whole = 0;
            for (int k = tokens.start[at]; k < tokens.end[at]; k++) {
                whole = whole * 10 + (bytes[k] - '0');
            }
            return whole;
        }
    }

    /** The PLAIN machine: one STEP behind the other. */
    private static final class Plain {
        final int[] register = new int[REGISTERS];
        int done;
        int next;
        int missed;
        boolean trapped;

        void play(Program program, int others, int limit) {
            Arrays.fill(register, 0);
            done = 0;
            next = 0;
            missed = 0;
            trapped = false;
            for (int n = 0; n < limit && program.has(next) && !trapped; n++) {
                playStep(program, others);
            }
        }

        // A STEP either is done, or it TRAPS and ends the play.
        private void playStep(Program program, int others) {
            int step = next;
            int a = read(program.first[step]);
            int b = read(program.second[step]);
            if (program.kind[step] == Program.SKIP) {
                next = program.nextBehind(step, a, b);
                missed += next == program.guessBehind(step) ? 0 : 1;
                done++;
                return;
            }
            boolean isSet = program.kind[step] == Program.SET;
            int becomes = isSet ? program.numberBy(step, others) : program.outcome(step, a, b);
            if (becomes == Program.TRAP) {
                trapped = true;
                return;
            }
            register[program.target[step]] = becomes;
            next = step + 1;
            done++;
        }

        private int read(int r) {
            return isRegister(r) ? register[r] : 0;
        }

        int firstNotGot(Program program) {
            for (int g = 0; g < program.gots; g++) {
                if (register[program.gotRegister[g]] != program.gotNumber[g]) {
                    return g;
                }
            }
            return NOTHING;
        }
    }

    /** The CORE as it stands: CELLS, KEPT, WINDOW, NEXT; bits of ENTRIES count from the oldest on. */
    private static final class Machine {
        private Program program;
        private int cells;
        final int[] cellValue = new int[MOST_CELLS];
        int readyBits;
        final int[] keptCell = new int[REGISTERS];
        // Registers whose KEPT CELL was taken while they were LET GO.
        private int takenBits;
        int count;
        final int[] stepOf = new int[MOST_ENTRIES];
        final int[] newCell = new int[MOST_ENTRIES];
        final int[] firstCell = new int[MOST_ENTRIES];
        final int[] secondCell = new int[MOST_ENTRIES];
        // ENTRIES that are a skip or a div: none younger is SURE before they are DONE.
        private int riskyBits;
        int doneBits;
        int trappedBits;
        int mergedBits;
        int saveBits;
        int next;
        boolean stopped;
        boolean resumed;
        int committed;

        Machine(Program first) {
            program = first;
        }

        void begin(Program told, int howMany) {
            program = told;
            cells = howMany;
            Arrays.fill(cellValue, 0);
            readyBits = (1 << REGISTERS) - 1;
            for (int r = 0; r < REGISTERS; r++) {
                keptCell[r] = r;
            }
            takenBits = 0;
            keepOldest(0);
            next = 0;
            stopped = false;
            resumed = false;
            committed = 0;
        }

        void copyFrom(Machine other) {
            program = other.program;
            cells = other.cells;
            System.arraycopy(other.cellValue, 0, cellValue, 0, MOST_CELLS);
            readyBits = other.readyBits;
            System.arraycopy(other.keptCell, 0, keptCell, 0, REGISTERS);
            takenBits = other.takenBits;
            count = other.count;
            System.arraycopy(other.stepOf, 0, stepOf, 0, MOST_ENTRIES);
            System.arraycopy(other.newCell, 0, newCell, 0, MOST_ENTRIES);
            System.arraycopy(other.firstCell, 0, firstCell, 0, MOST_ENTRIES);
            System.arraycopy(other.secondCell, 0, secondCell, 0, MOST_ENTRIES);
            riskyBits = other.riskyBits;
            doneBits = other.doneBits;
            trappedBits = other.trappedBits;
            mergedBits = other.mergedBits;
            saveBits = other.saveBits;
            next = other.next;
            stopped = other.stopped;
            resumed = other.resumed;
            committed = other.committed;
        }

        private void keepOldest(int howMany) {
            int mask = (1 << howMany) - 1;
            count = howMany;
            riskyBits &= mask;
            doneBits &= mask;
            trappedBits &= mask;
            mergedBits &= mask;
            saveBits &= mask;
        }

        boolean isReady(int c) {
            return c >= 0 && (readyBits >> c & 1) == 1;
        }

        private boolean isDone(int i) {
            return (doneBits >> i & 1) == 1;
        }

        private static int bitOf(int c) {
            return c < 0 ? 0 : 1 << c;
        }

        /** The MAP's CELL of a register, by the oldest ENTRIES alone. */
        int mapBy(int among, int r) {
            for (int i = among - 1; i >= 0; i--) {
                if (program.target[stepOf[i]] == r) {
                    return newCell[i];
                }
            }
            return keptCell[r];
        }

        /** How many ENTRIES, from the oldest on, are SURE: those ahead of the first doubtful one. */
        private int sureOnes() {
            int doubtful = riskyBits & ~doneBits | trappedBits;
            return doubtful == 0 ? count : Integer.numberOfTrailingZeros(doubtful);
        }

        boolean isSure(int i) {
            return i < sureOnes();
        }

        int letGoBits(int among) {
            if (!program.early) {
                return 0;
            }
            int sure = sureOnes();
            int busy = 0;
            int replaced = 0;
            for (int i = 0; i < among; i++) {
                busy |= bitOf(newCell[i]);
                if (!isDone(i)) {
                    busy |= bitOf(firstCell[i]) | bitOf(secondCell[i]);
                }
                if (i < sure) {
                    replaced |= bitOf(program.target[stepOf[i]]);
                }
            }
            int gone = takenBits;
            for (int r = 0; r < REGISTERS; r++) {
                if ((busy & bitOf(keptCell[r])) == 0) {
                    gone |= replaced & bitOf(r);
                }
            }
            return gone;
        }

        int freeBits(int among) {
            int held = 0;
            int gone = letGoBits(among);
            for (int r = 0; r < REGISTERS; r++) {
                if ((gone & bitOf(r)) == 0) {
                    held |= bitOf(keptCell[r]);
                }
            }
            for (int i = 0; i < among; i++) {
                held |= bitOf(newCell[i]);
            }
            return ~held & ((1 << cells) - 1);
        }

        /** HOLDERS of a CELL, but for the registers among the bits of gone. */
        int holdersBut(int gone, int c) {
            int holders = 0;
            for (int r = 0; r < REGISTERS; r++) {
                if (keptCell[r] == c && (gone & bitOf(r)) == 0) {
                    holders++;
                }
            }
            for (int i = 0; i < count; i++) {
                if (newCell[i] == c) {
                    holders++;
                }
            }
            return holders;
        }

        int waitersFor(int c) {
            int waiters = 0;
            for (int i = 0; i < count; i++) {
                if (!isDone(i) && (firstCell[i] == c || secondCell[i] == c)) {
                    waiters++;
                }
            }
            return waiters;
        }

        int keptValue(int r) {
            boolean gone = (letGoBits(count) & bitOf(r)) != 0;
            return gone ? NOTHING : cellValue[keptCell[r]];
        }

        int nthDone(int n) {
            int left = n;
            for (int i = 0; i < count; i++) {
                if (isDone(i)) {
                    if (left == 0) {
                        return i;
                    }
                    left--;
                }
            }
            return NONE;
        }

        int oldestToWork() {
            for (int i = 0; i < count; i++) {
                if (canWork(i)) {
                    return i;
                }
            }
            return NONE;
        }

        boolean isOver() {
            return stopped || count == 0 && !program.has(next);
        }

        /** 0, or why the NEXT STEP can't be FETCHED, numbered as fetchable() tells. */
        int whyNotTake() {
            if (stopped) {
                return CORE_STOPS;
            }
            if (!program.has(next)) {
                return NO_SUCH_STEP;
            }
            if (count >= program.window) {
                return 3;
            }
            boolean needsCell = program.kind[next] != Program.SKIP && !mergesNext();
            return needsCell && freeBits(count) == 0 ? 4 : 0;
        }

        private boolean mergesNext() {
            if (program.kind[next] != Program.MOVE) {
                return false;
            }
            int read = mapBy(count, program.first[next]);
            return holdersBut(letGoBits(count), read) < program.share;
        }

        /** FETCH; whyNotTake() has answered 0. */
        int take() {
            int step = next;
            int i = count;
            firstCell[i] = cellToRead(program.first[step]);
            secondCell[i] = cellToRead(program.second[step]);
            if (program.kind[step] == Program.SKIP) {
                newCell[i] = NOTHING;
                saveIfRoom(i);
            } else if (mergesNext()) {
                newCell[i] = firstCell[i];
                mergedBits |= 1 << i;
                doneBits |= 1 << i;
            } else {
                newCell[i] = Integer.numberOfTrailingZeros(freeBits(count));
                claim(newCell[i]);
            }
            if (program.isRisky(step)) {
                riskyBits |= 1 << i;
            }
            stepOf[i] = step;
            count++;
            next = program.guessBehind(step);
            return step;
        }

        private int cellToRead(int r) {
            return isRegister(r) ? mapBy(count, r) : NOTHING;
        }

        private void saveIfRoom(int i) {
            if (Integer.bitCount(saveBits) < program.saves) {
                saveBits |= 1 << i;
            }
        }

        private void claim(int c) {
            readyBits &= ~bitOf(c);
            for (int r = 0; r < REGISTERS; r++) {
                if (keptCell[r] == c) {
                    takenBits |= bitOf(r);
                }
            }
        }

        boolean canWork(int i) {
            return !isDone(i) && canRead(firstCell[i]) && canRead(secondCell[i]);
        }

        private boolean canRead(int c) {
            return c < 0 || isReady(c);
        }

        private int valueRead(int c) {
            return c < 0 ? 0 : cellValue[c];
        }

        /** What is next behind an ENTRY whose CELLS, read, are READY, isn't as guessed. */
        boolean misguessed(int i) {
            return nextOf(i) != program.guessBehind(stepOf[i]);
        }

        private int nextOf(int i) {
            return program.nextBehind(stepOf[i], valueRead(firstCell[i]), valueRead(secondCell[i]));
        }

        /** RUN; canWork(i) has answered true. How many ENTRIES are taken out. */
        int work(int i) {
            doneBits |= 1 << i;
            if (program.kind[stepOf[i]] == Program.SKIP) {
                return workSkip(i);
            }
            int becomes = program.outcome(stepOf[i], valueRead(firstCell[i]), valueRead(secondCell[i]));
            if (becomes == Program.TRAP) {
                trappedBits |= 1 << i;
            } else {
                cellValue[newCell[i]] = becomes;
                readyBits |= bitOf(newCell[i]);
            }
            return 0;
        }

        private int workSkip(int i) {
            saveBits &= ~(1 << i);
            int then = nextOf(i);
            if (then == program.guessBehind(stepOf[i])) {
                return 0;
            }
            int out = count - i - 1;
            next = then;
            keepOldest(i + 1);
            return out;
        }

        /** 0, or why the oldest ENTRY can't COMMIT, numbered as commitable() tells. */
        int whyNotRetire() {
            if (count == 0) {
                return 1;
            }
            if (!isDone(0)) {
                return 2;
            }
            boolean merged = (mergedBits & 1) == 1;
            return merged && !isReady(newCell[0]) ? 3 : 0;
        }

        /** COMMIT; whyNotRetire() has answered 0. The STEP, or NOTHING if it TRAPPED. */
        int retire() {
            int step = stepOf[0];
            if ((trappedBits & 1) == 1) {
                keepOldest(0);
                stopped = true;
                next = step;
                return NOTHING;
            }
            int r = program.target[step];
            if (isRegister(r)) {
                keptCell[r] = newCell[0];
                takenBits &= ~bitOf(r);
            }
            dropOldest();
            committed++;
            return step;
        }

        private void dropOldest() {
            count--;
            System.arraycopy(stepOf, 1, stepOf, 0, count);
            System.arraycopy(newCell, 1, newCell, 0, count);
            System.arraycopy(firstCell, 1, firstCell, 0, count);
            System.arraycopy(secondCell, 1, secondCell, 0, count);
            riskyBits >>= 1;
            doneBits >>= 1;
            trappedBits >>= 1;
            mergedBits >>= 1;
            saveBits >>= 1;
        }

        void goOnAt(int step) {
            next = step;
            stopped = false;
            resumed = true;
        }
    }

    /** What can be undone, and the IMAGES. */
    private static final class History {
        private final Machine[] past = new Machine[MOST_UNDONE];
        private final Machine[] images = new Machine[MOST_IMAGES];
        private int top;
        int acts;
        int pictures;

        History(Program first) {
            for (int k = 0; k < MOST_UNDONE; k++) {
                past[k] = new Machine(first);
            }
            for (int k = 0; k < MOST_IMAGES; k++) {
                images[k] = new Machine(first);
            }
        }

        void forget() {
            acts = 0;
            pictures = 0;
        }

        // The rows are a ring: the seventeenth ACT takes the place of the first.
        void keep(Machine now) {
            past[top].copyFrom(now);
            top = (top + 1) % MOST_UNDONE;
            acts = Math.min(acts + 1, MOST_UNDONE);
        }

        void takeBack(Machine now) {
            top = (top + MOST_UNDONE - 1) % MOST_UNDONE;
            acts--;
            now.copyFrom(past[top]);
        }

        int picture(Machine now) {
            images[pictures].copyFrom(now);
            pictures++;
            return pictures - 1;
        }

        void returnTo(int image, Machine now) {
            now.copyFrom(images[image]);
            acts = 0;
        }
    }

    /** The CYCLES of a program by each number of CELLS, reckoned once, when they are asked for. */
    private static final class Cycles {
        private static final int SLOTS = MOST_CELLS - FEWEST_CELLS + 1;

        private final Machine machine;
        final int[] took = new int[SLOTS];
        final int[] committed = new int[SLOTS];
        final int[] missed = new int[SLOTS];
        final int[] crowded = new int[SLOTS];

        Cycles(Program first) {
            machine = new Machine(first);
        }

        void forget() {
            Arrays.fill(took, 0);
        }

        // A program has a STEP to FETCH, so it takes one CYCLE at least, and 0 means: not reckoned.
        int slotOf(Program program, int cells) {
            int slot = cells - FEWEST_CELLS;
            if (took[slot] != 0) {
                return slot;
            }
            machine.begin(program, cells);
            missed[slot] = 0;
            crowded[slot] = 0;
            int n = 0;
            while (n < MOST_CYCLES && !machine.isOver()) {
                missed[slot] += goOneCycle();
                int held = cells - Integer.bitCount(machine.freeBits(machine.count));
                crowded[slot] = Math.max(crowded[slot], held);
                n++;
            }
            took[slot] = n;
            committed[slot] = machine.committed;
            return slot;
        }

        /** How many MISSES, 0 or 1. */
        private int goOneCycle() {
            for (int k = 0; k < 2 && machine.whyNotRetire() == 0; k++) {
                machine.retire();
            }
            int missesNow = 0;
            for (int k = 0; k < 2 && missesNow == 0; k++) {
                int i = machine.oldestToWork();
                if (i >= 0) {
                    missesNow = machine.misguessed(i) ? 1 : 0;
                    machine.work(i);
                }
            }
            for (int k = 0; k < 2 && machine.whyNotTake() == 0; k++) {
                machine.take();
            }
            return missesNow;
        }
    }

    /** FITS: bit m of found is 1 if the set of unsure ones whose bits make m fits. */
    private static final class Fits {
        private int found;
        private int unsures;

        void find(Program program, Plain plain) {
            found = 0;
            unsures = program.unsures;
            for (int m = 0; m < 1 << unsures; m++) {
                plain.play(program, m, MOST_PLAIN);
                if (plain.firstNotGot(program) < 0) {
                    found |= 1 << m;
                }
            }
        }

        private boolean fitsBy(int m) {
            return (found >> m & 1) == 1;
        }

        int howMany() {
            return Integer.bitCount(found);
        }

        int nth(int n) {
            int left = n;
            for (int m = 0; m < 1 << unsures; m++) {
                if (fitsBy(m)) {
                    if (left == 0) {
                        return m;
                    }
                    left--;
                }
            }
            return NONE;
        }

        int inSome() {
            int some = 0;
            for (int m = 0; m < 1 << unsures; m++) {
                some |= fitsBy(m) ? m : 0;
            }
            return some;
        }

        int inAll() {
            int all = found == 0 ? 0 : (1 << unsures) - 1;
            for (int m = 0; m < 1 << unsures; m++) {
                all &= fitsBy(m) ? m : all;
            }
            return all;
        }

        int leftBy(int u) {
            int with = 0;
            for (int m = 0; m < 1 << unsures; m++) {
                if (fitsBy(m) && (m >> u & 1) == 1) {
                    with++;
                }
            }
            return Math.max(with, howMany() - with);
        }

        int bestQuestion() {
            int best = NOTHING;
            for (int u = 0; u < unsures && found != 0; u++) {
                if (best < 0 || leftBy(u) < leftBy(best)) {
                    best = u;
                }
            }
            return best;
        }
    }
}
