import java.util.Arrays;

/**
 * A learner of words over names without end: it learns MACHINE 0 by SHORT words and TESTS.
 * The words in capitals are those of the document.
 */
public final class WordLearner {
    /** There is none. */
    public static final int NONE = -1;

    private static final int NO_SUCH = -2;
    private static final int BAD_NUMBER = -3;
    private static final int TOO_MANY = -4;
    private static final int NOT_NOW = -5;
    private static final int LESS_FAULT = -30;

    private static final int MACHINES = 2;
    private static final int MAX_STATES = 5;
    private static final int MAX_REGISTERS = 2;
    private static final int MAX_SYMBOLS = 2;
    private static final int GUARDS = 3;
    private static final int NEW = 2;
    private static final int TAPE_ROOM = 500;
    private static final int WORD_ROOM = 12;
    private static final int MAX_NAME = 99;
    private static final int SEARCH_DEPTH = 20;
    private static final int LIST_ROOM = 10;
    private static final int LIST_LETTERS = 6;
    private static final int LIST_NAMES = 3;
    private static final int ASKED_NAMES = 4;
    private static final int COUNT_DEPTH = 5;
    private static final int LEARN_STEPS = 40;

    /** Above every NAME that a text or a search can bring. */
    private static final int FRESH = 1000;

    private static final int[] POWERS_OF_3 = {1, 3, 9, 27};
    private static final int[] WAYS_TO_NAME = {1, 1, 2, 5, 15, 52};

    private final Reader reader;
    private final MachineText machineText;
    private final Machine[] machines;
    private final Word word;
    private final Word wordDraft;
    private final Learner learner;
    private final Search search;
    private final Word toldOtherwise;
    private final Going going;
    private final Going[] trail;
    private boolean compared;
    private boolean agreed;
    private int coupleCount;

    public WordLearner() {
        reader = new Reader();
        machineText = new MachineText();
        machines = new Machine[MACHINES];
        for (int i = 0; i < MACHINES; i++) {
            machines[i] = new Machine();
        }
        word = new Word();
        wordDraft = new Word();
        search = new Search();
        learner = new Learner(machines[0], search);
        toldOtherwise = new Word();
        going = new Going();
        trail = new Going[COUNT_DEPTH + 1];
        for (int i = 0; i <= COUNT_DEPTH; i++) {
            trail[i] = new Going();
        }
    }

    // ---- texts

    public int feed(int a, int b, int c, int d, int e) {
        if (reader.held + 20 > TAPE_ROOM) {
            return TOO_MANY;
        }
        reader.put(a);
        reader.put(b);
        reader.put(c);
        reader.put(d);
        reader.put(e);
        return reader.held;
    }

    public int machine(int machine, int n) {
        if (!isMachine(machine)) {
            return NO_SUCH;
        }
        if (n < 0 || n > reader.held) {
            return BAD_NUMBER;
        }
        reader.open(n);
        machineText.read(reader);
        if (reader.fault != 0) {
            return LESS_FAULT - reader.fault;
        }
        machines[machine].copy(machineText.draft);
        noteChange(machine);
        return machines[machine].countMoves();
    }

    public int word(int n) {
        if (n < 0 || n > reader.held) {
            return BAD_NUMBER;
        }
        reader.open(n);
        readWord();
        if (reader.fault != 0) {
            return LESS_FAULT - reader.fault;
        }
        word.copy(wordDraft);
        return word.length;
    }

    public int fault(int what) {
        if (what == 0) {
            return reader.fault;
        }
        return what == 1 ? reader.place : NONE;
    }

    public int accept(int machine, int state, int is) {
        if (!isMachine(machine) || state < 0 || state >= machines[machine].states) {
            return NO_SUCH;
        }
        if (is != 0 && is != 1) {
            return BAD_NUMBER;
        }
        Machine changed = machines[machine];
        int was = (changed.accepting >> state) & 1;
        if (was != is) {
            changed.accepting ^= 1 << state;
            noteChange(machine);
        }
        return was;
    }

    public int move(int machine, int state, int symbol, int guard, int to, int keep, int drop) {
        if (!isMachine(machine) || !machines[machine].hasPlace(state, symbol, guard)) {
            return NO_SUCH;
        }
        Machine changed = machines[machine];
        if (to < NONE || to >= changed.states || !changed.isRegisterOrNone(keep) || !changed.isRegisterOrNone(drop)) {
            return BAD_NUMBER;
        }
        int slot = Machine.slot(state, symbol, guard);
        int was = changed.to[slot] != NONE ? 1 : 0;
        int kept = to == NONE ? NONE : keep;
        int dropped = to == NONE ? NONE : drop;
        if (changed.to[slot] != to || changed.keep[slot] != kept || changed.drop[slot] != dropped) {
            changed.put(slot, to, kept, dropped);
            noteChange(machine);
        }
        return was;
    }

    // ---- machines

    public int of(int machine, int what) {
        if (!isMachine(machine)) {
            return NO_SUCH;
        }
        Machine asked = machines[machine];
        switch (what) {
            case 0: return asked.states;
            case 1: return asked.registers;
            case 2: return asked.symbols;
            case 3: return asked.countMoves();
            case 4: return asked.accepting;
            default: return NO_SUCH;
        }
    }

    public int moved(int machine, int state, int symbol, int guard, int what) {
        if (!isMachine(machine) || !machines[machine].hasPlace(state, symbol, guard)) {
            return NO_SUCH;
        }
        Machine asked = machines[machine];
        int slot = Machine.slot(state, symbol, guard);
        switch (what) {
            case 0: return asked.to[slot];
            case 1: return asked.keep[slot];
            case 2: return asked.drop[slot];
            default: return NO_SUCH;
        }
    }

    public int ask(int machine) {
        if (!isMachine(machine)) {
            return NO_SUCH;
        }
        machines[machine].walk(going, word, word.length);
        return machines[machine].takes(going) ? 1 : 0;
    }

    public int behind(int machine, int i, int what) {
        if (!isMachine(machine) || what < 0 || what > MAX_REGISTERS) {
            return NO_SUCH;
        }
        if (i < 0 || i > word.length) {
            return BAD_NUMBER;
        }
        machines[machine].walk(going, word, i);
        return going.told(what);
    }

    public int many(int machine, int k) {
        if (!isMachine(machine)) {
            return NO_SUCH;
        }
        if (k < 0 || k > COUNT_DEPTH) {
            return BAD_NUMBER;
        }
        trail[0].start();
        return countTaken(machines[machine], trail, 0, 0, k);
    }

    public int share(int machine, int k) {
        int taken = many(machine, k);
        if (taken < 0) {
            return taken;
        }
        int all = WAYS_TO_NAME[k];
        for (int i = 0; i < k; i++) {
            all *= machines[machine].symbols;
        }
        return bitsOf((float) taken / (float) all);
    }

    public int differ() {
        compareMachines();
        return agreed ? NONE : toldOtherwise.length;
    }

    public int differs(int k, int what) {
        compareMachines();
        return letterOf(toldOtherwise, k, what);
    }

    public int couples() {
        compareMachines();
        return coupleCount;
    }

    // ---- the word

    public int letter(int k, int what) {
        if (what == 2 && k >= 0 && k < word.length) {
            return word.least[k];
        }
        return lengthOrLetterOf(word, k, what);
    }

    public int remembered() {
        if (isWordTooLong()) {
            return TOO_MANY;
        }
        learner.lookAt(word);
        return learner.looked.keptBits();
    }

    public int alike(int u) {
        if (!learner.isShort(u)) {
            return NO_SUCH;
        }
        if (isWordTooLong()) {
            return TOO_MANY;
        }
        learner.lookAtShortWords();
        learner.lookAt(word);
        return learner.looked.tellWay(learner.profiles[u]);
    }

    // ---- learning

    public int begin() {
        int had = learner.shortCount + learner.asker.testCount;
        learner.startAnew();
        return had;
    }

    public int step() {
        learner.decide();
        return learner.makeStep();
    }

    public int learn() {
        int made = 0;
        for (int i = 0; i < LEARN_STEPS; i++) {
            learner.decide();
            int kind = learner.makeStep();
            if (kind <= 0) {
                return kind == 0 ? made : kind;
            }
            made++;
        }
        return made;
    }

    public int brief(int u, int k, int what) {
        return learner.isShort(u) ? lengthOrLetterOf(learner.shorts[u], k, what) : NO_SUCH;
    }

    public int test(int t, int k, int what) {
        Asker asker = learner.asker;
        return t >= 0 && t < asker.testCount ? lengthOrLetterOf(asker.tests[t], k, what) : NO_SUCH;
    }

    public int registers(int u) {
        if (!learner.isShort(u)) {
            return NO_SUCH;
        }
        learner.lookAtShortWords();
        return learner.profiles[u].keptBits();
    }

    public int goes(int u, int symbol, int n) {
        if (!learner.isShort(u) || symbol < 0 || symbol >= machines[0].symbols) {
            return NO_SUCH;
        }
        if (n < 0 || n > learner.shorts[u].distinct) {
            return BAD_NUMBER;
        }
        learner.lookAtShortWords();
        learner.lookAtLonger(u, symbol, n);
        return learner.firstAlike();
    }

    public int stands() {
        learner.decide();
        if (!learner.isStanding()) {
            return 0;
        }
        return learner.kind == 3 ? 1 : 2;
    }

    public int guess() {
        learner.decide();
        if (!learner.isStanding()) {
            return NOT_NOW;
        }
        learner.hypothesis.walk(going, word, word.length);
        return learner.hypothesis.takes(going) ? 1 : 0;
    }

    public int guessed(int i, int what) {
        if (i < 0 || i > word.length) {
            return BAD_NUMBER;
        }
        if (what < 0 || what > MAX_REGISTERS) {
            return NO_SUCH;
        }
        learner.decide();
        if (!learner.isStanding()) {
            return NOT_NOW;
        }
        learner.hypothesis.walk(going, word, i);
        return going.told(what);
    }

    public int refutes(int k, int what) {
        learner.decide();
        if (!learner.isStanding()) {
            return NOT_NOW;
        }
        if (k == NONE && what == 0 && learner.kind == 0) {
            return NONE;
        }
        return lengthOrLetterOf(learner.refuting, k, what);
    }

    public int splits() {
        learner.decide();
        return learner.isStanding() ? learner.split : NOT_NOW;
    }

    public int spare() {
        learner.decide();
        return learner.isStanding() ? machines[0].registers - learner.mostKept() : NOT_NOW;
    }

    public int count(int what) {
        switch (what) {
            case 0: return learner.shortCount;
            case 1: return learner.asker.testCount;
            case 2: return lettersOf(learner.shorts, learner.shortCount);
            case 3: return lettersOf(learner.asker.tests, learner.asker.testCount);
            case 4: return learner.countLongWords();
            case 5: return reader.held;
            case 6: return learner.countTakenShorts();
            default: return NONE;
        }
    }

    private static boolean isMachine(int machine) {
        return machine >= 0 && machine < MACHINES;
    }

    private void noteChange(int machine) {
        compared = false;
        if (machine == 0) {
            learner.startAnew();
        }
    }

    private void readWord() {
        wordDraft.clear();
        for (int i = 0; i <= WORD_ROOM && reader.hasMore(); i++) {
            int place = reader.start;
            int symbol = reader.readSymbol(MAX_SYMBOLS);
            if (i == WORD_ROOM) {
                reader.refuse(3, place);
            }
            int name = reader.readNumber(0, MAX_NAME);
            wordDraft.add(symbol, name);
        }
    }

    private boolean isWordTooLong() {
        return word.length > LIST_LETTERS || word.distinct > ASKED_NAMES;
    }

    private void compareMachines() {
        if (compared) {
            return;
        }
        compared = true;
        int symbols = Math.max(machines[0].symbols, machines[1].symbols);
        agreed = !search.find(machines[0], machines[1], symbols, toldOtherwise);
        coupleCount = search.size;
    }

    private static int letterOf(Word told, int k, int what) {
        if (k < 0 || k >= told.length) {
            return NO_SUCH;
        }
        if (what == 0) {
            return told.symbols[k];
        }
        return what == 1 ? told.names[k] : NO_SUCH;
    }

    private static int lengthOrLetterOf(Word told, int k, int what) {
        if (k == NONE) {
            return what == 0 ? told.length : NO_SUCH;
        }
        return letterOf(told, k, what);
    }

    private static int lettersOf(Word[] words, int size) {
        int letters = 0;
        for (int i = 0; i < size && i < words.length; i++) {
            letters += words[i].length;
        }
        return letters;
    }

    private static int countTaken(Machine machine, Going[] trail, int depth, int used, int k) {
        Going here = trail[depth];
        if (depth >= k || depth + 1 >= trail.length || here.state == NONE) {
            return depth == k && machine.takes(here) ? 1 : 0;
        }
        int taken = 0;
        for (int symbol = 0; symbol < machine.symbols; symbol++) {
            for (int name = 0; name <= used; name++) {
                trail[depth + 1].copy(here);
                machine.advance(trail[depth + 1], symbol, name);
                taken += countTaken(machine, trail, depth + 1, name == used ? used + 1 : used, k);
            }
        }
        return taken;
    }

    /** The bits of a float from 0 to 1, put together by hand as the library's way is not at hand. */
    private static int bitsOf(float share) {
        if (!(share > 0f)) {
            return 0;
        }
        float scaled = share;
        int exponent = 127;
        for (int i = 0; i < 30 && scaled < 1f; i++) {
            scaled = scaled * 2f;
            exponent--;
        }
        return (exponent << 23) | (int) ((scaled - 1f) * 8388608f);
    }

    /** THE TAPE and the words, numbers and other bytes of a text on it; behind a FAULT it reads nothing more. */
    private static final class Reader {
        static final int END = 0;
        static final int LETTERS = 1;
        static final int DIGITS = 2;
        static final int OTHER = 3;

        final int[] bytes = new int[TAPE_ROOM];
        int held;
        int size;
        int kind;
        int start;
        int end;
        int fault;
        int place = NONE;

        void put(int four) {
            for (int shift = 24; shift >= 0 && held < TAPE_ROOM; shift -= 8) {
                bytes[held] = (four >> shift) & 255;
                held++;
            }
        }

        /** THE TAPE counts as empty from here on, its bytes stay till the text is read. */
        void open(int n) {
            size = Math.min(n, TAPE_ROOM);
            held = 0;
            end = 0;
            fault = 0;
            place = NONE;
            next();
        }

        private void next() {
            start = end;
            while (start < size && bytes[start] == ' ') {
                start++;
            }
            end = start;
            if (start >= size) {
                kind = END;
                return;
            }
            int sign = bytes[start];
            kind = OTHER;
            if (sign >= 'a' && sign <= 'z') {
                kind = LETTERS;
            } else if (sign >= '0' && sign <= '9') {
                kind = DIGITS;
            }
            int low = kind == LETTERS ? 'a' : '0';
            int high = kind == LETTERS ? 'z' : '9';
            end++;
            while (kind != OTHER && end < size && bytes[end] >= low && bytes[end] <= high) {
                end++;
            }
        }

        boolean hasMore() {
            return fault == 0 && kind != END;
        }

        void refuse(int which, int where) {
            if (fault == 0) {
                fault = which;
                place = where;
            }
        }

        boolean skip(String sign) {
            if (fault != 0 || end - start != sign.length()) {
                return false;
            }
            for (int i = 0; i < sign.length() && start + i < size; i++) {
                if (bytes[start + i] != sign.charAt(i)) {
                    return false;
                }
            }
            next();
            return true;
        }

        void expect(String sign) {
            if (!skip(sign)) {
                refuse(1, start);
            }
        }

        int readSymbol(int symbols) {
            if (skip("a")) {
                return 0;
            }
            if (symbols > 1 && skip("b")) {
                return 1;
            }
            refuse(1, start);
            return 0;
        }

        int readNumber(int low, int high) {
            if (fault != 0 || kind != DIGITS) {
                refuse(1, start);
                return 0;
            }
            int number = 0;
            for (int i = start; i < end && i < start + 3; i++) {
                number = number * 10 + bytes[i] - '0';
            }
            if (end - start > 2 || number < low || number > high) {
                refuse(2, start);
                return 0;
            }
            next();
            return number;
        }
    }

    /** Reads THE TEXT of a MACHINE into a draft, so that a FAULT leaves the MACHINES as they are. */
    private static final class MachineText {
        final Machine draft = new Machine();
        private boolean statesTold;
        private boolean registersTold;
        private boolean symbolsTold;
        private boolean bodyBegun;

        void read(Reader in) {
            draft.clear();
            statesTold = false;
            registersTold = false;
            symbolsTold = false;
            bodyBegun = false;
            for (int line = 0; line < TAPE_ROOM && in.hasMore(); line++) {
                readLine(in);
            }
        }

        private void readLine(Reader in) {
            int first = in.start;
            boolean refused = false;
            if (in.skip("states")) {
                refused = readStates(in);
            } else if (in.skip("registers")) {
                refused = readRegisters(in);
            } else if (in.skip("symbols")) {
                refused = readSymbols(in);
            } else if (in.skip("accept")) {
                refused = readAccept(in);
            } else if (in.skip("move")) {
                refused = readMove(in);
            } else {
                in.refuse(1, first);
            }
            if (refused) {
                in.refuse(3, first);
            }
            in.expect(";");
        }

        private boolean readStates(Reader in) {
            boolean late = statesTold || bodyBegun;
            statesTold = true;
            draft.states = in.readNumber(1, MAX_STATES);
            return late;
        }

        private boolean readRegisters(Reader in) {
            boolean late = registersTold || bodyBegun;
            registersTold = true;
            draft.registers = in.readNumber(0, MAX_REGISTERS);
            return late;
        }

        private boolean readSymbols(Reader in) {
            boolean late = symbolsTold || bodyBegun;
            symbolsTold = true;
            draft.symbols = in.readNumber(1, MAX_SYMBOLS);
            return late;
        }

        private boolean readAccept(Reader in) {
            bodyBegun = true;
            int bit = 1 << in.readNumber(0, draft.states - 1);
            boolean twice = (draft.accepting & bit) != 0;
            draft.accepting |= bit;
            return twice;
        }

        private boolean readMove(Reader in) {
            bodyBegun = true;
            int state = in.readNumber(0, draft.states - 1);
            int symbol = in.readSymbol(draft.symbols);
            int guard = NEW;
            if (in.skip("same")) {
                guard = in.readNumber(0, draft.registers - 1);
            } else {
                in.expect("new");
            }
            in.expect("to");
            int to = in.readNumber(0, draft.states - 1);
            int keep = in.skip("keep") ? in.readNumber(0, draft.registers - 1) : NONE;
            int drop = in.skip("drop") ? in.readNumber(0, draft.registers - 1) : NONE;
            if (in.fault != 0) {
                return false;
            }
            int slot = Machine.slot(state, symbol, guard);
            boolean twice = draft.to[slot] != NONE;
            draft.put(slot, to, keep, drop);
            return twice;
        }
    }

    /** Where a MACHINE or THE HYPOTHESIS is: its STATE (NONE: LOST) and the NAMES in its REGISTERS (NONE: empty). */
    private static final class Going {
        int state;
        final int[] names = {NONE, NONE};

        void start() {
            state = 0;
            names[0] = NONE;
            names[1] = NONE;
        }

        void lose() {
            state = NONE;
            names[0] = NONE;
            names[1] = NONE;
        }

        void copy(Going other) {
            state = other.state;
            names[0] = other.names[0];
            names[1] = other.names[1];
        }

        int told(int what) {
            if (what == 0) {
                return state;
            }
            return what == 1 ? names[0] : names[1];
        }
    }

    /** What goes by LETTERS: a MACHINE, THE HYPOTHESIS. */
    private abstract static class Walker {
        abstract void advance(Going going, int symbol, int name);

        abstract boolean takes(Going going);

        final void walk(Going going, Word word, int letters) {
            going.start();
            for (int i = 0; i < letters && i < word.length; i++) {
                advance(going, word.symbols[i], word.names[i]);
            }
        }
    }

    private static final class Machine extends Walker {
        static final int SLOTS = MAX_STATES * MAX_SYMBOLS * GUARDS;

        int states;
        int registers;
        int symbols;
        int accepting;
        final int[] to = new int[SLOTS];
        final int[] keep = new int[SLOTS];
        final int[] drop = new int[SLOTS];

        Machine() {
            clear();
        }

        void clear() {
            states = 1;
            registers = 0;
            symbols = 1;
            accepting = 0;
            Arrays.fill(to, NONE);
            Arrays.fill(keep, NONE);
            Arrays.fill(drop, NONE);
        }

        void copy(Machine other) {
            states = other.states;
            registers = other.registers;
            symbols = other.symbols;
            accepting = other.accepting;
            System.arraycopy(other.to, 0, to, 0, SLOTS);
            System.arraycopy(other.keep, 0, keep, 0, SLOTS);
            System.arraycopy(other.drop, 0, drop, 0, SLOTS);
        }

        static int slot(int state, int symbol, int guard) {
            return (state * MAX_SYMBOLS + symbol) * GUARDS + guard;
        }

        boolean hasPlace(int state, int symbol, int guard) {
            if (state < 0 || state >= states || symbol < 0 || symbol >= symbols) {
                return false;
            }
            return guard == NEW || guard >= 0 && guard < registers;
        }

        boolean isRegisterOrNone(int register) {
            return register >= NONE && register < registers;
        }

        void put(int slot, int newTo, int newKeep, int newDrop) {
            to[slot] = newTo;
            keep[slot] = newKeep;
            drop[slot] = newDrop;
        }

        int countMoves() {
            int moves = 0;
            for (int slot = 0; slot < SLOTS; slot++) {
                if (to[slot] != NONE) {
                    moves++;
                }
            }
            return moves;
        }

        void advance(Going going, int symbol, int name) {
            if (going.state == NONE) {
                return;
            }
            int base = slot(going.state, symbol, 0);
            int slot = base + NEW;
            for (int register = registers - 1; register >= 0; register--) {
                if (going.names[register] == name && to[base + register] != NONE) {
                    slot = base + register;
                }
            }
            if (to[slot] == NONE) {
                going.lose();
                return;
            }
            if (keep[slot] != NONE) {
                going.names[keep[slot]] = name;
            }
            if (drop[slot] != NONE) {
                going.names[drop[slot]] = NONE;
            }
            going.state = to[slot];
        }

        boolean takes(Going going) {
            return going.state != NONE && ((accepting >> going.state) & 1) != 0;
        }
    }

    /** LETTERS with the NAMES as they came and, beside them, the NAMES of the LEAST form. */
    private static final class Word {
        final int[] symbols = new int[SEARCH_DEPTH];
        final int[] names = new int[SEARCH_DEPTH];
        final int[] least = new int[SEARCH_DEPTH];
        int length;
        int distinct;

        void clear() {
            length = 0;
            distinct = 0;
        }

        void add(int symbol, int name) {
            if (length >= SEARCH_DEPTH) {
                return;
            }
            symbols[length] = symbol;
            names[length] = name;
            least[length] = leastOf(name);
            if (least[length] == distinct) {
                distinct++;
            }
            length++;
        }

        private int leastOf(int name) {
            for (int i = 0; i < length; i++) {
                if (names[i] == name) {
                    return least[i];
                }
            }
            return distinct;
        }

        void copy(Word other) {
            clear();
            for (int i = 0; i < other.length; i++) {
                add(other.symbols[i], other.names[i]);
            }
        }

        void copyLeast(Word other) {
            clear();
            for (int i = 0; i < other.length; i++) {
                add(other.symbols[i], other.least[i]);
            }
        }

        boolean isLeastAs(Word other) {
            if (length != other.length) {
                return false;
            }
            for (int i = 0; i < length; i++) {
                if (symbols[i] != other.symbols[i] || least[i] != other.least[i]) {
                    return false;
                }
            }
            return true;
        }
    }

    /** Goes through two at once, till just one of them ACCEPTS. */
    private static final class Search {
        /**
         * Both MACHINES in STATES: 25 by 52 likenesses of four REGISTERS; one LOST: 2 by 25; both LOST: 1.
         * With THE HYPOTHESIS it is less: 50 by 17, as its REGISTERS are never empty nor alike; MACHINE 0 LOST: 10.
         */
        static final int ROOM = 1351;
        static final int LIKENESSES = 625;
        static final int SECOND_STATES = LIST_ROOM + 1;
        static final int SEEN_ROOM = ((MAX_STATES + 1) * SECOND_STATES * LIKENESSES + 31) / 32;

        private final int[] seen = new int[SEEN_ROOM];
        private final int[] packed = new int[ROOM];
        private final int[] parent = new int[ROOM];
        private final int[] letter = new int[ROOM];
        private final int[] used = new int[ROOM];
        private final int[] length = new int[ROOM];
        private final Going first = new Going();
        private final Going second = new Going();
        private final Going nextFirst = new Going();
        private final Going nextSecond = new Going();
        private final int[] four = new int[2 * MAX_REGISTERS];
        private final int[] names = new int[2 * MAX_REGISTERS + 1];
        private final int[] path = new int[SEARCH_DEPTH];
        private int nameCount;
        int size;

        boolean find(Walker a, Walker b, int symbols, Word told) {
            told.clear();
            Arrays.fill(seen, 0);
            size = 0;
            nextFirst.start();
            nextSecond.start();
            enter(NONE, 0, 0);
            if (a.takes(nextFirst) != b.takes(nextSecond)) {
                return true;
            }
            for (int node = 0; node < size && node < ROOM; node++) {
                if (length[node] < SEARCH_DEPTH && goOn(node, a, b, symbols)) {
                    spell(size - 1, told);
                    return true;
                }
            }
            return false;
        }

        private boolean goOn(int node, Walker a, Walker b, int symbols) {
            unpack(packed[node]);
            gatherNames(used[node]);
            for (int symbol = 0; symbol < symbols; symbol++) {
                for (int i = 0; i < nameCount; i++) {
                    nextFirst.copy(first);
                    nextSecond.copy(second);
                    a.advance(nextFirst, symbol, names[i]);
                    b.advance(nextSecond, symbol, names[i]);
                    if (enter(node, symbol, names[i]) && a.takes(nextFirst) != b.takes(nextSecond)) {
                        return true;
                    }
                }
            }
            return false;
        }

        private void gatherNames(int newName) {
            nameCount = 0;
            gatherName(first.names[0]);
            gatherName(first.names[1]);
            gatherName(second.names[0]);
            gatherName(second.names[1]);
            gatherName(newName);
        }

        private void gatherName(int name) {
            boolean missing = name != NONE;
            for (int i = 0; i < nameCount; i++) {
                missing = missing && names[i] != name;
            }
            if (missing && nameCount < names.length) {
                names[nameCount] = name;
                nameCount++;
            }
        }

        /** Notes the couple that is come to; false, if it has been come to earlier. */
        private boolean enter(int from, int symbol, int name) {
            four[0] = nextFirst.names[0];
            four[1] = nextFirst.names[1];
            four[2] = nextSecond.names[0];
            four[3] = nextSecond.names[1];
            int key = ((nextFirst.state + 1) * SECOND_STATES + nextSecond.state + 1) * LIKENESSES + likeness();
            int bit = 1 << (key & 31);
            if ((seen[key >> 5] & bit) != 0 || size >= ROOM) {
                return false;
            }
            seen[key >> 5] |= bit;
            packed[size] = pack();
            parent[size] = from;
            letter[size] = symbol * FRESH + name;
            length[size] = from == NONE ? 0 : length[from] + 1;
            used[size] = from == NONE ? 0 : Math.max(used[from], name + 1);
            size++;
            return true;
        }

        /** Which REGISTERS are empty and which hold one and the same NAME, as four digits from 0 to 4. */
        private int likeness() {
            int code = 0;
            int kinds = 0;
            for (int i = 0; i < four.length; i++) {
                int digit = four[i] == NONE ? 0 : kinds + 1;
                int rest = code;
                for (int j = i - 1; j >= 0; j--) {
                    if (four[j] == four[i]) {
                        digit = rest % 5;
                    }
                    rest /= 5;
                }
                kinds = Math.max(kinds, digit);
                code = code * 5 + digit;
            }
            return code;
        }

        private int pack() {
            int code = (nextFirst.state + 1) * 16 + nextSecond.state + 1;
            for (int i = 0; i < four.length; i++) {
                code = code * 32 + four[i] + 1;
            }
            return code;
        }

        private void unpack(int code) {
            second.names[1] = (code & 31) - 1;
            second.names[0] = ((code >> 5) & 31) - 1;
            first.names[1] = ((code >> 10) & 31) - 1;
            first.names[0] = ((code >> 15) & 31) - 1;
            second.state = ((code >> 20) & 15) - 1;
            first.state = ((code >> 24) & 15) - 1;
        }

        private void spell(int last, Word told) {
            int letters = length[last];
            int node = last;
            for (int i = letters - 1; i >= 0 && node > 0; i--) {
                path[i] = letter[node];
                node = parent[node];
            }
            for (int i = 0; i < letters; i++) {
                told.add(path[i] / FRESH, path[i] % FRESH);
            }
        }
    }

    /**
     * TESTS and what MACHINE 0 answers to them. An INSTANCE is told by a number: a digit from 0 to 2 for each NAME
     * of the TEST, the first the highest: 0 a NAME that the WORD has not, 1 and 2 one of two NAMES of the WORD.
     * Two are enough: a NAME that no REGISTER holds is to MACHINE 0 as one that the WORD has not, which comes first.
     */
    private static final class Asker {
        final Machine machine;
        final Word[] tests = new Word[LIST_ROOM];
        int testCount;
        final int[] naming = new int[LIST_NAMES];
        private final int[] weights = new int[MAX_REGISTERS + 1];
        private final Going going = new Going();

        Asker(Machine asked) {
            machine = asked;
            for (int i = 0; i < LIST_ROOM; i++) {
                tests[i] = new Word();
            }
        }

        static int countInstances(Word test) {
            return POWERS_OF_3[Math.min(test.distinct, LIST_NAMES)];
        }

        /** Sets the NAMES of a TEST by an INSTANCE's number; false, if there is no INSTANCE of that number. */
        boolean nameBy(int instance, Word test, int[] known, int knownCount) {
            weights[1] = 0;
            weights[2] = 0;
            int rest = instance;
            int weight = 1;
            for (int i = Math.min(test.distinct, LIST_NAMES) - 1; i >= 0; i--) {
                int digit = rest % 3;
                if (digit > knownCount || digit > 0 && weights[digit] != 0) {
                    return false;
                }
                weights[digit] = weight;
                naming[i] = digit == 0 ? FRESH + i : known[digit - 1];
                rest /= 3;
                weight *= 3;
            }
            return true;
        }

        /** ANSWERS of all INSTANCES of a TEST, a bit for each. */
        int answers(Going from, Word test, int[] known, int knownCount) {
            int row = 0;
            int instances = countInstances(test);
            for (int instance = 0; instance < instances; instance++) {
                if (!nameBy(instance, test, known, knownCount)) {
                    continue;
                }
                going.copy(from);
                for (int i = 0; i < test.length; i++) {
                    machine.advance(going, test.symbols[i], naming[test.names[i]]);
                }
                if (machine.takes(going)) {
                    row |= 1 << instance;
                }
            }
            return row;
        }

        /** The first INSTANCE by which a NAME, told by its digit, is seen to matter: the one without it answers otherwise. */
        int firstShowing(int row, Word test, int digit, int[] known, int knownCount) {
            int instances = countInstances(test);
            for (int instance = 0; instance < instances; instance++) {
                if (nameBy(instance, test, known, knownCount) && weights[digit] != 0) {
                    int without = instance - digit * weights[digit];
                    if (((row >> instance) & 1) != ((row >> without) & 1)) {
                        return instance;
                    }
                }
            }
            return NONE;
        }
    }

    /** What TESTS tell of a WORD: which NAMES are REMEMBERED, and the ANSWERS by which it is ALIKE to others. */
    private static final class Profile {
        final Going at = new Going();
        final int[] held = new int[MAX_REGISTERS];
        int heldCount;
        final int[] shownTest = new int[MAX_REGISTERS];
        final int[] shownInstance = new int[MAX_REGISTERS];
        final int[] kept = new int[MAX_REGISTERS];
        int keptCount;
        private final int[] turned = new int[MAX_REGISTERS];
        private final int[] rows = new int[LIST_ROOM];
        private final int[] turnedRows = new int[LIST_ROOM];
        private int rowCount;

        void look(Asker asker, Word word) {
            asker.machine.walk(at, word, word.length);
            gatherHeld();
            shownTest[0] = NONE;
            shownTest[1] = NONE;
            for (int t = 0; t < asker.testCount && heldCount > 0; t++) {
                noteShown(asker, t, asker.answers(at, asker.tests[t], held, heldCount));
            }
            gatherKept();
            rowCount = asker.testCount;
            for (int t = 0; t < rowCount; t++) {
                rows[t] = asker.answers(at, asker.tests[t], kept, keptCount);
                turnedRows[t] = keptCount < 2 ? rows[t] : asker.answers(at, asker.tests[t], turned, keptCount);
            }
        }

        private void gatherHeld() {
            int low = Math.min(at.names[0], at.names[1]);
            int high = Math.max(at.names[0], at.names[1]);
            heldCount = 0;
            if (low != NONE) {
                held[heldCount] = low;
                heldCount++;
            }
            if (high != low) {
                held[heldCount] = high;
                heldCount++;
            }
        }

        private void noteShown(Asker asker, int t, int row) {
            for (int i = 0; i < heldCount; i++) {
                if (shownTest[i] != NONE) {
                    continue;
                }
                shownInstance[i] = asker.firstShowing(row, asker.tests[t], i + 1, held, heldCount);
                if (shownInstance[i] != NONE) {
                    shownTest[i] = t;
                }
            }
        }

        private void gatherKept() {
            keptCount = 0;
            for (int i = 0; i < heldCount; i++) {
                if (shownTest[i] != NONE) {
                    kept[keptCount] = held[i];
                    keptCount++;
                }
            }
            turned[0] = kept[1];
            turned[1] = kept[0];
        }

        int placeOf(int name) {
            for (int i = 0; i < keptCount; i++) {
                if (kept[i] == name) {
                    return i;
                }
            }
            return NONE;
        }

        int keptBits() {
            int bits = 0;
            for (int i = 0; i < keptCount; i++) {
                bits |= 1 << kept[i];
            }
            return bits;
        }

        /** 0: each REMEMBERED NAME to that of its own place, 1: the two turned. NONE: they are not ALIKE. */
        int wayTo(Profile other) {
            if (keptCount != other.keptCount) {
                return NONE;
            }
            boolean straight = true;
            boolean crossed = keptCount == 2;
            for (int t = 0; t < rowCount; t++) {
                straight = straight && rows[t] == other.rows[t];
                crossed = crossed && rows[t] == other.turnedRows[t];
            }
            if (straight) {
                return 0;
            }
            return crossed ? 1 : NONE;
        }

        int tellWay(Profile other) {
            int way = wayTo(other);
            if (way == NONE) {
                return NONE;
            }
            if (keptCount < 2) {
                return keptCount;
            }
            return way == 0 ? 12 : 21;
        }
    }

    /** THE HYPOTHESIS: a move goes to a SHORT word and fills its REGISTERS from those that there were, or by the NAME. */
    private static final class Hypothesis extends Walker {
        static final int SLOTS = LIST_ROOM * MAX_SYMBOLS * GUARDS;

        private final int[] to = new int[SLOTS];
        private final int[] fill0 = new int[SLOTS];
        private final int[] fill1 = new int[SLOTS];
        private int accepting;

        void clear() {
            Arrays.fill(to, NONE);
            accepting = 0;
        }

        void put(int slot, int newTo, int newFill0, int newFill1) {
            to[slot] = newTo;
            fill0[slot] = newFill0;
            fill1[slot] = newFill1;
        }

        void takeAt(int state) {
            accepting |= 1 << state;
        }

        void advance(Going going, int symbol, int name) {
            if (going.state == NONE) {
                return;
            }
            int slot = Machine.slot(going.state, symbol, guardFor(going, name));
            if (to[slot] == NONE) {
                going.lose();
                return;
            }
            int name0 = pick(fill0[slot], going, name);
            int name1 = pick(fill1[slot], going, name);
            going.state = to[slot];
            going.names[0] = name0;
            going.names[1] = name1;
        }

        private static int guardFor(Going going, int name) {
            if (going.names[0] == name) {
                return 0;
            }
            return going.names[1] == name ? 1 : NEW;
        }

        private static int pick(int fill, Going going, int name) {
            if (fill == NONE) {
                return NONE;
            }
            if (fill == NEW) {
                return name;
            }
            return fill == 0 ? going.names[0] : going.names[1];
        }

        boolean takes(Going going) {
            return going.state != NONE && ((accepting >> going.state) & 1) != 0;
        }
    }

    /** THE LEARNER of MACHINE 0. What the next STEP would be is found once and kept till something changes. */
    private static final class Learner {
        private final Machine machine;
        private final Search search;
        final Asker asker;
        final Word[] shorts = new Word[LIST_ROOM];
        int shortCount;
        final Profile[] profiles = new Profile[LIST_ROOM];
        final Profile looked = new Profile();
        final Hypothesis hypothesis = new Hypothesis();
        final Word refuting = new Word();
        private final Word longer = new Word();
        private final Word proposed = new Word();
        private final Going going = new Going();
        private final Going mixedGoing = new Going();
        int kind;
        int split;
        private boolean stuck;
        private boolean profiled;
        private boolean decided;

        Learner(Machine learnt, Search shared) {
            machine = learnt;
            search = shared;
            asker = new Asker(learnt);
            for (int i = 0; i < LIST_ROOM; i++) {
                shorts[i] = new Word();
                profiles[i] = new Profile();
            }
            startAnew();
        }

        /** The first SHORT word and the first TEST are empty for good. */
        void startAnew() {
            shortCount = 1;
            asker.testCount = 1;
            profiled = false;
            decided = false;
        }

        boolean isShort(int u) {
            return u >= 0 && u < shortCount;
        }

        boolean isStanding() {
            return kind == 0 || kind == 3;
        }

        void lookAtShortWords() {
            if (profiled) {
                return;
            }
            profiled = true;
            for (int u = 0; u < shortCount; u++) {
                profiles[u].look(asker, shorts[u]);
            }
        }

        void lookAt(Word word) {
            longer.copyLeast(word);
            looked.look(asker, longer);
        }

        private void makeLonger(int u, int symbol, int name) {
            longer.copy(shorts[u]);
            longer.add(symbol, name);
        }

        void lookAtLonger(int u, int symbol, int name) {
            makeLonger(u, symbol, name);
            looked.look(asker, longer);
        }

        int firstAlike() {
            for (int u = 0; u < shortCount; u++) {
                if (looked.wayTo(profiles[u]) != NONE) {
                    return u;
                }
            }
            return NONE;
        }

        int mostKept() {
            int most = 0;
            for (int u = 0; u < shortCount; u++) {
                most = Math.max(most, profiles[u].keptCount);
            }
            return most;
        }

        int countLongWords() {
            lookAtShortWords();
            int all = 0;
            for (int u = 0; u < shortCount; u++) {
                all += machine.symbols * (profiles[u].keptCount + 1);
            }
            return all;
        }

        int countTakenShorts() {
            lookAtShortWords();
            int all = 0;
            for (int u = 0; u < shortCount; u++) {
                if (machine.takes(profiles[u].at)) {
                    all++;
                }
            }
            return all;
        }

        /** Does what decide() found. */
        int makeStep() {
            if (kind == 0) {
                return 0;
            }
            if (stuck) {
                return TOO_MANY;
            }
            if (kind == 2) {
                shorts[shortCount].copyLeast(proposed);
                shortCount++;
            } else {
                asker.tests[asker.testCount].copyLeast(proposed);
                asker.testCount++;
            }
            profiled = false;
            decided = false;
            return kind;
        }

        /** Finds what a STEP would be, without doing it. */
        void decide() {
            if (decided) {
                return;
            }
            decided = true;
            kind = 0;
            split = NONE;
            lookAtShortWords();
            hypothesis.clear();
            for (int u = 0; u < shortCount && kind != 1; u++) {
                for (int symbol = 0; symbol < machine.symbols && kind != 1; symbol++) {
                    for (int i = 0; i <= profiles[u].keptCount && kind != 1; i++) {
                        lookAtLongWord(u, symbol, i);
                    }
                }
            }
            if (kind == 0) {
                tryHypothesis();
            }
            stuck = kind != 0 && !fits();
        }

        private boolean fits() {
            if (proposed.length > LIST_LETTERS || proposed.distinct > LIST_NAMES) {
                return false;
            }
            if (kind == 2) {
                return shortCount < LIST_ROOM;
            }
            for (int t = 0; t < asker.testCount; t++) {
                if (proposed.isLeastAs(asker.tests[t])) {
                    return false;
                }
            }
            return asker.testCount < LIST_ROOM;
        }

        private void lookAtLongWord(int u, int symbol, int i) {
            boolean isNew = i >= profiles[u].keptCount;
            int name = isNew ? shorts[u].distinct : profiles[u].kept[i];
            makeLonger(u, symbol, name);
            looked.look(asker, longer);
            int missed = findMissed(u);
            if (missed != NONE) {
                kind = 1;
                proposeShown(symbol, name, missed);
                return;
            }
            int v = firstAlike();
            if (v != NONE) {
                connect(Machine.slot(u, symbol, isNew ? NEW : i), u, v);
            } else if (kind == 0) {
                kind = 2;
                proposed.copyLeast(longer);
            }
        }

        /** The place, among the NAMES held, of the least one that u has and should have REMEMBERED. */
        private int findMissed(int u) {
            for (int i = 0; i < looked.heldCount; i++) {
                int name = looked.held[i];
                if (looked.shownTest[i] != NONE && name < shorts[u].distinct && profiles[u].placeOf(name) == NONE) {
                    return i;
                }
            }
            return NONE;
        }

        private void proposeShown(int symbol, int name, int missed) {
            Word test = asker.tests[looked.shownTest[missed]];
            asker.nameBy(looked.shownInstance[missed], test, looked.held, looked.heldCount);
            proposed.clear();
            proposed.add(symbol, name);
            for (int i = 0; i < test.length; i++) {
                proposed.add(test.symbols[i], asker.naming[test.names[i]]);
            }
        }

        private void connect(int slot, int u, int v) {
            int way = looked.wayTo(profiles[v]);
            hypothesis.put(slot, v, fillOf(u, 0, way), fillOf(u, 1, way));
        }

        /** From where a REGISTER is filled: what is none of u's REGISTERS can only be the LETTER's NAME. */
        private int fillOf(int u, int register, int way) {
            if (register >= looked.keptCount) {
                return NONE;
            }
            int from = way == 1 ? 1 - register : register;
            int place = profiles[u].placeOf(looked.kept[from]);
            return place == NONE ? NEW : place;
        }

        private void tryHypothesis() {
            for (int u = 0; u < shortCount; u++) {
                if (machine.takes(profiles[u].at)) {
                    hypothesis.takeAt(u);
                }
            }
            if (search.find(machine, hypothesis, machine.symbols, refuting)) {
                kind = 3;
                boolean whole = takesMixed(0);
                for (int i = 0; i < refuting.length && split == NONE; i++) {
                    if (takesMixed(i + 1) != whole) {
                        split = i;
                    }
                }
                proposed.clear();
                for (int i = split + 1; i < refuting.length; i++) {
                    proposed.add(refuting.symbols[i], refuting.names[i]);
                }
            }
        }

        /** Whether MACHINE 0 ACCEPTS the SHORT word of the first i LETTERS, as it is named then, and the rest. */
        private boolean takesMixed(int i) {
            hypothesis.walk(going, refuting, i);
            int u = Math.max(going.state, 0);
            mixedGoing.start();
            for (int k = 0; k < shorts[u].length; k++) {
                int name = shorts[u].names[k];
                int place = profiles[u].placeOf(name);
                machine.advance(mixedGoing, shorts[u].symbols[k], place == NONE ? FRESH + name : going.names[place]);
            }
            for (int k = i; k < refuting.length; k++) {
                machine.advance(mixedGoing, refuting.symbols[k], refuting.names[k]);
            }
            return machine.takes(mixedGoing);
        }
    }
}
