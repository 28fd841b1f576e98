/** Boundary cases of MACHINES and of two held against one another: Terms, ==== 3., promises 1 and 6 to 16. */
public final class MachineBoundaryTests {
    private static final int NONE = WordLearner.NONE;

    /** The shortest WORD that tells these two apart has 20 LETTERS. */
    private static final String TWENTY = "states 5;registers 2;accept 0;move 2a new to 0;move 0a new to 3keep 0;"
        + "move 0a same 0to 3keep 1;move 1a same 1to 4;move 4a new to 3;move 3a new to 2;move 0a same 1to 1keep 1";
    private static final String TWENTY_A = TWENTY + "drop 0;";
    private static final String TWENTY_B = TWENTY + ";";

    /** The shortest WORD that tells these two apart has 21 LETTERS. */
    private static final String TWENTY_ONE = "states 5;registers 2;symbols 2;accept 3;move 3b same 1to 0keep 0drop 1;"
        + "move 4b new to 2;move 0a new to 0keep 1;move 1b new to 3;move 2b new to 1;move 0b same 1to 4;move 3b same 0to 4";
    private static final String TWENTY_ONE_A = TWENTY_ONE + ";";
    private static final String TWENTY_ONE_B = TWENTY_ONE + "keep 1;";

    /** ACCEPTS all WORDS of a and b. */
    private static final String ALL = "symbols 2;accept 0;move 0 a new to 0;move 0 b new to 0;";

    public static void main(String[] args) throws ReflectiveOperationException {
        atFirst();
        newObject();
        constants();
        lastCall();
        begins();
        firstRegister();
        withoutSame();
        lost();
        keepThenDrop();
        staysLost();
        accepts();
        acceptBecomes();
        acceptRefused();
        moveGuards();
        moveTold();
        moveNoSuch();
        moveBadNumbers();
        moveWithoutTo();
        ofAll();
        ofRefused();
        movedParts();
        movedRefused();
        movedNotTold();
        askWords();
        askRefused();
        behindState();
        behindRegisters();
        behindRefused();
        manyWords();
        manyRefused();
        shareBits();
        shareRefused();
        twentyLetters();
        searchSymbols();
        searchNames();
        searchEarlierOnes();
        searchFirstOne();
        differAgrees();
        differsRefused();
        couplesEnds();
        codes();
        severalRefusals();
        refusalAheadOfNone();
        Boundary.end();
    }

    private static void sentence(String promise, String words) {
        Boundary.sentence(promise, promise, words);
    }

    /** A sentence of another part on which the promise leans. */
    private static void sentence(String promise, String part, String words) {
        Boundary.sentence(promise, part, words);
    }

    private static void due(String call, int got, int want) {
        Boundary.due(call, got, want);
    }

    private static WordLearner with(String machine0, String word) {
        return Boundary.with(machine0, word);
    }

    /** Behind the first i LETTERS: the STATE and both REGISTERS. */
    private static void dueBehind(WordLearner x, int machine, int i, int state, int name0, int name1) {
        due("behind(" + machine + ", " + i + ", 0)", x.behind(machine, i, 0), state);
        due("behind(" + machine + ", " + i + ", 1)", x.behind(machine, i, 1), name0);
        due("behind(" + machine + ", " + i + ", 2)", x.behind(machine, i, 2), name1);
    }

    // ---- a new object

    private static void dueAsAtFirst(WordLearner x, int machine) {
        due("STATES", x.of(machine, 0), 1);
        due("REGISTERS", x.of(machine, 1), 0);
        due("SYMBOLS", x.of(machine, 2), 1);
        due("moves", x.of(machine, 3), 0);
        due("STATES of accept", x.of(machine, 4), 0);
        due("moved", x.moved(machine, 0, 0, 2, 0), NONE);
        due("ask", x.ask(machine), 0);
    }

    private static void atFirst() {
        sentence("Promise 1", "Terms", "at first each has one STATE, no REGISTERS, one SYMBOL, no moves, accepts nothing");
        dueAsAtFirst(new WordLearner(), 0);
        dueAsAtFirst(new WordLearner(), 1);
        WordLearner x = new WordLearner();
        due("no second STATE", x.accept(0, 1, 1), -2);
        due("no REGISTER", x.moved(0, 0, 0, 0, 0), -2);
        due("no second SYMBOL", x.moved(0, 0, 1, 2, 0), -2);
    }

    private static void newObject() {
        sentence("Promise 1", "Two MACHINES as at first.");
        WordLearner x = new WordLearner();
        due("of(-1, 0)", x.of(-1, 0), -2);
        due("of(0, 0)", x.of(0, 0), 1);
        due("of(1, 0)", x.of(1, 0), 1);
        due("of(2, 0)", x.of(2, 0), -2);
        due("differ", x.differ(), NONE);
        WordLearner other = new WordLearner();
        x.accept(0, 0, 1);
        due("two objects have nothing in common", other.of(0, 4), 0);
    }

    private static void constants() throws ReflectiveOperationException {
        sentence("Promise 1", "The constants", "`NONE = -1`: There is none.");
        due("NONE", WordLearner.class.getField("NONE").getInt(null), -1);
    }

    private static void lastCall() {
        sentence("Promise 1", "What it is", "An object is used for at most 512 calls after it has been made");
        due("the 512th call", Boundary.lastOf512(new WordLearner(), x -> x.accept(0, 0, 1)), 0);
        due("the 512th call", Boundary.lastOf512(new WordLearner(), x -> x.feed(0, 0, 0, 0, 0)), 20);
        due("the 512th call", Boundary.lastOf512(new WordLearner(), x -> x.learn()), 0);
        WordLearner x = new WordLearner();
        for (int i = 0; i < 170; i++) {
            due("accept", x.accept(0, 0, 1 - i % 2), i % 2);
            due("learn", x.learn(), 1 - i % 2);
            due("count(0)", x.count(0), 2 - i % 2);
        }
        due("the 511th call", x.begin(), 2);
        due("the 512th call", x.stands(), 2);
    }

    // ---- Terms: how a MACHINE goes

    private static void begins() {
        sentence("Promise 11", "Terms", "A MACHINE begins in STATE 0, all REGISTERS empty.");
        WordLearner x = with("states 5;registers 2;", "a0");
        dueBehind(x, 0, 0, 0, NONE, NONE);
        WordLearner y = with("states 2;registers 2;move 0 a same 0 to 1;move 0 a same 1 to 1;", "a0");
        due("an empty REGISTER holds not NAME 0", y.behind(0, 1, 0), NONE);
    }

    private static void firstRegister() {
        sentence("Promise 11", "Terms", "of REGISTERS that hold its NAME the first by which a move of this STATE, SYMBOL and same is told: that");
        String head = "states 5;registers 2;symbols 2;move 0 a new to 1 keep 0;move 1 a new to 2 keep 1;";
        String both = "a5a5b5";
        due("both hold it, both are told", with(head + "move 2 b same 1 to 3;move 2 b same 0 to 4;", both).behind(0, 3, 0), 4);
        due("both hold it, the second is told", with(head + "move 2 b same 1 to 3;move 2 b new to 4;", both).behind(0, 3, 0), 3);
        due("of another SYMBOL", with(head + "move 2 a same 0 to 3;move 2 b new to 4;", both).behind(0, 3, 0), 4);
        due("of another STATE", with(head + "move 1 b same 0 to 3;move 2 b new to 4;", both).behind(0, 3, 0), 4);
        due("the second alone holds it", with(head + "move 2 b same 0 to 3;move 2 b same 1 to 4;", "a5a6b6").behind(0, 3, 0), 4);
        due("the first alone holds it", with(head + "move 2 b same 0 to 3;move 2 b same 1 to 4;", "a5a6b5").behind(0, 3, 0), 3);
    }

    private static void withoutSame() {
        sentence("Promise 11", "Terms", "without such the move of this STATE, SYMBOL and new, if told");
        String head = "states 3;registers 1;move 0 a new to 1 keep 0;move 1 a new to 2;";
        due("a NAME that none holds", with(head, "a5a6").behind(0, 2, 0), 2);
        due("a NAME that is held, but no same is told", with(head, "a5a5").behind(0, 2, 0), 2);
        due("a NAME that is held, and same is told", with(head + "move 1 a same 0 to 0;", "a5a5").behind(0, 2, 0), 0);
    }

    private static void lost() {
        sentence("Promise 11", "Terms", "else it is LOST");
        String head = "states 2;registers 1;move 0 a new to 1 keep 0;move 1 a same 0 to 1;";
        dueBehind(with(head, "a5a5"), 0, 2, 1, 5, NONE);
        dueBehind(with(head, "a5a6"), 0, 2, NONE, NONE, NONE);
        dueBehind(with(head, "b5"), 0, 1, NONE, NONE, NONE);
        dueBehind(new WordLearner(), 0, 0, 0, NONE, NONE);
        dueBehind(with("", "a0"), 0, 1, NONE, NONE, NONE);
    }

    private static void keepThenDrop() {
        sentence("Promise 11", "Terms", "A move: first keep (that REGISTER holds the NAME), then drop (that REGISTER is empty), then it is in the STATE to.");
        String head = "states 2;registers 2;move 0 a new to 1 keep 0;move 1 a new to 1";
        dueBehind(with(head + ";", "a5a6"), 0, 2, 1, 5, NONE);
        dueBehind(with(head + " keep 0;", "a5a6"), 0, 2, 1, 6, NONE);
        dueBehind(with(head + " keep 1;", "a5a6"), 0, 2, 1, 5, 6);
        dueBehind(with(head + " drop 0;", "a5a6"), 0, 2, 1, NONE, NONE);
        dueBehind(with(head + " keep 0 drop 0;", "a5a6"), 0, 2, 1, NONE, NONE);
        dueBehind(with(head + " keep 1 drop 1;", "a5a6"), 0, 2, 1, 5, NONE);
        dueBehind(with(head + " keep 1 drop 0;", "a5a6"), 0, 2, 1, NONE, 6);
        dueBehind(with(head + " keep 0 drop 1;", "a5a6"), 0, 2, 1, 6, NONE);
        dueBehind(with("registers 1;move 0 a new to 0 drop 0;", "a5"), 0, 1, 0, NONE, NONE);
    }

    private static void staysLost() {
        sentence("Promise 11", "Terms", "LOST it stays (all REGISTERS are empty then).");
        WordLearner x = with("states 2;registers 2;accept 0;accept 1;move 0 a new to 1 keep 0;move 1 a same 0 to 0 keep 1;",
            "a5a5b5a5a6a7");
        dueBehind(x, 0, 2, 0, 5, 5);
        for (int i = 3; i <= 6; i++) {
            dueBehind(x, 0, i, NONE, NONE, NONE);
        }
        due("ask", x.ask(0), 0);
    }

    private static void accepts() {
        sentence("Promise 10", "Terms", "It ACCEPTS a WORD, if it is in a STATE of accept (not LOST) behind it.");
        String moves = "move 0 a new to 1;";
        due("the empty WORD", with("states 2;accept 0;" + moves, "").ask(0), 1);
        due("the empty WORD", with("states 2;accept 1;" + moves, "").ask(0), 0);
        due("one LETTER", with("states 2;accept 1;" + moves, "a0").ask(0), 1);
        due("one LETTER", with("states 2;accept 0;" + moves, "a0").ask(0), 0);
        due("LOST", with("states 2;accept 0;accept 1;" + moves, "a0a0").ask(0), 0);
    }

    // ---- Promises 6, 7: accept, move

    private static void acceptBecomes() {
        sentence("Promise 6", "Whether a STATE of a MACHINE is one of accept becomes is (0, 1): what it was.");
        for (int m = 0; m < 2; m++) {
            WordLearner x = Boundary.two("states 5;", "states 5;");
            for (int state : new int[] {0, 4}) {
                due("accept", x.accept(m, state, 1), 0);
                due("accept", x.accept(m, state, 1), 1);
                due("of", x.of(m, 4), 1 << state);
                due("of the other MACHINE", x.of(1 - m, 4), 0);
                due("accept", x.accept(m, state, 0), 1);
                due("accept", x.accept(m, state, 0), 0);
                due("of", x.of(m, 4), 0);
            }
        }
    }

    private static void acceptRefused() {
        sentence("Promise 6", "-2: the MACHINE, the STATE; -3.");
        Boundary.refused("accept(-1, 0, 1)", x -> x.accept(-1, 0, 1), -2);
        Boundary.refused("accept(2, 0, 1)", x -> x.accept(2, 0, 1), -2);
        Boundary.refused("accept(0, -1, 1)", x -> x.accept(0, -1, 1), -2);
        Boundary.refused("accept(0, 3, 1)", x -> x.accept(0, 3, 1), -2);
        Boundary.refused("accept(1, 2, 1)", x -> x.accept(1, 2, 1), -2);
        Boundary.refused("accept(0, 0, -1)", x -> x.accept(0, 0, -1), -3);
        Boundary.refused("accept(0, 0, 2)", x -> x.accept(0, 0, 2), -3);
        Boundary.refused("accept(1, 1, 2)", x -> x.accept(1, 1, 2), -3);
        Boundary.refused("accept(0, 3, 2)", x -> x.accept(0, 3, 2), -2);
        Boundary.refused("accept(2, 3, 2)", x -> x.accept(2, 3, 2), -2);
        for (int far : Boundary.FAR) {
            Boundary.refused("accept(" + far + ", 0, 1)", x -> x.accept(far, 0, 1), -2);
            Boundary.refused("accept(0, " + far + ", 1)", x -> x.accept(0, far, 1), -2);
            Boundary.refused("accept(0, 0, " + far + ")", x -> x.accept(0, 0, far), -3);
        }
    }

    private static void moveGuards() {
        sentence("Promise 7", "a guard (0, 1: same that REGISTER; 2: new)");
        for (int registers = 0; registers <= 2; registers++) {
            WordLearner x = with("registers " + registers + ";", "");
            due("guard -1", x.move(0, 0, 0, -1, 0, NONE, NONE), -2);
            due("guard 0", x.move(0, 0, 0, 0, 0, NONE, NONE), registers > 0 ? 0 : -2);
            due("guard 1", x.move(0, 0, 0, 1, 0, NONE, NONE), registers > 1 ? 0 : -2);
            due("guard 2", x.move(0, 0, 0, 2, 0, NONE, NONE), 0);
            due("guard 3", x.move(0, 0, 0, 3, 0, NONE, NONE), -2);
            due("of(0, 3)", x.of(0, 3), registers + 1);
        }
    }

    private static void moveTold() {
        sentence("Promise 7", "goes to a STATE (NONE: it is not told any more), keep, drop REGISTERS (NONE each: none): 1, if one was told, else 0.");
        WordLearner x = with("states 5;registers 2;symbols 2;", "a3");
        due("the last of all", x.move(0, 4, 1, 1, 4, 1, 1), 0);
        due("again", x.move(0, 4, 1, 1, 0, 0, 0), 1);
        due("to", x.moved(0, 4, 1, 1, 0), 0);
        due("none any more", x.move(0, 4, 1, 1, NONE, NONE, NONE), 1);
        due("to", x.moved(0, 4, 1, 1, 0), NONE);
        due("none that was none", x.move(0, 4, 1, 1, NONE, NONE, NONE), 0);
        due("of(0, 3)", x.of(0, 3), 0);
        due("no keep, no drop", x.move(0, 0, 0, 2, 0, NONE, NONE), 0);
        dueBehind(x, 0, 1, 0, NONE, NONE);
        due("keep 1", x.move(0, 0, 0, 2, 0, 1, NONE), 1);
        dueBehind(x, 0, 1, 0, NONE, 3);
        due("keep 1, drop 1", x.move(0, 0, 0, 2, 0, 1, 1), 1);
        dueBehind(x, 0, 1, 0, NONE, NONE);
        due("not told any more", x.move(0, 0, 0, 2, NONE, NONE, NONE), 1);
        dueBehind(x, 0, 1, NONE, NONE, NONE);
        due("MACHINE 1", x.move(1, 0, 0, 2, 0, NONE, NONE), 0);
        due("of(0, 3)", x.of(0, 3), 0);
        due("of(1, 3)", x.of(1, 3), 1);
    }

    private static void moveNoSuch() {
        sentence("Promise 7", "-2: the MACHINE, STATE, SYMBOL, guard");
        Boundary.refused("MACHINE -1", x -> x.move(-1, 0, 0, 2, 0, NONE, NONE), -2);
        Boundary.refused("MACHINE 2", x -> x.move(2, 0, 0, 2, 0, NONE, NONE), -2);
        Boundary.refused("STATE -1", x -> x.move(0, -1, 0, 2, 0, NONE, NONE), -2);
        Boundary.refused("STATE 3 of 3", x -> x.move(0, 3, 0, 2, 0, NONE, NONE), -2);
        Boundary.refused("STATE 2 of 2", x -> x.move(1, 2, 0, 2, 0, NONE, NONE), -2);
        Boundary.refused("SYMBOL -1", x -> x.move(0, 0, -1, 2, 0, NONE, NONE), -2);
        Boundary.refused("SYMBOL 1 of 1", x -> x.move(0, 0, 1, 2, 0, NONE, NONE), -2);
        Boundary.refused("SYMBOL 2 of 2", x -> x.move(1, 0, 2, 2, 0, NONE, NONE), -2);
        Boundary.refused("guard -1", x -> x.move(0, 0, 0, -1, 0, NONE, NONE), -2);
        Boundary.refused("guard 1 of one REGISTER", x -> x.move(0, 0, 0, 1, 0, NONE, NONE), -2);
        Boundary.refused("guard 0 without REGISTERS", x -> x.move(1, 0, 0, 0, 0, NONE, NONE), -2);
        Boundary.refused("guard 3", x -> x.move(0, 0, 0, 3, 0, NONE, NONE), -2);
        Boundary.refused("guard 3 and to", x -> x.move(0, 0, 0, 3, 9, 9, 9), -2);
        for (int far : Boundary.FAR) {
            Boundary.refused("MACHINE " + far, x -> x.move(far, 0, 0, 2, 0, NONE, NONE), -2);
            Boundary.refused("STATE " + far, x -> x.move(0, far, 0, 2, 0, NONE, NONE), -2);
            Boundary.refused("SYMBOL " + far, x -> x.move(0, 0, far, 2, 0, NONE, NONE), -2);
            Boundary.refused("guard " + far, x -> x.move(0, 0, 0, far, 0, NONE, NONE), -2);
        }
    }

    private static void moveBadNumbers() {
        sentence("Promise 7", "-3: to, keep, drop");
        Boundary.refused("to -2", x -> x.move(0, 0, 0, 2, -2, NONE, NONE), -3);
        Boundary.refused("to 3 of 3", x -> x.move(0, 0, 0, 2, 3, NONE, NONE), -3);
        Boundary.refused("to 2 of 2", x -> x.move(1, 0, 0, 2, 2, NONE, NONE), -3);
        Boundary.refused("keep -2", x -> x.move(0, 0, 0, 2, 0, -2, NONE), -3);
        Boundary.refused("keep 1 of one", x -> x.move(0, 0, 0, 2, 0, 1, NONE), -3);
        Boundary.refused("keep 0 of none", x -> x.move(1, 0, 0, 2, 0, 0, NONE), -3);
        Boundary.refused("drop -2", x -> x.move(0, 0, 0, 2, 0, NONE, -2), -3);
        Boundary.refused("drop 1 of one", x -> x.move(0, 0, 0, 2, 0, NONE, 1), -3);
        Boundary.refused("drop 0 of none", x -> x.move(1, 0, 0, 2, 0, NONE, 0), -3);
        for (int far : Boundary.FAR) {
            Boundary.refused("to " + far, x -> x.move(0, 0, 0, 2, far, NONE, NONE), -3);
            Boundary.refused("keep " + far, x -> x.move(0, 0, 0, 2, 0, far, NONE), -3);
            Boundary.refused("drop " + far, x -> x.move(0, 0, 0, 2, 0, NONE, far), -3);
        }
        WordLearner two = with("registers 2;", "");
        due("keep 1, drop 1 of two", two.move(0, 0, 0, 2, 0, 1, 1), 0);
        due("keep 2 of two", two.move(0, 0, 0, 2, 0, 2, NONE), -3);
        due("drop 2 of two", two.move(0, 0, 0, 2, 0, NONE, 2), -3);
    }

    private static void moveWithoutTo() {
        sentence("Promise 7", "(these are asked for, too, where to is NONE, and not kept then)");
        Boundary.refused("keep 1 of one", x -> x.move(0, 0, 0, 2, NONE, 1, NONE), -3);
        Boundary.refused("keep -2", x -> x.move(0, 0, 0, 2, NONE, -2, NONE), -3);
        Boundary.refused("drop 1 of one", x -> x.move(0, 0, 0, 2, NONE, NONE, 1), -3);
        Boundary.refused("drop -2", x -> x.move(0, 0, 0, 2, NONE, NONE, -2), -3);
        WordLearner x = Boundary.busy();
        due("no move was told", x.move(0, 0, 0, 0, NONE, 0, 0), 0);
        due("keep", x.moved(0, 0, 0, 0, 1), NONE);
        due("drop", x.moved(0, 0, 0, 0, 2), NONE);
        due("nothing has changed", x.count(0), 3);
        due("a move was told", x.move(0, 0, 0, 2, NONE, 0, 0), 1);
        due("keep", x.moved(0, 0, 0, 2, 1), NONE);
        due("drop", x.moved(0, 0, 0, 2, 2), NONE);
        due("told again", x.move(0, 0, 0, 2, 1, NONE, NONE), 0);
        due("keep", x.moved(0, 0, 0, 2, 1), NONE);
    }

    // ---- Promises 8 to 11: of, moved, ask, behind

    private static void ofAll() {
        sentence("Promise 8", "what 0 STATES, 1 REGISTERS, 2 SYMBOLS, 3 moves, 4 STATES of accept (bits).");
        WordLearner x = with("states 5;registers 2;symbols 2;accept 0;accept 1;accept 2;accept 3;accept 4;", "");
        int[] most = {5, 2, 2, 0, 31};
        int[] least = {1, 0, 1, 0, 0};
        for (int what = 0; what < 5; what++) {
            due("of(0, " + what + ")", x.of(0, what), most[what]);
            due("of(1, " + what + ")", x.of(1, what), least[what]);
        }
    }

    private static void ofRefused() {
        sentence("Promise 8", "4 STATES of accept (bits). -2.");
        Boundary.refused("of(-1, 0)", x -> x.of(-1, 0), -2);
        Boundary.refused("of(2, 0)", x -> x.of(2, 0), -2);
        Boundary.refused("of(0, -1)", x -> x.of(0, -1), -2);
        Boundary.refused("of(0, 5)", x -> x.of(0, 5), -2);
        for (int far : Boundary.FAR) {
            Boundary.refused("of(" + far + ", 0)", x -> x.of(far, 0), -2);
            Boundary.refused("of(0, " + far + ")", x -> x.of(0, far), -2);
        }
    }

    private static void movedParts() {
        sentence("Promise 9", "what 0 to, 1 keep, 2 drop (NONE each).");
        WordLearner x = with("states 5;registers 2;symbols 2;move 4 b same 1 to 4 keep 1 drop 1;move 0 a new to 0;", "");
        due("to", x.moved(0, 4, 1, 1, 0), 4);
        due("keep", x.moved(0, 4, 1, 1, 1), 1);
        due("drop", x.moved(0, 4, 1, 1, 2), 1);
        due("to", x.moved(0, 0, 0, 2, 0), 0);
        due("keep", x.moved(0, 0, 0, 2, 1), NONE);
        due("drop", x.moved(0, 0, 0, 2, 2), NONE);
    }

    private static void movedRefused() {
        sentence("Promise 9", "-2: the MACHINE, STATE, SYMBOL, guard, what");
        Boundary.refused("MACHINE -1", x -> x.moved(-1, 0, 0, 2, 0), -2);
        Boundary.refused("MACHINE 2", x -> x.moved(2, 0, 0, 2, 0), -2);
        Boundary.refused("STATE -1", x -> x.moved(0, -1, 0, 2, 0), -2);
        Boundary.refused("STATE 3 of 3", x -> x.moved(0, 3, 0, 2, 0), -2);
        Boundary.refused("SYMBOL -1", x -> x.moved(0, 0, -1, 2, 0), -2);
        Boundary.refused("SYMBOL 1 of 1", x -> x.moved(0, 0, 1, 2, 0), -2);
        Boundary.refused("SYMBOL 2 of 2", x -> x.moved(1, 0, 2, 2, 0), -2);
        Boundary.refused("guard -1", x -> x.moved(0, 0, 0, -1, 0), -2);
        Boundary.refused("guard 0 of none", x -> x.moved(1, 0, 0, 0, 0), -2);
        Boundary.refused("guard 1 of one", x -> x.moved(0, 0, 0, 1, 0), -2);
        Boundary.refused("guard 3", x -> x.moved(0, 0, 0, 3, 0), -2);
        Boundary.refused("what -1", x -> x.moved(0, 0, 0, 2, -1), -2);
        Boundary.refused("what 3", x -> x.moved(0, 0, 0, 2, 3), -2);
        for (int far : Boundary.FAR) {
            Boundary.refused("MACHINE " + far, x -> x.moved(far, 0, 0, 2, 0), -2);
            Boundary.refused("STATE " + far, x -> x.moved(0, far, 0, 2, 0), -2);
            Boundary.refused("SYMBOL " + far, x -> x.moved(0, 0, far, 2, 0), -2);
            Boundary.refused("guard " + far, x -> x.moved(0, 0, 0, far, 0), -2);
            Boundary.refused("what " + far, x -> x.moved(0, 0, 0, 2, far), -2);
        }
    }

    private static void movedNotTold() {
        sentence("Promise 9", "NONE: it isn't told.");
        WordLearner x = Boundary.busy();
        for (int what = 0; what < 3; what++) {
            due("moved", x.moved(0, 0, 0, 0, what), NONE);
        }
        due("what goes first", x.moved(0, 0, 0, 0, 3), -2);
    }

    private static void askWords() {
        sentence("Promise 10", "Whether a MACHINE ACCEPTS THE WORD: 1, 0.");
        String twelve = "a1b2a3b4a5b6a7b8a9b10a11b12";
        due("the empty WORD", with(ALL, "").ask(0), 1);
        due("twelve LETTERS", with(ALL, twelve).ask(0), 1);
        due("MACHINE 1", with(ALL, twelve).ask(1), 0);
        String last = "states 2;registers 1;symbols 2;accept 1;move 0 a new to 0 keep 0;move 0 b new to 0;move 0 b same 0 to 1;";
        due("by the twelfth", with(last, "a1a2a3a4a5a6a7a8a9a10a11b11").ask(0), 1);
        due("by the twelfth", with(last, "a1a2a3a4a5a6a7a8a9a10a11b10").ask(0), 0);
    }

    private static void askRefused() {
        sentence("Promise 10", "ACCEPTS THE WORD: 1, 0. -2.");
        Boundary.refused("ask(-1)", x -> x.ask(-1), -2);
        Boundary.refused("ask(2)", x -> x.ask(2), -2);
        for (int far : Boundary.FAR) {
            Boundary.refused("ask(" + far + ")", x -> x.ask(far), -2);
        }
    }

    private static void behindState() {
        sentence("Promise 11", "Behind the first i LETTERS of THE WORD a MACHINE is in, what 0: the STATE (NONE: LOST)");
        WordLearner x = with("states 5;move 0 a new to 4;move 4 a new to 3;", "a1a1a1");
        int[] states = {0, 4, 3, NONE};
        for (int i = 0; i <= 3; i++) {
            due("behind(0, " + i + ", 0)", x.behind(0, i, 0), states[i]);
        }
        due("MACHINE 1", x.behind(1, 0, 0), 0);
        due("MACHINE 1", x.behind(1, 1, 0), NONE);
        due("the empty WORD", new WordLearner().behind(0, 0, 0), 0);
    }

    private static void behindRegisters() {
        sentence("Promise 11", "1, 2: the NAME in REGISTER what less 1 (NONE: empty, there is none such, LOST)");
        WordLearner x = with("registers 2;move 0 a new to 0 keep 1;move 0 a same 1 to 0 keep 0;", "a99a99a0b1");
        dueBehind(x, 0, 0, 0, NONE, NONE);
        dueBehind(x, 0, 1, 0, NONE, 99);
        dueBehind(x, 0, 2, 0, 99, 99);
        dueBehind(x, 0, 3, 0, 99, 0);
        dueBehind(x, 0, 4, NONE, NONE, NONE);
        WordLearner one = with("registers 1;move 0 a new to 0 keep 0;", "a5");
        dueBehind(one, 0, 1, 0, 5, NONE);
        WordLearner none = with("move 0 a new to 0;", "a5");
        dueBehind(none, 0, 1, 0, NONE, NONE);
    }

    private static void behindRefused() {
        sentence("Promise 11", "-2: the MACHINE, what; -3: i isn't 0 to how many there are.");
        Boundary.refused("behind(-1, 0, 0)", x -> x.behind(-1, 0, 0), -2);
        Boundary.refused("behind(2, 0, 0)", x -> x.behind(2, 0, 0), -2);
        Boundary.refused("behind(0, 0, -1)", x -> x.behind(0, 0, -1), -2);
        Boundary.refused("behind(0, 0, 3)", x -> x.behind(0, 0, 3), -2);
        Boundary.refused("behind(0, -1, 0)", x -> x.behind(0, -1, 0), -3);
        Boundary.refused("behind(0, 4, 0)", x -> x.behind(0, 4, 0), -3);
        Boundary.refused("behind(0, 1, 0)", WordLearner::new, x -> x.behind(0, 1, 0), -3);
        Boundary.refused("behind(0, 4, 3)", x -> x.behind(0, 4, 3), -2);
        Boundary.refused("behind(2, 4, 0)", x -> x.behind(2, 4, 0), -2);
        for (int far : Boundary.FAR) {
            Boundary.refused("behind(" + far + ", 0, 0)", x -> x.behind(far, 0, 0), -2);
            Boundary.refused("behind(0, " + far + ", 0)", x -> x.behind(0, far, 0), -3);
            Boundary.refused("behind(0, 0, " + far + ")", x -> x.behind(0, 0, far), -2);
        }
        WordLearner twelve = with(ALL, "a1a2a3a4a5a6a7a8a9a10a11a12");
        due("behind(0, 12, 0)", twelve.behind(0, 12, 0), 0);
        due("behind(0, 13, 0)", twelve.behind(0, 13, 0), -3);
    }

    // ---- Promises 12, 13: many, share

    private static void manyWords() {
        sentence("Promise 12", "How many WORDS of k LETTERS (0 to 5) in LEAST form, of SYMBOLS that it has, a MACHINE ACCEPTS.");
        int[] ofTwo = {1, 2, 8, 40, 240, 1664};
        int[] ofOne = {1, 1, 2, 5, 15, 52};
        int[] threeAtMost = {1, 1, 2, 5, 0, 0};
        WordLearner x = Boundary.two(ALL, "accept 0;move 0 a new to 0;");
        WordLearner y = Boundary.two("states 2;registers 1;accept 0;accept 1;move 0 a new to 1 keep 0;move 1 a same 0 to 1;",
            "states 4;accept 0;accept 1;accept 2;accept 3;move 0 a new to 1;move 1 a new to 2;move 2 a new to 3;");
        for (int k = 0; k <= 5; k++) {
            due("many(0, " + k + ") of all", x.many(0, k), ofTwo[k]);
            due("many(1, " + k + ") of all", x.many(1, k), ofOne[k]);
            due("many(0, " + k + ") of NAMES that are all alike", y.many(0, k), 1);
            due("many(1, " + k + ") of three LETTERS at most", y.many(1, k), threeAtMost[k]);
            due("many(0, " + k + ") of a new object", new WordLearner().many(0, k), 0);
        }
    }

    private static void manyRefused() {
        sentence("Promise 12", "a MACHINE ACCEPTS. -2; -3.");
        Boundary.refused("many(-1, 0)", x -> x.many(-1, 0), -2);
        Boundary.refused("many(2, 0)", x -> x.many(2, 0), -2);
        Boundary.refused("many(0, -1)", x -> x.many(0, -1), -3);
        Boundary.refused("many(0, 6)", x -> x.many(0, 6), -3);
        Boundary.refused("many(2, 6)", x -> x.many(2, 6), -2);
        Boundary.refused("many(-1, -1)", x -> x.many(-1, -1), -2);
        for (int far : Boundary.FAR) {
            Boundary.refused("many(" + far + ", 0)", x -> x.many(far, 0), -2);
            Boundary.refused("many(0, " + far + ")", x -> x.many(0, far), -3);
        }
    }

    private static void shareBits() {
        sentence("Promise 13", "how many it ACCEPTS by how many there are; its bits.");
        int[] ofTwo = {1, 2, 8, 40, 240, 1664};
        WordLearner all = with(ALL, "");
        WordLearner one = with("states 2;registers 1;symbols 2;accept 0;accept 1;move 0 a new to 1 keep 0;move 1 a same 0 to 1;", "");
        WordLearner half = with("states 2;symbols 2;accept 1;move 0 a new to 1;move 1 a new to 1;move 1 b new to 1;", "");
        WordLearner some = with("states 3;registers 1;symbols 2;accept 0;accept 1;move 0 a new to 1 keep 0;"
            + "move 0 b new to 1 keep 0;move 1 a new to 1;move 1 b new to 1;move 1 a same 0 to 2;move 2 a new to 1;", "");
        for (int k = 0; k <= 5; k++) {
            due("share(0, " + k + ") of all", all.share(0, k), 0x3f800000);
            due("share(1, " + k + ") of none", all.share(1, k), 0);
            due("share(0, " + k + ") of one", one.share(0, k), Float.floatToIntBits(1f / (float) ofTwo[k]));
            due("share(0, " + k + ") of half", half.share(0, k), k == 0 ? 0 : 0x3f000000);
            due("share(0, " + k + ")", some.share(0, k), Float.floatToIntBits((float) some.many(0, k) / (float) ofTwo[k]));
        }
        due("a part that has no end in twos", Boundary.learnt(Boundary.TWIN, "").share(0, 3), Float.floatToIntBits(2f / 5f));
    }

    private static void shareRefused() {
        sentence("Promise 13", "its bits. -2; -3 likewise.");
        Boundary.refused("share(-1, 0)", x -> x.share(-1, 0), -2);
        Boundary.refused("share(2, 0)", x -> x.share(2, 0), -2);
        Boundary.refused("share(0, -1)", x -> x.share(0, -1), -3);
        Boundary.refused("share(0, 6)", x -> x.share(0, 6), -3);
        Boundary.refused("share(2, 6)", x -> x.share(2, 6), -2);
        for (int far : Boundary.FAR) {
            Boundary.refused("share(" + far + ", 0)", x -> x.share(far, 0), -2);
            Boundary.refused("share(0, " + far + ")", x -> x.share(0, far), -3);
        }
    }

    // ---- ==== 3.: two held against one another; promises 14 to 16

    /** By the Model the shortest WORD that tells the two apart has so many LETTERS. */
    private static Model.Told told(String a, String b, int letters) {
        Model.Machine first = Model.parseMachine(a);
        Model.Machine second = Model.parseMachine(b);
        return Model.compare(first, second, Math.max(first.symbols, second.symbols), letters);
    }

    private static void twentyLetters() {
        sentence("Promise 14", "==== 3.", "if no WORD of 20 LETTERS at most is ACCEPTED by just one");
        WordLearner x = Boundary.two(TWENTY_A, TWENTY_B);
        Model.Told twenty = told(TWENTY_A, TWENTY_B, 20);
        due("the Model's WORD", twenty.word().size(), 20);
        due("differ", x.differ(), 20);
        for (int k = 0; k < 20; k++) {
            due("differs(" + k + ", 0)", x.differs(k, 0), twenty.word().get(k).symbol());
            due("differs(" + k + ", 1)", x.differs(k, 1), twenty.word().get(k).name());
        }
        due("differs(20, 0)", x.differs(20, 0), -2);
        due("couples", x.couples(), twenty.couples());
        WordLearner y = Boundary.two(TWENTY_ONE_A, TWENTY_ONE_B);
        due("the Model's WORD", told(TWENTY_ONE_A, TWENTY_ONE_B, 21).word().size(), 21);
        due("differ", y.differ(), NONE);
        due("differs(0, 0)", y.differs(0, 0), -2);
        due("couples", y.couples(), told(TWENTY_ONE_A, TWENTY_ONE_B, 20).couples());
    }

    private static void searchSymbols() {
        sentence("Promise 15", "==== 3.", "then by SYMBOLS (0; 1, if one of the MACHINES has that");
        String b = "symbols 2;states 2;accept 1;move 0 b new to 1;";
        String both = "symbols 2;states 2;accept 1;move 0 a new to 1;move 0 b new to 1;";
        due("the first has b", Boundary.two(b, "").differs(0, 0), 1);
        due("the second has b", Boundary.two("", b).differs(0, 0), 1);
        due("both have b", Boundary.two(b, "symbols 2;").differs(0, 0), 1);
        due("a first", Boundary.two(both, "").differs(0, 0), 0);
        due("neither has b", Boundary.two("", "").couples(), 2);
        WordLearner x = Boundary.two("symbols 2;states 3;registers 1;accept 2;move 0 a new to 1 keep 0;"
            + "move 1 b same 0 to 2;move 1 a new to 2;move 1 a same 0 to 0;", "");
        due("by SYMBOLS ahead of NAMES", x.differs(1, 0), 0);
        due("by SYMBOLS ahead of NAMES", x.differs(1, 1), 1);
    }

    private static void searchNames() {
        sentence("Promise 15", "==== 3.", "then by NAMES: those that are in REGISTERS of the first, then of the second one, as they are behind that beginning, in the row of REGISTERS, each once, then the least that the beginning has not");
        String turned = "states 5;registers 2;accept 3;move 0 a new to 1 keep 1;move 1 a same 1 to 4;move 1 a new to 2 keep 0;"
            + "move 2 a new to 3;";
        due("in the row of REGISTERS", Boundary.two(turned, "").differs(2, 1), 1);
        due("in the row of REGISTERS of the second", Boundary.two("", turned).differs(2, 1), 1);
        String second = "states 5;registers 2;accept 3;move 0 a new to 1 keep 1;move 1 a same 1 to 4;"
            + "move 1 a new to 2 keep 0 drop 1;move 2 a new to 3;";
        String keepsFirst = "states 2;registers 1;move 0 a new to 1 keep 0;move 1 a new to 1;";
        due("the first MACHINE's ahead of the second's", Boundary.two(second, keepsFirst).differs(2, 1), 1);
        due("the first MACHINE's ahead of the second's", Boundary.two(keepsFirst, second).differs(2, 1), 0);
        String chain = "states 5;accept 4;move 0 a new to 1;move 1 a new to 2;move 2 a new to 3;move 3 a new to 4;";
        WordLearner x = Boundary.two(chain, "");
        for (int k = 0; k < 4; k++) {
            due("the least that the beginning has not", x.differs(k, 1), k);
        }
        String held = "states 3;registers 1;accept 2;move 0 a new to 1 keep 0;move 1 a new to 2;";
        due("one that is held ahead of a new one", Boundary.two(held, "").differs(1, 1), 0);
        due("a new one at last", Boundary.two(held + "move 1 a same 0 to 0;", "").differs(1, 1), 1);
        String four = "states 5;registers 2;move 0 a new to 1";
        String firstTwo = four + " keep 0;move 1 a new to 2 keep 1;move 2 a new to 3;move 3 a new to 4;"
            + "move 4 a same 0 to 4 drop 0;move 4 a same 1 to 4 drop 1;move 4 a new to 3;";
        String lastTwo = four + ";move 1 a new to 2;move 2 a new to 3 keep 0;move 3 a new to 4 keep 1;"
            + "move 4 a same 0 to 4 drop 0;move 4 a same 1 to 4 drop 1;move 4 a new to 4;";
        due("four that are held and a new one", Boundary.two(firstTwo, lastTwo).couples(), told(firstTwo, lastTwo, 20).couples());
    }

    private static void searchEarlierOnes() {
        sentence("Promise 16", "==== 3.", "a WORD behind which STATES of both (LOST too) and all REGISTERS are as behind an earlier one up to other NAMES is not gone on from, nor looked at (one of 20 LETTERS is looked at, not gone on from)");
        due("both LOST", Boundary.two("", "").couples(), 2);
        due("one LOST", Boundary.two("move 0 a new to 0;", "").couples(), 2);
        due("none LOST", Boundary.two("move 0 a new to 0;", "move 0 a new to 0;").couples(), 1);
        String keeps = "registers 1;move 0 a new to 0 keep 0;";
        due("up to other NAMES", Boundary.two(keeps, "").couples(), 2);
        due("up to other NAMES, in both", Boundary.two(keeps, keeps).couples(), 2);
        String keepsFirst = "registers 1;states 2;move 0 a new to 1 keep 0;move 1 a new to 1;";
        due("alike or not", Boundary.two(keeps, keepsFirst).couples(), 3);
        due("an empty REGISTER is another thing",
            Boundary.two("registers 1;states 1;move 0 a new to 0 keep 0;move 0 a same 0 to 0 drop 0;", "").couples(), 3);
    }

    private static void searchFirstOne() {
        sentence("Promise 14", "==== 3.", "It is the first one that just one ACCEPTS.");
        WordLearner x = Boundary.two(ALL, ALL);
        due("both ACCEPT all", x.differ(), NONE);
        x.accept(0, 0, 0);
        due("the empty WORD", x.differ(), 0);
        due("its LETTERS", x.differs(0, 0), -2);
        due("couples", x.couples(), 1);
        x.accept(0, 0, 1);
        x.move(0, 0, 1, 2, NONE, NONE, NONE);
        due("b", x.differ(), 1);
        due("b", x.differs(0, 0), 1);
        x.move(0, 0, 0, 2, NONE, NONE, NONE);
        due("a ahead of b", x.differs(0, 0), 0);
    }

    private static void differAgrees() {
        sentence("Promise 14", "NONE: they do; else how many LETTERS the WORD has that is told otherwise.");
        due("two new ones", new WordLearner().differ(), NONE);
        due("the empty WORD", Boundary.two("accept 0;", "").differ(), 0);
        due("one LETTER", Boundary.two("states 2;accept 1;move 0 a new to 1;", "").differ(), 1);
        due("like ones", Boundary.two(Boundary.TWIN, Boundary.TWIN).differ(), NONE);
        due("what can't be come to", Boundary.two("states 5;accept 4;", "").differ(), NONE);
        due("twenty", Boundary.two(TWENTY_B, TWENTY_A).differ(), 20);
    }

    private static void differsRefused() {
        sentence("Promise 15", "-2: there is none such, what.");
        WordLearner x = Boundary.two(Boundary.TWIN, "");
        due("differ", x.differ(), 2);
        due("differs(0, 0)", x.differs(0, 0), 0);
        due("differs(1, 1)", x.differs(1, 1), 0);
        Boundary.refused("differs(-1, 0)", y -> y.differs(-1, 0), -2);
        Boundary.refused("differs(-2, 0)", y -> y.differs(-2, 0), -2);
        Boundary.refused("differs(1, 0) of one LETTER", y -> y.differs(1, 0), -2);
        Boundary.refused("differs(0, -1)", y -> y.differs(0, -1), -2);
        Boundary.refused("differs(0, 2)", y -> y.differs(0, 2), -2);
        for (int far : Boundary.FAR) {
            Boundary.refused("differs(" + far + ", 0)", y -> y.differs(far, 0), -2);
            Boundary.refused("differs(0, " + far + ")", y -> y.differs(0, far), -2);
        }
        Boundary.refused("differs(0, 0) of two that AGREE", WordLearner::new, y -> y.differs(0, 0), -2);
        Boundary.refused("differs(NONE, 0) of two that AGREE", WordLearner::new, y -> y.differs(NONE, 0), -2);
        Boundary.refused("differs(0, 0) of the empty WORD", () -> Boundary.two("accept 0;", ""), y -> y.differs(0, 0), -2);
    }

    private static void couplesEnds() {
        sentence("Promise 16", "are come to till that is told (that of the empty WORD and that of the WORD told, too).");
        due("the empty WORD is told", Boundary.two("accept 0;", "").couples(), 1);
        due("one LETTER is told", Boundary.two("states 2;accept 1;move 0 a new to 1;", "").couples(), 2);
        due("none is told", new WordLearner().couples(), 2);
        due("what comes behind it is not counted",
            Boundary.two("states 3;symbols 2;accept 1;move 0 a new to 1;move 0 b new to 2;", "").couples(), 2);
        due("what comes ahead of it is",
            Boundary.two("states 3;symbols 2;accept 1;move 0 b new to 1;move 0 a new to 2;", "").couples(), 3);
    }

    // ---- ==== 3.: refused calls

    private static void codes() {
        sentence("Promise 28", "==== 3.", "-2 there is none such; -3 a number can't be; -4 too many, STUCK; -5 it can't be now (THE HYPOTHESIS doesn't STAND: STEP would be 1 or 2)");
        Boundary.refused("-2", Boundary::halfway, x -> x.ask(2), -2);
        Boundary.refused("-3", Boundary::halfway, x -> x.many(0, 6), -3);
        Boundary.refused("-5", Boundary::halfway, x -> x.guess(), -5);
        Boundary.refused("-5", Boundary::halfway, x -> x.guessed(0, 0), -5);
        Boundary.refused("-5", Boundary::halfway, x -> x.refutes(NONE, 0), -5);
        Boundary.refused("-5", Boundary::halfway, x -> x.splits(), -5);
        Boundary.refused("-5", Boundary::halfway, x -> x.spare(), -5);
    }

    private static void severalRefusals() {
        sentence("Promise 29", "==== 3.", "(Of several that which the call tells first");
        Boundary.refused("machine", x -> x.machine(2, -1), -2);
        Boundary.refused("accept", x -> x.accept(0, 9, 9), -2);
        Boundary.refused("move", x -> x.move(0, 9, 0, 2, 9, 9, 9), -2);
        Boundary.refused("behind", x -> x.behind(0, 99, 3), -2);
        Boundary.refused("many", x -> x.many(2, 9), -2);
        Boundary.refused("share", x -> x.share(2, 9), -2);
        Boundary.refused("goes", x -> x.goes(9, 0, 9), -2);
        Boundary.refused("goes", x -> x.goes(0, 9, 9), -2);
        Boundary.refused("guessed", Boundary::halfway, x -> x.guessed(9, 9), -3);
        Boundary.refused("guessed", Boundary::halfway, x -> x.guessed(0, 9), -2);
        Boundary.refused("guessed", Boundary::halfway, x -> x.guessed(9, 0), -3);
        Boundary.refused("refutes", Boundary::halfway, x -> x.refutes(9, 9), -5);
    }

    private static void refusalAheadOfNone() {
        sentence("Promise 9", "==== 3.", "all these ahead of NONE.)");
        Boundary.refused("moved of none that is told", x -> x.moved(0, 0, 0, 0, 3), -2);
        Boundary.refused("behind of none such", x -> x.behind(0, 4, 2), -3);
        Boundary.refused("goes where there is none", Boundary::halfway, x -> x.goes(0, 0, 1), -3);
        Boundary.refused("refutes, if none does", x -> x.refutes(NONE, 1), -2);
        Boundary.refused("splits", Boundary::halfway, x -> x.splits(), -5);
        Boundary.refused("guessed of none such", Boundary::halfway, x -> x.guessed(0, 2), -5);
    }
}
