/** Boundary cases of THE WORD and of THE LEARNER: ==== 2., promises 17 to 33. */
public final class LearnerBoundaryTests {
    private static final int NONE = WordLearner.NONE;

    private static final String TWIN = Boundary.TWIN;

    /** ACCEPTS two LETTERS alone: SHORT words are the empty one, a0, a0a1, a0a1a2; no NAME is REMEMBERED. */
    private static final String PAIR = "states 3;accept 2;move 0 a new to 1;move 1 a new to 2;";

    /** STUCK at a SHORT word of four NAMES. */
    private static final String TRIPLE = "states 4;accept 3;move 0 a new to 1;move 1 a new to 2;move 2 a new to 3;";

    /** a0a1 and b0b1 are ALIKE by the NAMES turned. */
    private static final String TURNED = "states 5;registers 2;symbols 2;accept 3;move 0 a new to 1 keep 0;"
        + "move 0 b new to 4 keep 1;move 1 a new to 2 keep 1;move 4 b new to 2 keep 0;move 2 a same 0 to 3;"
        + "move 2 b same 1 to 3;";

    /** Behind a0a1 either NAME will do. */
    private static final String EITHER = "states 4;registers 2;accept 3;move 0 a new to 1 keep 0;"
        + "move 1 a same 0 to 1;move 1 a new to 2 keep 1;move 2 a same 0 to 3;move 2 a same 1 to 3;";

    /** LEARNT with ten SHORT words. */
    private static final String TEN_SHORT = "states 2;registers 2;symbols 2;accept 0;move 0 a new to 1 keep 0;"
        + "move 0 b new to 1 keep 1;move 1 a same 0 to 0;move 1 a same 1 to 0;";

    /** LEARNT with ten TESTS, the last by a STEP of 1. */
    private static final String TEN_TESTS = "states 4;registers 2;symbols 2;accept 3;move 0 a new to 1 keep 1;"
        + "move 0 b same 1 to 1;move 1 b new to 2;move 2 a new to 3 keep 0;move 3 b same 0 to 0;";

    /** LEARNT with a SHORT word and a TEST of six LETTERS. */
    private static final String SIX_LETTERS = "states 2;registers 2;accept 1;move 0 a same 0 to 1 keep 1;"
        + "move 0 a same 1 to 0;move 0 a new to 1 keep 0;move 1 a new to 0;";

    /** STUCK at a STEP of 3: THE HYPOTHESIS STANDS. */
    private static final String LONG_TEST = "states 2;registers 2;symbols 2;accept 0;move 0 a same 1 to 1 drop 1;"
        + "move 0 b same 0 to 1 keep 1 drop 0;move 0 b new to 1 keep 0;move 1 b new to 0;";

    /** STUCK at a STEP of 1. */
    private static final String LONG_TEST_1 = "states 3;registers 2;accept 2;move 0 a same 1 to 2 keep 0;"
        + "move 0 a new to 1 keep 1;move 1 a new to 2;move 2 a same 0 to 0;move 2 a same 1 to 1 keep 0;"
        + "move 2 a new to 0 keep 1;";

    /** A WORD of 20 LETTERS refutes the last HYPOTHESIS, and its TEST would have 13. */
    private static final String REFUTED_BY_20 = "states 5;registers 2;accept 2;move 2a new to 3keep 0;move 3a new to 4;"
        + "move 4a same 0to 1keep 0;move 1a new to 0;move 2a same 1to 3;move 0a new to 2;move 2a same 0to 4keep 1;";

    /** A WORD of 21 LETTERS would refute the last HYPOTHESIS, but none of 20 does. */
    private static final String REFUTED_BY_21 = "states 5;registers 2;accept 2;move 0a new to 2;move 2a new to 3keep 0;"
        + "move 2a same 0to 3keep 1;move 3a new to 4;move 4a same 0to 1;move 2a same 1to 3;move 1a new to 0;";

    public static void main(String[] args) {
        leastForm();
        letterCount();
        letterParts();
        letterRefused();
        listsAtFirst();
        listsInLeastForm();
        rememberedNames();
        asManyRemembered();
        waysInARow();
        longWords();
        instanceNames();
        instancesInARow();
        firstThatShows();
        stepOne();
        leastOfSeveral();
        stepTwo();
        stepThree();
        mixedNames();
        rightBehindAStep();
        namesThatAreNoRegisters();
        learntByTwenty();
        hypothesisSymbols();
        shortWordsTen();
        shortWordsLetters();
        shortWordsNames();
        testsTen();
        testsLetters();
        testsNames();
        nothingIsDone();
        beginsAnew();
        beginsAnewNot();
        rememberedBounds();
        rememberedRefused();
        rememberedBits();
        alikeTold();
        alikeNone();
        alikeRefused();
        beginCounts();
        stepKinds();
        stepStuck();
        learnCounts();
        learnStuck();
        briefLetters();
        briefRefused();
        testRefused();
        registersRefused();
        goesNames();
        goesNowhere();
        goesRefused();
        standsKinds();
        guessAnswers();
        guessOfB();
        guessRefused();
        guessedPlaces();
        guessedRegisters();
        hypothesisWays();
        guessedRefused();
        refutesNone();
        refutesRefused();
        splitsEnds();
        splitsRefused();
        spareEnds();
        spareRefused();
        countAll();
        countOthers();
        Boundary.end();
    }

    private static void sentence(String promise, String words) {
        Boundary.sentence(promise, promise, words);
    }

    /** A sentence of another part on which the promise leans. */
    private static void sentence(String promise, String part, String words) {
        Boundary.sentence(promise, part, words);
    }

    private static void due(String call, int got, int want) {
        Boundary.due(call, got, want);
    }

    private static WordLearner with(String machine0) {
        return Boundary.with(machine0);
    }

    private static WordLearner with(String machine0, String word) {
        return Boundary.with(machine0, word);
    }

    private static WordLearner learnt(String machine0) {
        return Boundary.learnt(machine0, "");
    }

    private static WordLearner learnt(String machine0, String word) {
        return Boundary.learnt(machine0, word);
    }

    /** Behind STEPS of these kinds, a digit for each. */
    private static WordLearner behindSteps(String machine0, String kinds) {
        WordLearner x = with(machine0);
        for (int i = 0; i < kinds.length(); i++) {
            due("step " + i + " of " + machine0, x.step(), kinds.charAt(i) - '0');
        }
        return x;
    }

    private static void dueShort(WordLearner x, int u, String text) {
        StringBuilder told = new StringBuilder();
        for (int k = 0; k < x.brief(u, NONE, 0); k++) {
            told.append(x.brief(u, k, 0) == 0 ? 'a' : 'b').append(x.brief(u, k, 1));
        }
        due("SHORT word " + u + " is " + told + ", not " + text, told.toString().equals(text) ? 1 : 0, 1);
    }

    private static void dueTest(WordLearner x, int t, String text) {
        StringBuilder told = new StringBuilder();
        for (int k = 0; k < x.test(t, NONE, 0); k++) {
            told.append(x.test(t, k, 0) == 0 ? 'a' : 'b').append(x.test(t, k, 1));
        }
        due("TEST " + t + " is " + told + ", not " + text, told.toString().equals(text) ? 1 : 0, 1);
    }

    private static int shortWord(WordLearner x, String text) {
        for (int u = 0; u < x.count(0); u++) {
            StringBuilder told = new StringBuilder();
            for (int k = 0; k < x.brief(u, NONE, 0); k++) {
                told.append(x.brief(u, k, 0) == 0 ? 'a' : 'b').append(x.brief(u, k, 1));
            }
            if (told.toString().equals(text)) {
                return u;
            }
        }
        return NONE;
    }

    private static Model modelBehind(String machine0, int steps) {
        Model model = new Model();
        model.machines[0] = Model.parseMachine(machine0);
        model.begin();
        for (int i = 0; i < steps; i++) {
            model.step();
        }
        return model;
    }

    /** Behind STEPS of these kinds the next is STUCK: by the Model it is of that kind and would make that much. */
    private static void stuck(String machine0, String kinds, int kind, int letters, int names, int shorts, int tests) {
        Model.Decision next = modelBehind(machine0, kinds.length()).decide();
        due("the Model's kind", next.kind, kind);
        due("LETTERS that it would have", next.made.size(), letters);
        due("NAMES that it would have", Model.namesOf(next.made).size(), names);
        WordLearner x = behindSteps(machine0, kinds);
        due("SHORT words", x.count(0), shorts);
        due("TESTS", x.count(1), tests);
        Boundary.refused("step", () -> behindSteps(machine0, kinds), WordLearner::step, -4);
        Boundary.refused("learn", () -> behindSteps(machine0, kinds), WordLearner::learn, -4);
    }

    // ---- THE WORD

    private static void leastForm() {
        sentence("Promise 17", "Terms", "Its LEAST form: its first NAME is 0, each NAME that is new the least that is not used yet.");
        WordLearner x = with("", "a99a0a99b50a0b0a1a99a2a3a4a5");
        int[] least = {0, 1, 0, 2, 1, 1, 3, 0, 4, 5, 6, 7};
        for (int k = 0; k < 12; k++) {
            due("letter(" + k + ", 2)", x.letter(k, 2), least[k]);
        }
        WordLearner falling = with("", "a11a10a9a8a7a6a5a4a3a2a1a0");
        WordLearner alike = with("", "a7b7a7b7a7b7a7b7a7b7a7b7");
        for (int k = 0; k < 12; k++) {
            due("all new: letter(" + k + ", 2)", falling.letter(k, 2), k);
            due("all alike: letter(" + k + ", 2)", alike.letter(k, 2), 0);
        }
    }

    private static void letterCount() {
        sentence("Promise 17", "How many LETTERS THE WORD has (k NONE)");
        due("a new object", new WordLearner().letter(NONE, 0), 0);
        due("one", with("", "b5").letter(NONE, 0), 1);
        due("twelve", with("", "a1a2a3a4a5a6a7a8a9a10a11a12").letter(NONE, 0), 12);
        WordLearner x = with("", "a1a2a3");
        x.word(0);
        due("none again", x.letter(NONE, 0), 0);
    }

    private static void letterParts() {
        sentence("Promise 17", "of LETTER k, what 0 its SYMBOL, 1 its NAME, 2 its NAME in LEAST form.");
        WordLearner x = with("", "b99a1a2a3a4a5a6a7a8a9a10b0");
        due("letter(0, 0)", x.letter(0, 0), 1);
        due("letter(0, 1)", x.letter(0, 1), 99);
        due("letter(0, 2)", x.letter(0, 2), 0);
        due("letter(11, 0)", x.letter(11, 0), 1);
        due("letter(11, 1)", x.letter(11, 1), 0);
        due("letter(11, 2)", x.letter(11, 2), 11);
    }

    private static void letterRefused() {
        sentence("Promise 17", "-2: there is none such, what (k NONE: what isn't 0).");
        Boundary.refused("letter(3, 0) of three", x -> x.letter(3, 0), -2);
        Boundary.refused("letter(3, 2) of three", x -> x.letter(3, 2), -2);
        Boundary.refused("letter(-2, 0)", x -> x.letter(-2, 0), -2);
        Boundary.refused("letter(-2, 2)", x -> x.letter(-2, 2), -2);
        Boundary.refused("letter(0, -1)", x -> x.letter(0, -1), -2);
        Boundary.refused("letter(0, 3)", x -> x.letter(0, 3), -2);
        Boundary.refused("letter(NONE, -1)", x -> x.letter(NONE, -1), -2);
        Boundary.refused("letter(NONE, 1)", x -> x.letter(NONE, 1), -2);
        Boundary.refused("letter(NONE, 2)", x -> x.letter(NONE, 2), -2);
        Boundary.refused("letter(0, 0) of none", WordLearner::new, x -> x.letter(0, 0), -2);
        Boundary.refused("letter(0, 2) of none", WordLearner::new, x -> x.letter(0, 2), -2);
        for (int far : Boundary.FAR) {
            Boundary.refused("letter(" + far + ", 0)", x -> x.letter(far, 0), -2);
            Boundary.refused("letter(0, " + far + ")", x -> x.letter(0, far), -2);
            Boundary.refused("letter(NONE, " + far + ")", x -> x.letter(NONE, far), -2);
        }
        WordLearner twelve = with("", "a1a2a3a4a5a6a7a8a9a10a11a12");
        due("letter(12, 0) of twelve", twelve.letter(12, 0), -2);
        due("letter(12, 2) of twelve", twelve.letter(12, 2), -2);
    }

    // ---- ==== 2.: SHORT words, TESTS, what is REMEMBERED and ALIKE

    private static void listsAtFirst() {
        sentence("Promise 20", "==== 2.", "SHORT words (at first the empty one), TESTS (at first the empty one)");
        WordLearner x = new WordLearner();
        due("SHORT words", x.count(0), 1);
        due("TESTS", x.count(1), 1);
        due("LETTERS", x.brief(0, NONE, 0), 0);
        due("LETTERS", x.test(0, NONE, 0), 0);
        due("no LETTER", x.brief(0, 0, 0), -2);
        due("no LETTER", x.test(0, 0, 0), -2);
        due("no other", x.brief(1, NONE, 0), -2);
        due("no other", x.test(1, NONE, 0), -2);
    }

    private static void listsInLeastForm() {
        sentence("Promise 23", "==== 2.", "all WORDS in LEAST form, numbered as they come from 0 on");
        WordLearner x = behindSteps(PAIR, "322320");
        dueShort(x, 0, "");
        dueShort(x, 1, "a0");
        dueShort(x, 2, "a0a1");
        dueShort(x, 3, "a0a1a2");
        dueTest(x, 0, "");
        dueTest(x, 1, "a0");
        dueTest(x, 2, "a0a1");
        WordLearner y = learnt(TWIN);
        dueShort(y, 2, "a0a0");
        dueTest(y, 1, "a0");
    }

    private static void rememberedNames() {
        sentence("Promise 18", "==== 2.", "A NAME of w is REMEMBERED, if for some TEST and INSTANCE by which a NAME of the TEST is that, ANSWER is another one than with a NAME there (wherever it was that) that w and the INSTANCE have not");
        due("the empty WORD has none", learnt(TWIN, "").remembered(), 0);
        due("the empty TEST shows none", with(TWIN, "a5").remembered(), 0);
        due("the TEST a0 shows it", learnt(TWIN, "a5").remembered(), 1);
        due("LOST", learnt(TWIN, "a5b5").remembered(), 0);
        due("both of two", learnt(TURNED, "a5a6").remembered(), 3);
    }

    private static void asManyRemembered() {
        sentence("Promise 19", "==== 2.", "Two WORDS are ALIKE, if as many NAMES are REMEMBERED of both");
        WordLearner x = learnt(TWIN, "a5");
        due("one, of u none", x.alike(0), NONE);
        due("one, of u one", x.alike(1), 1);
        Boundary.word(x, "");
        due("none, of u none", x.alike(0), 0);
        due("none, of u one", x.alike(1), NONE);
        WordLearner y = learnt(TURNED, "a5a6");
        int u = shortWord(y, "a0a1");
        due("two, of u two", y.alike(u), 12);
        Boundary.word(y, "a5");
        due("one, of u two", y.alike(u), NONE);
        Boundary.word(y, "b5b5b5");
        due("none, of u two", y.alike(u), NONE);
        WordLearner z = learnt("states 5;registers 1;symbols 2;accept 3;move 0 a new to 1 keep 0;move 1 a same 0 to 4;"
            + "move 1 a new to 3;move 0 b new to 2;move 2 a new to 3;", "a5");
        int v = shortWord(z, "b0");
        due("v goes by new NAMES as a5 does", z.registers(v), 0);
        due("but one is REMEMBERED", z.alike(v), NONE);
    }

    private static void waysInARow() {
        sentence("Promise 19", "==== 2.", "Ways are in a row: to which (rising) the first REMEMBERED one is set, then the next.");
        WordLearner x = learnt(EITHER, "a5a6");
        int u = shortWord(x, "a0a1");
        due("both are REMEMBERED", x.registers(u), 3);
        due("both ways would do", x.alike(u), 12);
        Boundary.word(x, "a6a5");
        due("both ways would do", x.alike(u), 12);
        WordLearner y = learnt(TURNED, "b5b6");
        due("the second way alone will do", y.alike(shortWord(y, "a0a1")), 21);
        WordLearner z = learnt("states 5;registers 2;symbols 2;accept 0;move 0 a new to 1;move 1 a new to 2 keep 0;"
            + "move 1 b new to 3 keep 1;move 2 a new to 4 keep 1;move 3 b new to 4 keep 0;move 4 a same 0 to 0;"
            + "move 4 b same 1 to 0;", "a9b8b7");
        int v = shortWord(z, "a0a1a2");
        due("the first NAME is not REMEMBERED", z.registers(v), 6);
        due("places count among those that are", z.alike(v), 21);
        Boundary.word(z, "a9a8a7");
        due("places count among those that are", z.alike(v), 12);
    }

    private static void longWords() {
        sentence("Promise 33", "==== 2.", "LONG words of a SHORT one u: by SYMBOLS of MACHINE 0 rising, NAMES REMEMBERED of u rising, then the least that u has not");
        due("one SYMBOL, no NAME", new WordLearner().count(4), 1);
        due("two SYMBOLS, no NAME", with("symbols 2;").count(4), 2);
        due("MACHINE 1's SYMBOLS don't count", Boundary.two("", "symbols 2;").count(4), 1);
        due("none, one, one REMEMBERED", learnt(TWIN).count(4), 5);
        WordLearner x = learnt(TEN_SHORT);
        int due = 0;
        int most = 0;
        for (int u = 0; u < 10; u++) {
            due += 2 * (1 + Integer.bitCount(x.registers(u)));
            most = Math.max(most, Integer.bitCount(x.registers(u)));
        }
        due("two REMEMBERED are the most", most, 2);
        due("of ten SHORT words", x.count(4), due);
        WordLearner y = behindSteps("symbols 2;states 2;accept 1;move 0 a new to 1;move 0 b new to 1;", "2");
        dueShort(y, 1, "a0");
    }

    // ---- ==== 2.: STEPS

    private static void stepOne() {
        sentence("Promise 21", "==== 2.", "1: is there a LONG word (by SHORT ones, then as told) with a NAME REMEMBERED that u has, too, but REMEMBERED of u it is not");
        WordLearner x = with("states 2;registers 1;symbols 2;accept 1;move 0 b same 0 to 0;move 0 b new to 1 keep 0;"
            + "move 1 a new to 0;");
        due("step", x.step(), 2);
        due("step", x.step(), 3);
        dueTest(x, 1, "b0");
        int u = shortWord(x, "b0");
        due("u doesn't REMEMBER it", x.registers(u), 0);
        Boundary.word(x, "b0a1");
        due("the LONG word does", x.remembered(), 1);
        due("1 ahead of 2 and 3", x.step(), 1);
        dueTest(x, 2, "a0b1");
        due("then u does, too", x.registers(u), 1);
    }

    private static void instanceNames() {
        sentence("Promise 18", "==== 2.", "each NAME of the TEST is a NAME that w has not (no two one and the same), or one of w (likewise)");
        WordLearner x = behindSteps("states 3;registers 1;accept 2;move 0 a new to 1 keep 0;move 1 a same 0 to 2 keep 0;"
            + "move 2 a new to 1;", "32213");
        dueTest(x, 2, "a0a1");
        dueTest(x, 3, "a0a0");
        WordLearner y = behindSteps("states 3;registers 1;accept 2;move 0 a same 0 to 1;move 0 a new to 0 keep 0;"
            + "move 1 a same 0 to 1 keep 0 drop 0;move 1 a new to 2 keep 0;", "323");
        dueTest(y, 1, "a0a1");
        dueTest(y, 2, "a0");
    }

    private static void instancesInARow() {
        sentence("Promise 21", "==== 2.", "INSTANCES are in a row by the first NAME, then the next: that w has not first, then those of w rising.");
        WordLearner x = behindSteps("states 4;registers 2;symbols 2;accept 3;move 0 a new to 2 keep 0;move 2 b new to 3;"
            + "move 3 a same 0 to 2 keep 1;", "32231");
        dueTest(x, 3, "b0a1b2");
        WordLearner y = behindSteps("states 3;registers 2;symbols 2;accept 0;move 0 a same 1 to 1 keep 1;move 0 a new to 0;"
            + "move 0 b new to 1 keep 1;move 1 b new to 2 keep 0;move 2 a same 0 to 0;move 2 a same 1 to 1 keep 1;"
            + "move 2 a new to 2 keep 1;", "23211");
        dueTest(y, 3, "b0a1a0");
    }

    private static void firstThatShows() {
        sentence("Promise 21", "==== 2.", "the first such TEST and INSTANCE SHOW it");
        WordLearner x = behindSteps("states 2;registers 1;symbols 2;accept 0;move 0 a same 0 to 0 keep 0;move 0 b same 0 to 1;"
            + "move 0 b new to 0 keep 0;move 1 b new to 0;", "232321");
        dueTest(x, 1, "a0");
        dueTest(x, 2, "b0");
        dueTest(x, 3, "b0a1");
    }

    private static void leastOfSeveral() {
        sentence("Promise 21", "==== 2.", "of the first such LONG word the least such NAME, what SHOWS it: a new TEST: the LONG word's last LETTER and the TEST as in that INSTANCE, in LEAST form.");
        WordLearner x = behindSteps("states 3;registers 2;symbols 2;accept 1;move 0 a same 1 to 0;move 0 a new to 1 keep 1;"
            + "move 0 b same 0 to 1 keep 0 drop 1;move 0 b new to 0 keep 0;move 1 a new to 2 keep 0;move 2 a new to 0;", "23232");
        int u = shortWord(x, "a0a1");
        due("u REMEMBERS none", x.registers(u), 0);
        Boundary.word(x, "a0a1a2");
        due("the LONG word both", x.remembered() & 3, 3);
        due("step", x.step(), 1);
        dueTest(x, 3, "a0a1");
    }

    private static void stepTwo() {
        sentence("Promise 21", "==== 2.", "2: else, is there a LONG word that is ALIKE to no SHORT one: the first such is a new SHORT one.");
        WordLearner x = with("symbols 2;states 3;accept 1;accept 2;move 0 a new to 1;move 0 b new to 2;move 2 b new to 2;");
        due("step", x.step(), 2);
        dueShort(x, 1, "a0");
        WordLearner y = with("symbols 2;states 2;accept 1;move 0 b new to 1;");
        due("step", y.step(), 2);
        dueShort(y, 1, "b0");
        due("none is ALIKE to no one", new WordLearner().step(), 0);
        due("nor here", with("accept 0;move 0 a new to 0;").step(), 0);
    }

    private static void stepThree() {
        sentence("Promise 31", "==== 2.", "the first i by which MACHINE 0 ACCEPTS just one of MIXED i and MIXED i and 1: a new TEST: what of w is behind the first i and 1 LETTERS, in LEAST form.");
        WordLearner x = with(PAIR);
        due("LETTERS", x.refutes(NONE, 0), 2);
        due("i", x.splits(), 0);
        due("step", x.step(), 3);
        dueTest(x, 1, "a0");
        due("step", x.step(), 2);
        due("step", x.step(), 2);
        due("stands", x.stands(), 1);
        int letters = x.refutes(NONE, 0);
        int i = x.splits();
        due("step", x.step(), 3);
        due("LETTERS of the TEST", x.test(2, NONE, 0), letters - i - 1);
        due("the first NAME of the TEST", x.test(2, 0, 1), 0);
        WordLearner y = behindSteps("states 3;registers 2;accept 2;move 0 a new to 1 keep 1;move 1 a same 1 to 2 keep 1;"
            + "move 1 a new to 2 keep 0;move 2 a same 0 to 0;", "3223");
        dueTest(y, 2, "a0a0a1a2");
    }

    private static void mixedNames() {
        sentence("Promise 31", "==== 2.", "its REGISTERS named as they are then, all other NAMES others that nothing else has, and the rest of w");
        WordLearner x = behindSteps("states 2;registers 1;accept 1;move 0 a new to 1 keep 0;move 1 a same 0 to 1;", "2");
        due("LETTERS", x.refutes(NONE, 0), 2);
        due("i", x.splits(), 0);
        due("step", x.step(), 3);
        dueTest(x, 1, "a0");
    }

    /** What is kept between calls must not be asked for as it was ahead of a STEP. */
    private static void rightBehindAStep() {
        sentence("Promise 21", "A STEP: 0 to 3 as told.");
        WordLearner x = with(TWIN, "a5");
        x.step();
        x.step();
        due("alike(1)", x.alike(1), 1);
        due("registers(1)", behindSteps(TWIN, "32").registers(1), 1);
        due("goes(0, 0, 0)", behindSteps(TWIN, "32").goes(0, 0, 0), 1);
        due("count(4)", behindSteps(TWIN, "32").count(4), 3);
        due("count(4)", behindSteps(TWIN, "322").count(4), 5);
        due("count(6)", behindSteps(TWIN, "322").count(6), 1);
        due("stands", behindSteps(TWIN, "322").stands(), 2);
        due("guess", behindSteps(TWIN, "322").guess(), 0);
        due("spare", behindSteps(TWIN, "322").spare(), 0);
        due("splits", behindSteps(TWIN, "322").splits(), NONE);
        due("refutes", behindSteps(TWIN, "322").refutes(NONE, 0), NONE);
        WordLearner y = learnt(TWIN, "a5");
        y.begin();
        due("remembered behind begin", y.remembered(), 0);
        due("alike behind begin", y.alike(0), 0);
        due("count(6) behind begin", y.count(6), 0);
    }

    private static void namesThatAreNoRegisters() {
        sentence("Promise 29", "==== 2.", "a NAME that is none of u's REGISTERS goes as the least that u has not");
        WordLearner x = learnt(TWIN, "a5a6a5a5");
        due("a NAME that was forgotten", x.guessed(3, 0), 1);
        due("it is held now", x.guessed(3, 1), 5);
        due("and again", x.guessed(4, 0), 2);
        WordLearner y = learnt(PAIR, "a5a5a5");
        due("no REGISTERS at all", y.guessed(2, 0), 2);
        due("ACCEPTS", y.guess(), 0);
        Boundary.word(y, "a5a5");
        due("ACCEPTS", y.guess(), 1);
    }

    private static void learntByTwenty() {
        sentence("Promise 30", "==== 3.", "Two of MACHINES, THE HYPOTHESIS AGREE, if no WORD of 20 LETTERS at most is ACCEPTED by just one.");
        WordLearner x = behindSteps(REFUTED_BY_20, "232323232322");
        due("a WORD of 20 LETTERS refutes it", x.refutes(NONE, 0), 20);
        due("stands", x.stands(), 1);
        due("the last LETTER", x.refutes(19, 0), 0);
        due("no LETTER", x.refutes(20, 0), -2);
        due("the TEST would have 13 LETTERS", x.refutes(NONE, 0) - x.splits() - 1, 13);
        WordLearner y = behindSteps(REFUTED_BY_21, "232323232");
        Model model = modelBehind(REFUTED_BY_21, 9);
        due("by the Model one of 21 would", Model.compare(model.machines[0], model.new Hypothesis(), 1, 21).word().size(), 21);
        due("stands", y.stands(), 2);
        due("refutes", y.refutes(NONE, 0), NONE);
        due("step", y.step(), 0);
    }

    private static void hypothesisSymbols() {
        sentence("Promise 28", "==== 3.", "THE HYPOTHESIS has those of MACHINE 0");
        WordLearner x = Boundary.two(TWIN, "symbols 2;states 2;accept 1;move 0 b new to 1;");
        due("b of MACHINE 1 is nothing to it", x.learn(), 3);
        due("stands", x.stands(), 2);
        WordLearner y = Boundary.two("symbols 2;states 2;accept 1;move 0 b new to 1;", "");
        y.learn();
        Boundary.word(y, "b7");
        due("b of MACHINE 0 is", y.guess(), 1);
    }

    // ---- ==== 2.: STUCK. A TEST that there is already can't come: what is SHOWN, and what is split, would by that
    // TEST have been seen, as REMEMBERED or as not ALIKE, ahead of the STEP. So no test is of that.

    private static void shortWordsTen() {
        sentence("Promise 21", "==== 2.", "a STEP would make an 11th SHORT one");
        WordLearner x = learnt(TEN_SHORT);
        due("ten SHORT words", x.count(0), 10);
        due("LEARNT", x.stands(), 2);
        stuck("states 2;registers 2;symbols 2;accept 0;move 0 a new to 0 keep 1;move 0 b new to 1;move 1 a new to 0 keep 0;"
            + "move 1 b same 0 to 0;move 1 b same 1 to 1;", "232322223232323", 2, 4, 1, 10, 7);
    }

    private static void shortWordsLetters() {
        sentence("Promise 21", "==== 2.", "or one of more than 6 LETTERS or 3 NAMES; an 11th TEST");
        WordLearner x = learnt(SIX_LETTERS);
        due("LETTERS", x.brief(6, NONE, 0), 6);
        dueShort(x, 6, "a0a0a0a0a1a0");
        due("LEARNT", x.stands(), 2);
        stuck("states 2;registers 2;accept 1;move 0 a new to 1;move 1 a same 0 to 0 keep 1;move 1 a same 1 to 1;"
            + "move 1 a new to 0 keep 0;", "232322322", 2, 7, 3, 7, 4);
    }

    private static void shortWordsNames() {
        sentence("Promise 21", "==== 2.", "an 11th SHORT one, or one of more than 6 LETTERS or 3 NAMES");
        WordLearner x = behindSteps(PAIR, "322320");
        dueShort(x, 3, "a0a1a2");
        due("LEARNT", x.stands(), 2);
        stuck(TRIPLE, "323223", 2, 4, 4, 4, 4);
    }

    private static void testsTen() {
        sentence("Promise 21", "==== 2.", "an 11th TEST");
        WordLearner x = behindSteps(TEN_TESTS, "3232232333323120");
        due("ten TESTS, the last by 1", x.count(1), 10);
        WordLearner y = behindSteps("states 3;registers 2;symbols 2;accept 1;move 0 a new to 1 keep 0;move 0 b same 0 to 1;"
            + "move 1 a new to 2 keep 1;move 1 b same 0 to 2;move 2 b same 1 to 0;", "232323323123232320");
        due("ten TESTS, the last by 3", y.count(1), 10);
        stuck("states 5;registers 2;symbols 2;accept 2;move 0 a new to 1 keep 0;move 1 a same 0 to 4;move 1 a same 1 to 2;"
            + "move 1 b new to 2;move 2 b new to 1 keep 1;move 4 b same 0 to 0;", "32232323132323232", 3, 3, 2, 9, 10);
        stuck("states 5;registers 2;symbols 2;accept 4;move 0 a new to 1 keep 1;move 1 a same 1 to 2 keep 0;"
            + "move 1 b same 0 to 0;move 1 b new to 2 keep 0;move 2 b same 0 to 3 keep 1;move 2 b same 1 to 0;"
            + "move 2 b new to 3;move 3 a same 0 to 0;move 3 a same 1 to 4;move 3 b same 1 to 4;move 4 a same 1 to 1;",
            "323232232323232231", 1, 5, 2, 10, 10);
    }

    private static void testsLetters() {
        sentence("Promise 21", "==== 2.", "an 11th TEST, or one of more than 6 LETTERS");
        WordLearner x = learnt(SIX_LETTERS);
        dueTest(x, 1, "a0a0a0a1a1a0");
        WordLearner y = behindSteps("states 3;registers 2;symbols 2;accept 1;move 0 a same 1 to 1;move 0 b new to 1 keep 1;"
            + "move 1 b new to 2;move 2 a new to 1 keep 0;move 2 b same 0 to 0;", "2323231");
        dueTest(y, 4, "a0b1a1b1b1a1");
        stuck(LONG_TEST, "2323323232222", 3, 7, 2, 9, 6);
        stuck(LONG_TEST_1, "322233223", 1, 7, 3, 6, 5);
    }

    private static void testsNames() {
        sentence("Promise 21", "==== 2.", "an 11th TEST, or one of more than 6 LETTERS or 3 NAMES");
        WordLearner x = behindSteps(TRIPLE, "323223");
        dueTest(x, 3, "a0a1a2");
        WordLearner y = behindSteps("states 3;registers 2;symbols 2;accept 2;move 0 a new to 1 keep 1;move 1 a new to 2;"
            + "move 2 a same 1 to 1;", "3223120");
        dueTest(y, 3, "a0a1a2");
        stuck("states 5;symbols 2;accept 1;move 0 a new to 3;move 0 b new to 1;move 2 b new to 0;move 3 b new to 4;"
            + "move 4 b new to 2;", "2323232", 3, 4, 4, 5, 4);
        stuck("states 3;registers 2;symbols 2;accept 2;move 0 b new to 1 keep 1;move 1 a new to 2 drop 0;"
            + "move 1 b same 0 to 2;move 1 b same 1 to 1 keep 0;move 2 a new to 1;", "3223122", 1, 4, 4, 5, 4);
    }

    private static void nothingIsDone() {
        sentence("Promise 21", "==== 2.", "Nothing is done then.");
        WordLearner x = behindSteps(TRIPLE, "323223");
        for (int i = 0; i < 3; i++) {
            due("step", x.step(), -4);
            due("learn", x.learn(), -4);
            due("SHORT words", x.count(0), 4);
            due("TESTS", x.count(1), 4);
            due("stands", x.stands(), 0);
        }
        due("begin", x.begin(), 8);
        due("step", x.step(), 3);
    }

    private static void beginsAnew() {
        sentence("Promise 20", "==== 2.", "THE LEARNER begins anew by begin(), by machine() of MACHINE 0, by accept(), move() of it that change something.");
        WordLearner x = learnt(TWIN);
        due("begin", x.begin(), 5);
        due("begin", x.begin(), 2);
        x.learn();
        due("the same text", Boundary.machine(x, 0, TWIN), 5);
        due("machine", x.begin(), 2);
        x.learn();
        due("accept", x.accept(0, 0, 1), 0);
        due("accept", x.begin(), 2);
        x.learn();
        due("accept", x.accept(0, 0, 0), 1);
        due("accept", x.begin(), 2);
        x.learn();
        due("another to", x.move(0, 2, 0, 2, 2, 0, NONE), 1);
        due("another to", x.begin(), 2);
        x.learn();
        due("another keep", x.move(0, 2, 0, 2, 2, NONE, NONE), 1);
        due("another keep", x.begin(), 2);
        x.learn();
        due("another drop", x.move(0, 2, 0, 2, 2, NONE, 0), 1);
        due("another drop", x.begin(), 2);
        x.learn();
        due("none any more", x.move(0, 2, 0, 2, NONE, NONE, NONE), 1);
        due("none any more", x.begin(), 2);
        x.learn();
        due("a new one", x.move(0, 2, 0, 2, 1, 0, NONE), 0);
        due("a new one", x.begin(), 2);
    }

    private static void beginsAnewNot() {
        sentence("Promise 20", "==== 2.", "by accept(), move() of it that change something");
        WordLearner x = Boundary.busy();
        x.accept(0, 2, 1);
        x.accept(0, 0, 0);
        x.move(0, 0, 0, 2, 1, 0, NONE);
        x.move(0, 0, 0, 0, NONE, 0, 0);
        due("what changes nothing", x.count(0) + x.count(1), 5);
        x.accept(1, 0, 1);
        x.move(1, 0, 0, 2, 1, NONE, NONE);
        x.word(0);
        Boundary.machine(x, 1, TWIN);
        Boundary.word(x, "a1a2");
        due("MACHINE 1, THE WORD", x.count(0) + x.count(1), 5);
        Boundary.machine(x, 0, "states 6;");
        x.machine(0, 1);
        x.accept(0, 9, 1);
        x.accept(0, 0, 2);
        x.move(0, 0, 0, 2, 9, NONE, NONE);
        due("what is refused", x.count(0) + x.count(1), 5);
        due("stands", x.stands(), 2);
        due("begin", x.begin(), 5);
    }

    // ---- Promises 18, 19: remembered, alike

    private static void rememberedBounds() {
        sentence("Promise 18", "Of THE WORD (6 LETTERS at most, 4 NAMES at most) the NAMES REMEMBERED");
        due("no LETTERS", learnt(TWIN, "").remembered(), 0);
        due("six LETTERS, one NAME", learnt(TWIN, "a9a9a9a9a9a9").remembered(), 1);
        due("six LETTERS, four NAMES", learnt(TWIN, "a9a8a9a7a7a6").remembered(), 8);
        due("four LETTERS, four NAMES", learnt(TWIN, "a9a8a7a6").remembered(), 8);
    }

    private static void rememberedRefused() {
        sentence("Promise 18", "-4: it has more.");
        Boundary.refused("seven LETTERS", () -> learnt(TWIN, "a9a9a9a9a9a9a9"), WordLearner::remembered, -4);
        Boundary.refused("twelve LETTERS", () -> learnt(TWIN, "a9a9a9a9a9a9a9a9a9a9a9a9"), WordLearner::remembered, -4);
        Boundary.refused("five NAMES", () -> learnt(TWIN, "a9a8a7a6a5"), WordLearner::remembered, -4);
        Boundary.refused("six NAMES", () -> learnt(TWIN, "a9a8a7a6a5a4"), WordLearner::remembered, -4);
        Boundary.refused("seven LETTERS, five NAMES", () -> learnt(TWIN, "a9a8a7a6a5a5a5"), WordLearner::remembered, -4);
    }

    private static void rememberedBits() {
        sentence("Promise 18", "as bits by LEAST form");
        due("the first NAME", learnt(TWIN, "a50a1a50").remembered(), 1);
        due("the second", learnt(TWIN, "a50a1a50a1").remembered(), 2);
        due("the third", learnt(TWIN, "a50a1a50a0").remembered(), 4);
        due("the fourth", learnt(TWIN, "a50a1a0a99").remembered(), 8);
        due("two", learnt(TURNED, "a99a0").remembered(), 3);
    }

    private static void alikeTold() {
        sentence("Promise 19", "told as 0 and, for each NAME REMEMBERED of THE WORD rising, 10 times what there is so far and the place, from 1 on, among those REMEMBERED of u, rising, of that to which it is set (0: none is REMEMBERED)");
        due("none is REMEMBERED", learnt(TWIN, "").alike(0), 0);
        due("nor with the empty TEST alone", with(TWIN, "a5a6").alike(0), 0);
        due("one", learnt(TWIN, "a5a6a5a6").alike(1), 1);
        due("six LETTERS, four NAMES", learnt(TWIN, "a9a8a9a7a7a6").alike(1), 1);
        WordLearner x = learnt(TURNED, "a9a3");
        int u = shortWord(x, "a0a1");
        due("two", x.alike(u), 12);
        Boundary.word(x, "b9b3");
        due("two, turned", x.alike(u), 21);
        Boundary.word(x, "b3b9");
        due("two, turned, of other NAMES", x.alike(u), 21);
        WordLearner ten = learnt(TEN_SHORT);
        due("the last SHORT word", ten.alike(9), NONE);
        Boundary.word(ten, "a0a0b0a0");
        due("the last SHORT word", ten.alike(9), 1);
        due("none behind it", ten.alike(10), -2);
    }

    private static void alikeNone() {
        sentence("Promise 19", "NONE: it isn't");
        WordLearner x = learnt(TWIN, "a5");
        due("alike(0)", x.alike(0), NONE);
        due("alike(1)", x.alike(1), 1);
        due("alike(2)", x.alike(2), NONE);
    }

    private static void alikeRefused() {
        sentence("Promise 19", "-2: there is no such u; -4: it has more.");
        Boundary.refused("alike(-1)", x -> x.alike(-1), -2);
        Boundary.refused("alike(3) of three", x -> x.alike(3), -2);
        Boundary.refused("alike(1) of one", WordLearner::new, x -> x.alike(1), -2);
        for (int far : Boundary.FAR) {
            Boundary.refused("alike(" + far + ")", x -> x.alike(far), -2);
        }
        String[] more = {"a9a9a9a9a9a9a9", "a9a8a7a6a5", "a9a8a7a6a5a5a5"};
        for (String word : more) {
            Boundary.refused("alike(0) of " + word, () -> learnt(TWIN, word), x -> x.alike(0), -4);
            Boundary.refused("alike(2) of " + word, () -> learnt(TWIN, word), x -> x.alike(2), -4);
            Boundary.refused("alike(3) of " + word, () -> learnt(TWIN, word), x -> x.alike(3), -2);
            Boundary.refused("alike(-1) of " + word, () -> learnt(TWIN, word), x -> x.alike(-1), -2);
        }
    }

    // ---- Promises 20 to 22: begin, step, learn

    private static void beginCounts() {
        sentence("Promise 20", "THE LEARNER begins anew: how many SHORT words and TESTS there were together.");
        due("a new object", new WordLearner().begin(), 2);
        WordLearner x = learnt(TEN_SHORT);
        due("ten SHORT words, six TESTS", x.begin(), 16);
        due("SHORT words", x.count(0), 1);
        due("TESTS", x.count(1), 1);
        due("SHORT word 1", x.brief(1, NONE, 0), -2);
        due("TEST 1", x.test(1, NONE, 0), -2);
        due("LETTERS of SHORT words", x.count(2), 0);
        due("LETTERS of TESTS", x.count(3), 0);
        due("LONG words", x.count(4), 2);
        due("begin", x.begin(), 2);
        due("learn", x.learn(), 14);
        WordLearner kept = learnt(TWIN);
        kept.begin();
        due("no STATE has a REGISTER", kept.spare(), 1);
        WordLearner y = learnt(TEN_TESTS);
        due("seven SHORT words, ten TESTS", y.begin(), 17);
    }

    private static void stepKinds() {
        sentence("Promise 21", "A STEP: 0 to 3 as told.");
        due("0", new WordLearner().step(), 0);
        behindSteps("states 3;registers 2;symbols 2;accept 2;move 0 a new to 1 keep 1;move 1 a new to 2;move 2 a same 1 to 1;",
            "32231200");
    }

    private static void stepStuck() {
        sentence("Promise 21", "-4: STUCK.");
        Boundary.refused("STUCK at 1", () -> behindSteps(LONG_TEST_1, "322233223"), WordLearner::step, -4);
        Boundary.refused("STUCK at 2", () -> behindSteps(TRIPLE, "323223"), WordLearner::step, -4);
        Boundary.refused("STUCK at 3", () -> behindSteps(LONG_TEST, "2323323232222"), WordLearner::step, -4);
        WordLearner x = behindSteps(TRIPLE, "323223");
        due("step", x.step(), -4);
        x.move(0, 2, 0, 2, NONE, NONE, NONE);
        due("no more, if MACHINE 0 is another one", x.step(), 0);
    }

    /** 40 can't be come to: ten SHORT words and ten TESTS take 18 STEPS. */
    private static void learnCounts() {
        sentence("Promise 22", "STEPS till it is LEARNT, 40 at most: how many that weren't 0.");
        due("none", new WordLearner().learn(), 0);
        due("one", with("accept 0;").learn(), 1);
        WordLearner x = with(TWIN);
        due("three", x.learn(), 3);
        due("no more", x.learn(), 0);
        due("the most", with("states 3;registers 2;symbols 2;accept 1;move 0 a new to 1 keep 0;move 0 b same 0 to 1;"
            + "move 1 a new to 2 keep 1;move 1 b same 0 to 2;move 2 b same 1 to 0;").learn(), 17);
        WordLearner y = behindSteps(TWIN, "32");
        due("what was left", y.learn(), 1);
    }

    private static void learnStuck() {
        sentence("Promise 22", "-4: STUCK (what was done ahead of that stays).");
        WordLearner x = with(TRIPLE);
        due("learn", x.learn(), -4);
        due("SHORT words", x.count(0), 4);
        due("TESTS", x.count(1), 4);
        dueShort(x, 3, "a0a1a2");
        due("learn", x.learn(), -4);
        Boundary.refused("learn", () -> behindSteps(LONG_TEST_1, "322233223"), WordLearner::learn, -4);
        Boundary.refused("learn", () -> behindSteps(TRIPLE, "323223"), WordLearner::learn, -4);
        Boundary.refused("learn", () -> behindSteps(LONG_TEST, "2323323232222"), WordLearner::learn, -4);
    }

    // ---- Promises 23 to 26: brief, test, registers, goes

    private static void briefLetters() {
        sentence("Promise 23", "How many LETTERS SHORT word u has (k NONE); of its LETTER k, what 0 its SYMBOL, 1 its NAME.");
        WordLearner x = learnt(SIX_LETTERS);
        due("the empty one", x.brief(0, NONE, 0), 0);
        due("six", x.brief(6, NONE, 0), 6);
        due("the first LETTER", x.brief(6, 0, 1), 0);
        due("the fifth LETTER", x.brief(6, 4, 1), 1);
        due("the last LETTER", x.brief(6, 5, 1), 0);
        due("the last LETTER", x.brief(6, 5, 0), 0);
        due("none behind it", x.brief(6, 6, 0), -2);
        WordLearner ten = learnt(TEN_SHORT);
        due("the tenth", ten.brief(9, NONE, 0), 4);
        due("its SYMBOL", ten.brief(9, 2, 0), 1);
        due("no eleventh", ten.brief(10, NONE, 0), -2);
    }

    private static void briefRefused() {
        sentence("Promise 23", "-2: there is none such (of any; k NONE: what isn't 0).");
        Boundary.refused("brief(-1, NONE, 0)", x -> x.brief(-1, NONE, 0), -2);
        Boundary.refused("brief(3, NONE, 0) of three", x -> x.brief(3, NONE, 0), -2);
        Boundary.refused("brief(3, 0, 0) of three", x -> x.brief(3, 0, 0), -2);
        Boundary.refused("brief(0, 0, 0) of none", x -> x.brief(0, 0, 0), -2);
        Boundary.refused("brief(2, 2, 0) of two", x -> x.brief(2, 2, 0), -2);
        Boundary.refused("brief(2, -2, 0)", x -> x.brief(2, -2, 0), -2);
        Boundary.refused("brief(2, 0, -1)", x -> x.brief(2, 0, -1), -2);
        Boundary.refused("brief(2, 0, 2)", x -> x.brief(2, 0, 2), -2);
        Boundary.refused("brief(2, NONE, -1)", x -> x.brief(2, NONE, -1), -2);
        Boundary.refused("brief(2, NONE, 1)", x -> x.brief(2, NONE, 1), -2);
        for (int far : Boundary.FAR) {
            Boundary.refused("brief(" + far + ", NONE, 0)", x -> x.brief(far, NONE, 0), -2);
            Boundary.refused("brief(2, " + far + ", 0)", x -> x.brief(2, far, 0), -2);
            Boundary.refused("brief(2, 0, " + far + ")", x -> x.brief(2, 0, far), -2);
            Boundary.refused("brief(2, NONE, " + far + ")", x -> x.brief(2, NONE, far), -2);
        }
    }

    private static void testRefused() {
        sentence("Promise 24", "Likewise of TEST t.");
        Boundary.refused("test(-1, NONE, 0)", x -> x.test(-1, NONE, 0), -2);
        Boundary.refused("test(2, NONE, 0) of two", x -> x.test(2, NONE, 0), -2);
        Boundary.refused("test(0, 0, 0) of none", x -> x.test(0, 0, 0), -2);
        Boundary.refused("test(1, 1, 0) of one", x -> x.test(1, 1, 0), -2);
        Boundary.refused("test(1, -2, 0)", x -> x.test(1, -2, 0), -2);
        Boundary.refused("test(1, 0, -1)", x -> x.test(1, 0, -1), -2);
        Boundary.refused("test(1, 0, 2)", x -> x.test(1, 0, 2), -2);
        Boundary.refused("test(1, NONE, -1)", x -> x.test(1, NONE, -1), -2);
        Boundary.refused("test(1, NONE, 1)", x -> x.test(1, NONE, 1), -2);
        for (int far : Boundary.FAR) {
            Boundary.refused("test(" + far + ", NONE, 0)", x -> x.test(far, NONE, 0), -2);
            Boundary.refused("test(1, " + far + ", 0)", x -> x.test(1, far, 0), -2);
            Boundary.refused("test(1, 0, " + far + ")", x -> x.test(1, 0, far), -2);
            Boundary.refused("test(1, NONE, " + far + ")", x -> x.test(1, NONE, far), -2);
        }
        WordLearner ten = learnt(TEN_TESTS);
        due("the empty one", ten.test(0, NONE, 0), 0);
        due("six LETTERS", ten.test(5, NONE, 0), 6);
        due("the last of them", ten.test(5, 5, 0), 0);
        due("the tenth", ten.test(9, NONE, 0), 4);
        due("its last NAME", ten.test(9, 3, 1), 1);
        due("no eleventh", ten.test(10, NONE, 0), -2);
    }

    private static void registersRefused() {
        sentence("Promise 25", "NAMES REMEMBERED of SHORT word u (bits). -2.");
        WordLearner x = learnt(TWIN);
        due("none", x.registers(0), 0);
        due("one", x.registers(1), 1);
        WordLearner ten = learnt(TEN_SHORT);
        due("two", ten.registers(4), 3);
        due("the tenth", ten.registers(9), 1);
        due("no eleventh", ten.registers(10), -2);
        WordLearner y = learnt(TEN_TESTS);
        due("the first and the third NAME", y.registers(3), 5);
        Boundary.refused("registers(-1)", z -> z.registers(-1), -2);
        Boundary.refused("registers(3) of three", z -> z.registers(3), -2);
        Boundary.refused("registers(1) of one", WordLearner::new, z -> z.registers(1), -2);
        for (int far : Boundary.FAR) {
            Boundary.refused("registers(" + far + ")", z -> z.registers(far), -2);
        }
    }

    private static void goesNames() {
        sentence("Promise 26", "(n from 0 to how many NAMES u has; it may be none that is REMEMBERED)");
        WordLearner x = learnt(TWIN);
        due("goes(0, 0, 0)", x.goes(0, 0, 0), 1);
        due("goes(0, 0, 1)", x.goes(0, 0, 1), -3);
        due("goes(2, 0, 0)", x.goes(2, 0, 0), 2);
        due("goes(2, 0, 1)", x.goes(2, 0, 1), 1);
        due("goes(2, 0, 2)", x.goes(2, 0, 2), -3);
        WordLearner y = learnt(PAIR);
        for (int n = 0; n <= 3; n++) {
            due("none is REMEMBERED, goes(3, 0, " + n + ")", y.goes(3, 0, n), 3);
        }
        due("goes(3, 0, 4)", y.goes(3, 0, 4), -3);
        due("goes(1, 0, 0), not REMEMBERED", y.goes(1, 0, 0), 2);
        WordLearner six = learnt(SIX_LETTERS);
        Model model = modelBehind(SIX_LETTERS, 9);
        for (int n = 0; n <= 2; n++) {
            due("six LETTERS, goes(6, 0, " + n + ")", six.goes(6, 0, n), model.goes(6, 0, n));
        }
        WordLearner ten = learnt(TEN_SHORT);
        due("the tenth SHORT word", ten.goes(9, 0, 0), modelBehind(TEN_SHORT, 14).goes(9, 0, 0));
        due("no eleventh", ten.goes(10, 0, 0), -2);
    }

    private static void goesNowhere() {
        sentence("Promise 26", "NONE: there is none");
        WordLearner x = behindSteps(TWIN, "3");
        due("goes(0, 0, 0)", x.goes(0, 0, 0), NONE);
        due("step", x.step(), 2);
        due("goes(0, 0, 0)", x.goes(0, 0, 0), 1);
        due("goes(1, 0, 0)", x.goes(1, 0, 0), NONE);
    }

    private static void goesRefused() {
        sentence("Promise 26", "-2: u, the SYMBOL (MACHINE 0's); -3: n.");
        Boundary.refused("goes(-1, 0, 0)", x -> x.goes(-1, 0, 0), -2);
        Boundary.refused("goes(3, 0, 0) of three", x -> x.goes(3, 0, 0), -2);
        Boundary.refused("goes(0, -1, 0)", x -> x.goes(0, -1, 0), -2);
        Boundary.refused("goes(0, 1, 0), MACHINE 1 alone has b", x -> x.goes(0, 1, 0), -2);
        Boundary.refused("goes(0, 2, 0)", () -> learnt(TURNED), x -> x.goes(0, 2, 0), -2);
        Boundary.refused("goes(0, 0, -1)", x -> x.goes(0, 0, -1), -3);
        Boundary.refused("goes(0, 0, 1)", x -> x.goes(0, 0, 1), -3);
        Boundary.refused("goes(1, 0, 2)", x -> x.goes(1, 0, 2), -3);
        Boundary.refused("goes(3, 0, -1)", x -> x.goes(3, 0, -1), -2);
        Boundary.refused("goes(0, 1, -1)", x -> x.goes(0, 1, -1), -2);
        for (int far : Boundary.FAR) {
            Boundary.refused("goes(" + far + ", 0, 0)", x -> x.goes(far, 0, 0), -2);
            Boundary.refused("goes(0, " + far + ", 0)", x -> x.goes(0, far, 0), -2);
            Boundary.refused("goes(0, 0, " + far + ")", x -> x.goes(0, 0, far), -3);
        }
        due("b of MACHINE 0", learnt(TURNED).goes(0, 1, 0) >= 0 ? 1 : 0, 1);
    }

    // ---- Promises 27 to 33: what is hypothesised, and counts

    private static void standsKinds() {
        sentence("Promise 27", "0 it doesn't, 1 it does, but a STEP would be 3, 2 it is LEARNT.");
        due("a STEP would be 0", new WordLearner().stands(), 2);
        due("a STEP would be 1", behindSteps(TEN_TESTS, "3232232333323").stands(), 0);
        due("a STEP would be 2", behindSteps(TWIN, "3").stands(), 0);
        due("a STEP would be 3", with(TWIN).stands(), 1);
        due("STUCK at 1", behindSteps(LONG_TEST_1, "322233223").stands(), 0);
        due("STUCK at 2", behindSteps(TRIPLE, "323223").stands(), 0);
        due("STUCK at 3", behindSteps(LONG_TEST, "2323323232222").stands(), 1);
    }

    private static void guessAnswers() {
        sentence("Promise 28", "Whether THE HYPOTHESIS ACCEPTS THE WORD: 1, 0. -5.");
        due("the empty WORD", new WordLearner().guess(), 0);
        due("the empty WORD", learnt("accept 0;").guess(), 1);
        due("twelve LETTERS", learnt(TWIN, "a1a2a3a4a5a6a7a8a9a10a11a11").guess(), 1);
        due("twelve LETTERS", learnt(TWIN, "a1a2a3a4a5a6a7a8a9a10a11a12").guess(), 0);
        due("STUCK at 3", behindSteps(LONG_TEST, "2323323232222").guess(), 1);
    }

    private static void guessOfB() {
        sentence("Promise 28", "(b is LOST, if MACHINE 0 has not that SYMBOL: it ACCEPTS nothing then.)");
        String all = "accept 0;move 0 a new to 0;";
        due("a", learnt(all, "a5a6").guess(), 1);
        due("b", learnt(all, "b5").guess(), 0);
        due("b, then a", learnt(all, "a5b5a5").guess(), 0);
        due("b, then a", learnt(all, "a5b5a5").guessed(3, 0), NONE);
        WordLearner x = Boundary.two(all, "symbols 2;");
        x.learn();
        Boundary.word(x, "b5");
        due("MACHINE 1 alone has b", x.guess(), 0);
        due("MACHINE 0 has b", learnt("symbols 2;accept 0;move 0 a new to 0;move 0 b new to 0;", "b5").guess(), 1);
    }

    private static void guessRefused() {
        sentence("Promise 28", "ACCEPTS THE WORD: 1, 0. -5.");
        Boundary.refused("a STEP would be 2", Boundary::halfway, WordLearner::guess, -5);
        Boundary.refused("a STEP would be 1", () -> behindSteps(TEN_TESTS, "3232232333323"), WordLearner::guess, -5);
        Boundary.refused("STUCK at 2", () -> behindSteps(TRIPLE, "323223"), WordLearner::guess, -5);
        Boundary.refused("STUCK at 1", () -> behindSteps(LONG_TEST_1, "322233223"), WordLearner::guess, -5);
    }

    private static void guessedPlaces() {
        sentence("Promise 29", "Behind the first i LETTERS of THE WORD THE HYPOTHESIS is in, what 0: the SHORT word (NONE: LOST)");
        WordLearner x = learnt(TWIN, "a7a7a8b8a8");
        int[] words = {0, 1, 2, 1, NONE, NONE};
        int[] names = {NONE, 7, 7, 8, NONE, NONE};
        for (int i = 0; i <= 5; i++) {
            due("guessed(" + i + ", 0)", x.guessed(i, 0), words[i]);
            due("guessed(" + i + ", 1)", x.guessed(i, 1), names[i]);
        }
        due("the empty WORD", new WordLearner().guessed(0, 0), 0);
        WordLearner twelve = learnt(TWIN, "a1a2a3a4a5a6a7a8a9a10a11a11");
        due("guessed(12, 0)", twelve.guessed(12, 0), 2);
        due("guessed(12, 1)", twelve.guessed(12, 1), 11);
        due("guessed(13, 0)", twelve.guessed(13, 0), -3);
    }

    private static void guessedRegisters() {
        sentence("Promise 29", "1, 2: the NAME in its REGISTER what less 1, rising (NONE: there is none such)");
        WordLearner x = learnt(TURNED, "b99b0");
        int u = shortWord(x, "a0a1");
        due("none", x.guessed(0, 1), NONE);
        due("one", x.guessed(1, 1), 99);
        due("one", x.guessed(1, 2), NONE);
        due("two", x.guessed(2, 0), u);
        due("the first, by the way turned", x.guessed(2, 1), 0);
        due("the second, by the way turned", x.guessed(2, 2), 99);
    }

    private static void hypothesisWays() {
        sentence("Promise 29", "==== 2.", "by a LETTER it goes from u as the LONG word does to the first SHORT one to which that is ALIKE, by the first way");
        WordLearner x = learnt(EITHER, "a9a3a9");
        due("both ways would do", x.guessed(2, 0), shortWord(x, "a0a1"));
        due("the first", x.guessed(2, 1), 9);
        due("the first", x.guessed(2, 2), 3);
        due("either NAME will do", x.guess(), 1);
        WordLearner y = learnt(TURNED, "b9b3a3");
        due("the second alone will do", y.guess(), 1);
        Boundary.word(y, "b9b3a9");
        due("the second alone will do", y.guess(), 0);
    }

    private static void guessedRefused() {
        sentence("Promise 29", "-3: i; -2: what; -5.");
        Boundary.refused("guessed(-1, 0)", x -> x.guessed(-1, 0), -3);
        Boundary.refused("guessed(4, 0) of three", x -> x.guessed(4, 0), -3);
        Boundary.refused("guessed(1, 0) of none", WordLearner::new, x -> x.guessed(1, 0), -3);
        Boundary.refused("guessed(0, -1)", x -> x.guessed(0, -1), -2);
        Boundary.refused("guessed(0, 3)", x -> x.guessed(0, 3), -2);
        Boundary.refused("guessed(-1, 3)", x -> x.guessed(-1, 3), -3);
        Boundary.refused("guessed(0, 0)", Boundary::halfway, x -> x.guessed(0, 0), -5);
        Boundary.refused("guessed(3, 2)", Boundary::halfway, x -> x.guessed(3, 2), -5);
        Boundary.refused("guessed(4, 0)", Boundary::halfway, x -> x.guessed(4, 0), -3);
        Boundary.refused("guessed(0, 3)", Boundary::halfway, x -> x.guessed(0, 3), -2);
        Boundary.refused("guessed(-1, -1)", Boundary::halfway, x -> x.guessed(-1, -1), -3);
        for (int far : Boundary.FAR) {
            Boundary.refused("guessed(" + far + ", 0)", x -> x.guessed(far, 0), -3);
            Boundary.refused("guessed(0, " + far + ")", x -> x.guessed(0, far), -2);
        }
    }

    private static void refutesNone() {
        sentence("Promise 30", "NONE: none does (k NONE, what 0)");
        due("none does", learnt(TWIN).refutes(NONE, 0), NONE);
        WordLearner x = with(TWIN);
        due("one does", x.refutes(NONE, 0), 2);
        due("its first LETTER", x.refutes(0, 0), 0);
        due("its first LETTER", x.refutes(0, 1), 0);
        due("its last LETTER", x.refutes(1, 0), 0);
        due("its last LETTER", x.refutes(1, 1), 0);
    }

    private static void refutesRefused() {
        sentence("Promise 30", "-2: there is no such LETTER (so for each k from 0 on, if none does), what; -5 (-5 first, then -2).");
        Boundary.refused("refutes(2, 0) of two", () -> with(TWIN), x -> x.refutes(2, 0), -2);
        Boundary.refused("refutes(-2, 0)", () -> with(TWIN), x -> x.refutes(-2, 0), -2);
        Boundary.refused("refutes(0, 2)", () -> with(TWIN), x -> x.refutes(0, 2), -2);
        Boundary.refused("refutes(0, -1)", () -> with(TWIN), x -> x.refutes(0, -1), -2);
        Boundary.refused("refutes(NONE, 1)", () -> with(TWIN), x -> x.refutes(NONE, 1), -2);
        Boundary.refused("refutes(NONE, -1)", () -> with(TWIN), x -> x.refutes(NONE, -1), -2);
        Boundary.refused("refutes(0, 0), none does", x -> x.refutes(0, 0), -2);
        Boundary.refused("refutes(0, 1), none does", x -> x.refutes(0, 1), -2);
        Boundary.refused("refutes(1, 0), none does", x -> x.refutes(1, 0), -2);
        Boundary.refused("refutes(-2, 0), none does", x -> x.refutes(-2, 0), -2);
        Boundary.refused("refutes(NONE, 1), none does", x -> x.refutes(NONE, 1), -2);
        Boundary.refused("refutes(NONE, -1), none does", x -> x.refutes(NONE, -1), -2);
        for (int k = -2; k <= 1; k++) {
            int at = k;
            Boundary.refused("refutes(" + k + ", 0)", Boundary::halfway, x -> x.refutes(at, 0), -5);
            Boundary.refused("refutes(" + k + ", 9)", Boundary::halfway, x -> x.refutes(at, 9), -5);
        }
        for (int far : Boundary.FAR) {
            Boundary.refused("refutes(" + far + ", 0)", () -> with(TWIN), x -> x.refutes(far, 0), -2);
            Boundary.refused("refutes(0, " + far + ")", () -> with(TWIN), x -> x.refutes(0, far), -2);
            Boundary.refused("refutes(" + far + ", " + far + ")", Boundary::halfway, x -> x.refutes(far, far), -5);
        }
    }

    private static void splitsEnds() {
        sentence("Promise 31", "The i by which it is split. NONE: none refutes it");
        due("the first i", with(TWIN).splits(), 0);
        due("a later i", behindSteps(REFUTED_BY_20, "232323232322").splits(), 6);
        due("none refutes it", new WordLearner().splits(), NONE);
        due("none refutes it", learnt(TWIN).splits(), NONE);
        due("STUCK at 3", behindSteps(LONG_TEST, "2323323232222").splits(), 4);
    }

    private static void splitsRefused() {
        sentence("Promise 31", "NONE: none refutes it; -5.");
        Boundary.refused("a STEP would be 2", Boundary::halfway, WordLearner::splits, -5);
        Boundary.refused("a STEP would be 1", () -> behindSteps(TEN_TESTS, "3232232333323"), WordLearner::splits, -5);
        Boundary.refused("STUCK at 2", () -> behindSteps(TRIPLE, "323223"), WordLearner::splits, -5);
    }

    private static void spareEnds() {
        sentence("Promise 32", "REGISTERS of MACHINE 0 less the most that a STATE of THE HYPOTHESIS has.");
        due("none of none", new WordLearner().spare(), 0);
        due("none of two", with("registers 2;").spare(), 2);
        due("one of one", learnt(TWIN).spare(), 0);
        due("one of two", learnt(TWIN.replace("registers 1", "registers 2")).spare(), 1);
        due("two of two", learnt(TURNED).spare(), 0);
        due("MACHINE 1's don't count", Boundary.two("", "registers 2;").spare(), 0);
    }

    private static void spareRefused() {
        sentence("Promise 32", "THE HYPOTHESIS has. -5.");
        Boundary.refused("a STEP would be 2", Boundary::halfway, WordLearner::spare, -5);
        Boundary.refused("a STEP would be 1", () -> behindSteps(TEN_TESTS, "3232232333323"), WordLearner::spare, -5);
        Boundary.refused("STUCK at 2", () -> behindSteps(TRIPLE, "323223"), WordLearner::spare, -5);
    }

    private static void countAll() {
        sentence("Promise 33", "0 SHORT words, 1 TESTS, 2 LETTERS of all SHORT words, 3 of all TESTS, 4 LONG words of all SHORT ones, 5 bytes on THE TAPE, 6 SHORT words that MACHINE 0 ACCEPTS.");
        int[] atFirst = {1, 1, 0, 0, 1, 0, 0};
        int[] twin = {3, 2, 3, 1, 5, 20, 1};
        int[] pair = {4, 3, 6, 3, 4, 0, 1};
        WordLearner busy = Boundary.busy();
        for (int what = 0; what <= 6; what++) {
            due("count(" + what + ")", new WordLearner().count(what), atFirst[what]);
            due("count(" + what + ")", busy.count(what), twin[what]);
            due("count(" + what + ")", learnt(PAIR).count(what), pair[what]);
        }
        due("the empty one is ACCEPTED", with("accept 0;").count(6), 1);
        due("ten", learnt(TEN_SHORT).count(0), 10);
        due("ten", learnt(TEN_TESTS).count(1), 10);
        WordLearner full = new WordLearner();
        Boundary.put(full, " ".repeat(500));
        due("a full TAPE", full.count(5), 500);
    }

    private static void countOthers() {
        sentence("Promise 33", "NONE for others.");
        due("count(-1)", Boundary.busy().count(-1), NONE);
        due("count(7)", Boundary.busy().count(7), NONE);
        for (int far : Boundary.FAR) {
            due("count(" + far + ")", Boundary.busy().count(far), NONE);
        }
    }
}
