import java.nio.charset.StandardCharsets;
import java.nio.file.Files;
import java.nio.file.Path;
import java.util.ArrayList;
import java.util.List;
import java.util.function.Supplier;
import java.util.function.ToIntFunction;

/**
 * What the tests of boundary cases share. Each test names a promise and the sentence of the document that it holds the
 * class to; the sentence must stand in the promise, or the part on which it leans, word for word.
 */
final class Boundary {
    static final int NONE = WordLearner.NONE;

    /** Numbers far beyond every bound, the ends of int among them. */
    static final int[] FAR = {
        Integer.MIN_VALUE, Integer.MIN_VALUE + 1, -65536, -256, 256, 65536, Integer.MAX_VALUE - 1, Integer.MAX_VALUE};

    /** Accepts, if the last two NAMES are alike: SHORT words are the empty one, a0, a0a0; TESTS the empty one, a0. */
    static final String TWIN = "registers 1;states 3;accept 2;move 0 a new to 1 keep 0;"
        + "move 1 a same 0 to 2;move 1 a new to 1 keep 0;move 2 a same 0 to 2;move 2 a new to 1 keep 0;";

    private static final Path DOC = Path.of("../shared/DOC.md");
    private static final int CALLS = 512;

    private static String doc = null;
    private static String now = "";
    private static int sentences = 0;
    private static int wrong = 0;

    private Boundary() {
    }

    // ---- what is due

    /** The next calls of due() are about a promise and a sentence of it, or of the part on which it leans. */
    static void sentence(String promise, String part, String words) {
        now = promise + (part.equals(promise) ? "" : ", " + part) + ", '" + words + "'";
        sentences++;
        if (Files.exists(DOC) && !partOf(part).contains(words)) {
            tell("the document doesn't say so");
        }
    }

    private static String partOf(String part) {
        String all = readDoc();
        if (part.startsWith("Promise")) {
            return between(all, "## " + part + ":", "\n## ");
        }
        return switch (part) {
            case "Terms" -> between(all, "## Terms", "==== 2. THE LEARNER");
            case "==== 2." -> between(all, "==== 2. THE LEARNER", "==== 3. Two of");
            case "==== 3." -> between(all, "==== 3. Two of", "The constants:");
            case "The constants" -> between(all, "The constants:", "Ahead of");
            default -> between(all, "## " + part, "\n## ");
        };
    }

    private static String between(String all, String first, String behind) {
        int start = all.indexOf(first);
        int end = start < 0 ? -1 : all.indexOf(behind, start + first.length());
        return start < 0 ? "" : all.substring(start, end < 0 ? all.length() : end);
    }

    private static String readDoc() {
        if (doc == null) {
            try {
                doc = Files.readString(DOC, StandardCharsets.UTF_8);
            } catch (java.io.IOException e) {
                throw new java.io.UncheckedIOException(e);
            }
        }
        return doc;
    }

    private static void tell(String what) {
        wrong++;
        System.out.println(now + ": " + what);
    }

    static void due(String call, int got, int want) {
        if (got != want) {
            tell(call + " answered " + got + ", due is " + want);
        }
    }

    private static void same(String call, List<Integer> got, List<Integer> want) {
        if (!got.equals(want)) {
            tell(call + ": later calls show " + got + ", due is " + want);
        }
    }

    static void end() {
        System.out.println(sentences + " sentences, " + (wrong == 0 ? "all hold" : wrong + " answers are not as due"));
        if (wrong != 0) {
            System.exit(1);
        }
    }

    // ---- texts

    static void put(WordLearner x, String text) {
        for (int at = 0; at < text.length(); at += 20) {
            int[] five = new int[5];
            for (int i = 0; i < 20; i++) {
                int sign = at + i < text.length() ? text.charAt(at + i) & 255 : ' ';
                five[i / 4] = five[i / 4] << 8 | sign;
            }
            x.feed(five[0], five[1], five[2], five[3], five[4]);
        }
    }

    static int machine(WordLearner x, int machine, String text) {
        put(x, text);
        return x.machine(machine, text.length());
    }

    static int word(WordLearner x, String text) {
        put(x, text);
        return x.word(text.length());
    }

    static WordLearner with(String machine0) {
        return with(machine0, "");
    }

    /** With MACHINE 0 and THE WORD. */
    static WordLearner with(String machine0, String word) {
        WordLearner x = new WordLearner();
        if (machine(x, 0, machine0) < 0 || word(x, word) < 0) {
            tell("a FAULT at " + x.fault(1) + " of " + machine0 + word);
        }
        return x;
    }

    static WordLearner two(String machine0, String machine1) {
        WordLearner x = with(machine0);
        if (machine(x, 1, machine1) < 0) {
            tell("a FAULT at " + x.fault(1) + " of " + machine1);
        }
        return x;
    }

    static WordLearner learnt(String machine0, String word) {
        WordLearner x = with(machine0, word);
        x.learn();
        return x;
    }

    /** A text of a MACHINE without a FAULT: how many moves it tells. */
    static WordLearner fine(String text, int moves) {
        WordLearner x = new WordLearner();
        due("machine() of '" + text + "'", machine(x, 0, text), moves);
        due("fault(0) of '" + text + "'", x.fault(0), 0);
        due("fault(1) of '" + text + "'", x.fault(1), NONE);
        return x;
    }

    static void faulty(String text, int fault, int place) {
        faulty("machine() of '" + text + "'", text, x -> x.machine(0, text.length()), fault, place);
    }

    static WordLearner fineWord(String text, int letters) {
        WordLearner x = new WordLearner();
        due("word() of '" + text + "'", word(x, text), letters);
        due("fault(0) of '" + text + "'", x.fault(0), 0);
        due("fault(1) of '" + text + "'", x.fault(1), NONE);
        return x;
    }

    static void faultyWord(String text, int fault, int place) {
        faulty("word() of '" + text + "'", text, x -> x.word(text.length()), fault, place);
    }

    /** The text is refused with that FAULT at that place, and nothing but THE TAPE changes. */
    static void faulty(String call, String text, ToIntFunction<WordLearner> reads, int fault, int place) {
        WordLearner x = busy();
        x.word(0);
        word(x, "a7b3a7");
        put(x, text);
        due(call, reads.applyAsInt(x), -30 - fault);
        due("count(5) behind " + call, x.count(5), 0);
        due("fault(0) behind " + call, x.fault(0), fault);
        due("fault(1) behind " + call, x.fault(1), place);
        same(call, shown(x), shown(busy()));
    }

    // ---- objects, and what they show

    /** LEARNT, with two MACHINES, a WORD, a FAULT of the latest text, and bytes on THE TAPE. */
    static WordLearner busy() {
        WordLearner x = two(TWIN, "states 2;symbols 2;accept 1;move 0 b new to 1;");
        word(x, "a7b3a7");
        x.learn();
        machine(x, 1, "states 7;");
        put(x, "a9 b5");
        return x;
    }

    /** As busy(), but one STEP was made alone: THE HYPOTHESIS doesn't STAND. */
    static WordLearner halfway() {
        WordLearner x = busy();
        x.begin();
        x.step();
        return x;
    }

    /** All that later calls can show but THE TAPE and the latest FAULT. */
    private static List<Integer> shown(WordLearner x) {
        List<Integer> all = new ArrayList<>();
        for (int m = 0; m < 2; m++) {
            for (int what = 0; what < 5; what++) {
                all.add(x.of(m, what));
            }
            for (int state = 0; state < x.of(m, 0); state++) {
                showMoves(all, x, m, state);
            }
            all.add(x.ask(m));
        }
        int letters = x.letter(NONE, 0);
        for (int k = 0; k < letters; k++) {
            all.add(x.letter(k, 0));
            all.add(x.letter(k, 1));
        }
        for (int what : new int[] {0, 1, 2, 3, 4, 6}) {
            all.add(x.count(what));
        }
        showLists(all, x);
        all.addAll(List.of(x.stands(), x.splits(), x.spare(), x.guess(), x.refutes(NONE, 0), x.guessed(letters, 0),
            x.remembered(), x.alike(0), x.differ(), x.couples(), x.differs(0, 0)));
        return all;
    }

    private static void showMoves(List<Integer> all, WordLearner x, int machine, int state) {
        for (int symbol = 0; symbol < x.of(machine, 2); symbol++) {
            for (int guard = 0; guard < 3; guard++) {
                all.add(x.moved(machine, state, symbol, guard, 0));
                all.add(x.moved(machine, state, symbol, guard, 1));
                all.add(x.moved(machine, state, symbol, guard, 2));
            }
        }
    }

    private static void showLists(List<Integer> all, WordLearner x) {
        for (int u = 0; u < x.count(0); u++) {
            all.add(x.registers(u));
            for (int k = 0; k < x.brief(u, NONE, 0); k++) {
                all.add(2 * x.brief(u, k, 1) + x.brief(u, k, 0));
            }
        }
        for (int t = 0; t < x.count(1); t++) {
            for (int k = 0; k < x.test(t, NONE, 0); k++) {
                all.add(2 * x.test(t, k, 1) + x.test(t, k, 0));
            }
        }
    }

    /** As shown(), with the latest FAULT and, at last, what THE TAPE reads as. */
    private static List<Integer> shownWhole(WordLearner x) {
        List<Integer> all = new ArrayList<>(List.of(x.fault(0), x.fault(1), x.count(5)));
        all.addAll(shown(x));
        all.add(x.word(x.count(5)));
        all.addAll(List.of(x.fault(0), x.fault(1), x.letter(NONE, 0)));
        for (int k = 0; k < x.letter(NONE, 0); k++) {
            all.add(x.letter(k, 0));
            all.add(x.letter(k, 1));
        }
        return all;
    }

    /** The call answers by that code and changes nothing, whether or not the object has been asked much ahead of it. */
    static void refused(String call, Supplier<WordLearner> made, ToIntFunction<WordLearner> calls, int code) {
        List<Integer> want = shownWhole(made.get());
        WordLearner cold = made.get();
        due(call, calls.applyAsInt(cold), code);
        same(call, shownWhole(cold), want);
        WordLearner warm = made.get();
        warm.stands();
        warm.differ();
        due(call, calls.applyAsInt(warm), code);
        same(call, shownWhole(warm), want);
    }

    /** Refused by an object that is LEARNT. */
    static void refused(String call, ToIntFunction<WordLearner> calls, int code) {
        refused(call, Boundary::busy, calls, code);
    }

    /** As many calls as an object is used for, the last of them the one that is told. */
    static int lastOf512(WordLearner x, ToIntFunction<WordLearner> last) {
        for (int i = 1; i < CALLS; i++) {
            x.ask(0);
        }
        return last.applyAsInt(x);
    }
}
