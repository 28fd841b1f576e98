/** For each promise of the document: ordinary inputs, the edges that it names, wrong inputs. */
public final class PromiseTests {
    private static final int NONE = WordLearner.NONE;
    private static final int LOW = Integer.MIN_VALUE;
    private static final int HIGH = Integer.MAX_VALUE;

    /** Accepts, if the last two NAMES are alike: three SHORT words, one REGISTER. */
    private static final String TWIN = "registers 1;states 3;accept 2;move 0 a new to 1 keep 0;"
        + "move 1 a same 0 to 2;move 1 a new to 1 keep 0;move 2 a same 0 to 2;move 2 a new to 1 keep 0;";
    private static final String CHAIN_3 = "states 4;accept 3;move 0 a new to 1;move 1 a new to 2;move 2 a new to 3;";

    private static int wrong = 0;
    private static String promise = "";

    private static void due(String call, int got, int want) {
        if (got != want) {
            wrong++;
            System.out.println(promise + ": " + call + " answered " + got + ", due is " + want);
        }
    }

    public static void main(String[] args) {
        newObject();
        feed();
        machine();
        machineFaults();
        word();
        fault();
        accept();
        move();
        of();
        moved();
        ask();
        behind();
        many();
        share();
        differ();
        differAtItsEnds();
        couples();
        letter();
        remembered();
        alike();
        begin();
        step();
        stuck();
        learn();
        briefAndTest();
        registersAndGoes();
        stands();
        guess();
        refutes();
        spare();
        count();
        wildNumbers();
        System.out.println(wrong == 0 ? "all promises hold" : wrong + " answers are not as due");
        if (wrong != 0) {
            System.exit(1);
        }
    }

    // ---- help

    private static void put(WordLearner x, String text) {
        for (int at = 0; at < text.length(); at += 20) {
            int[] five = new int[5];
            for (int i = 0; i < 20; i++) {
                int sign = at + i < text.length() ? text.charAt(at + i) & 255 : 0;
                five[i / 4] = five[i / 4] << 8 | sign;
            }
            x.feed(five[0], five[1], five[2], five[3], five[4]);
        }
    }

    private static int machine(WordLearner x, int machine, String text) {
        put(x, text);
        return x.machine(machine, text.length());
    }

    private static int word(WordLearner x, String text) {
        put(x, text);
        return x.word(text.length());
    }

    private static WordLearner with(String machine0) {
        WordLearner x = new WordLearner();
        if (machine(x, 0, machine0) < 0) {
            due("machine of " + machine0, x.fault(1), NONE);
        }
        return x;
    }

    private static WordLearner withWord(String machine0, String word) {
        WordLearner x = with(machine0);
        if (word(x, word) < 0) {
            due("word of " + word, x.fault(1), NONE);
        }
        return x;
    }

    /** The text is refused with that FAULT at that place, and nothing but THE TAPE changes. */
    private static void machineFault(String text, int fault, int place) {
        WordLearner x = with(TWIN);
        x.learn();
        due("machine of '" + text + "'", machine(x, 0, text), -30 - fault);
        due("fault(0) of '" + text + "'", x.fault(0), fault);
        due("fault(1) of '" + text + "'", x.fault(1), place);
        due("count(5) behind '" + text + "'", x.count(5), 0);
        due("of(0, 3) behind '" + text + "'", x.of(0, 3), 5);
        due("count(0) behind '" + text + "'", x.count(0), 3);
    }

    private static void wordFault(String text, int fault, int place) {
        WordLearner x = withWord(TWIN, "a3a4");
        due("word of '" + text + "'", word(x, text), -30 - fault);
        due("fault(0) of '" + text + "'", x.fault(0), fault);
        due("fault(1) of '" + text + "'", x.fault(1), place);
        due("count(5) behind '" + text + "'", x.count(5), 0);
        due("letter(-1, 0) behind '" + text + "'", x.letter(-1, 0), 2);
    }

    // ---- the promises

    private static void newObject() {
        promise = "1 a new object";
        WordLearner x = new WordLearner();
        for (int m = 0; m < 2; m++) {
            due("of 0", x.of(m, 0), 1);
            due("of 1", x.of(m, 1), 0);
            due("of 2", x.of(m, 2), 1);
            due("of 3", x.of(m, 3), 0);
            due("of 4", x.of(m, 4), 0);
            due("ask", x.ask(m), 0);
        }
        due("count(0)", x.count(0), 1);
        due("count(1)", x.count(1), 1);
        due("letter", x.letter(NONE, 0), 0);
        due("fault(0)", x.fault(0), 0);
        due("fault(1)", x.fault(1), NONE);
    }

    private static void feed() {
        promise = "2 feed";
        WordLearner x = new WordLearner();
        for (int i = 1; i <= 25; i++) {
            due("feed", x.feed(0x61312062, 0x32202020, 0x20202020, 0x20202020, 0x20202020), 20 * i);
        }
        due("feed beyond 500", x.feed(0, 0, 0, 0, 0), -4);
        due("count(5)", x.count(5), 500);
        due("word(5)", x.word(5), 2);
        due("letter(0, 1)", x.letter(0, 1), 1);
        due("letter(1, 0)", x.letter(1, 0), 1);
        due("letter(1, 1)", x.letter(1, 1), 2);
        due("count(5)", x.count(5), 0);
        due("feed", x.feed(0x20202020, 0x20202020, 0x20202020, 0x20202020, 0x20206139), 20);
        due("word(20), the lowest bytes last", x.word(20), 1);
        due("letter(0, 1)", x.letter(0, 1), 9);
        x.feed(0xe1e1e1e1, 0, 0, 0, 0);
        due("a byte above 127", x.word(1), -31);
    }

    private static void machine() {
        promise = "3 machine";
        WordLearner x = new WordLearner();
        due("machine(0, 0)", x.machine(0, 0), 0);
        due("TWIN", machine(x, 1, TWIN), 5);
        due("of(1, 0)", x.of(1, 0), 3);
        due("of(0, 0)", x.of(0, 0), 1);
        due("no blanks", machine(x, 0, "states2;move01bnewto0;"), -31);
        due("no blanks", machine(x, 0, "symbols02;states2;registers2;accept1;move01b same1to0keep0drop1;"), 1);
        due("of(0, 4)", x.of(0, 4), 2);
        due("moved", x.moved(0, 1, 1, 1, 0), 0);
        due("moved", x.moved(0, 1, 1, 1, 1), 0);
        due("moved", x.moved(0, 1, 1, 1, 2), 1);
        due("many blanks", machine(x, 0, "   accept   0  ;  move 0   a   new to  0 ;  "), 1);
        due("REGISTERS are none again", x.of(0, 1), 0);
        put(x, "accept 0;");
        due("machine(2, 0)", x.machine(2, 0), -2);
        due("machine(-1, -1)", x.machine(-1, -1), -2);
        due("machine(0, -1)", x.machine(0, -1), -3);
        due("machine(0, 21)", x.machine(0, 21), -3);
        due("THE TAPE stays", x.count(5), 20);
        due("machine(0, 9)", x.machine(0, 9), 0);
        due("THE TAPE is empty", x.count(5), 0);
        due("no text takes all away", x.machine(0, 0), 0);
        due("of(0, 4)", x.of(0, 4), 0);
        due("two LINES that set the bounds", machine(x, 0, "states 5;symbols 2;accept 4;move 4 b new to 4;"), 1);
    }

    private static void machineFaults() {
        promise = "3 machine, FAULTS";
        machineFault("x;", 1, 0);
        machineFault("State 1;", 1, 0);
        machineFault(" stat es 2;", 1, 1);
        machineFault("statess 2;", 1, 0);
        machineFault("states;", 1, 6);
        machineFault("states", 1, 6);
        machineFault("states  ", 1, 8);
        machineFault("states 2", 1, 8);
        machineFault("states 2 2;", 1, 9);
        machineFault("states 2;;", 1, 9);
        machineFault("states 2,", 1, 8);
        machineFault("states\t2;", 1, 6);
        machineFault("states -1;", 1, 7);
        machineFault("move 0 a new to 0 drop 0 keep 0;", 2, 23);
        machineFault("registers 1;move 0 a new to 0 drop 0 keep 0;", 1, 37);
        machineFault("move 0 a to 0;", 1, 9);
        machineFault("move 0 a new 0;", 1, 13);
        machineFault("move 0 c new to 0;", 1, 7);
        machineFault("move 0 b new to 0;", 1, 7);
        machineFault("move 0 aa new to 0;", 1, 7);
        machineFault("move a new to 0;", 1, 5);
        machineFault("symbols 2;move 0 b new to 0 keep;", 1, 32);
        machineFault("states 6;", 2, 7);
        machineFault("states 0;", 2, 7);
        machineFault("states 002;", 2, 7);
        machineFault("states 99999999999999;", 2, 7);
        machineFault("registers 3;", 2, 10);
        machineFault("symbols 0;", 2, 8);
        machineFault("symbols 3;", 2, 8);
        machineFault("states 3;accept 3;", 2, 16);
        machineFault("accept 1;states 2;", 2, 7);
        machineFault("move 1 a new to 0;", 2, 5);
        machineFault("move 0 a new to 1;", 2, 16);
        machineFault("states 2;accept 2;", 2, 16);
        machineFault("az 0;", 1, 0);
        machineFault("accept 0{;", 1, 8);
        machineFault("accept 0:;", 1, 8);
        machineFault("accept 0/;", 1, 8);
        machineFault("accept 0`;", 1, 8);
        machineFault("move 0 a same 0 to 0;", 2, 14);
        machineFault("registers 1;move 0 a same 1 to 0;", 2, 26);
        machineFault("registers 1;move 0 a new to 0 keep 1;", 2, 35);
        machineFault("registers 1;move 0 a new to 0 drop 1;", 2, 35);
        machineFault("states 2;states 2;", 3, 9);
        machineFault("states 2;states 9;", 2, 16);
        machineFault("states 2;states 2", 3, 9);
        machineFault("states 2; states 2 x", 3, 10);
        machineFault("registers 1;registers 0;", 3, 12);
        machineFault("symbols 1;symbols 1;", 3, 10);
        machineFault("accept 0;states 1;", 3, 9);
        machineFault("accept 0;symbols 1;", 3, 9);
        machineFault("move 0 a new to 0;registers 0;", 3, 18);
        machineFault("accept 0;accept 00;", 3, 9);
        machineFault("move 0 a new to 0;move 0 a new to 0;", 3, 18);
        machineFault("move 0 a new to 0;move 0 a new to 0 y", 3, 18);
        machineFault("registers 1;move 0 a new to 0;move 0 a new to 0 keep;", 1, 52);
        machineFault("registers 1;move 0 a new to 0;move 0 a new to 0 keep 0;", 3, 30);
        machineFault("registers 1;move 0 a same 0 to 0;move 0 a same 0 to 0 drop 0", 3, 33);
        due("like moves of other guards", machine(new WordLearner(), 0,
            "registers 2;symbols 2;move 0 a new to 0;move 0 a same 0 to 0;move 0 a same 1 to 0;move 0 b new to 0;"), 4);
    }

    private static void word() {
        promise = "4 word";
        WordLearner x = new WordLearner();
        due("word(0)", x.word(0), 0);
        due("b may stand", word(x, "b99 a 0a00"), 3);
        due("letter(0, 1)", x.letter(0, 1), 99);
        due("twelve", word(x, "a1a2a3a4a5a6a7a8a9a10a11a12"), 12);
        due("letter(11, 1)", x.letter(11, 1), 12);
        put(x, "a1");
        due("word(-1)", x.word(-1), -3);
        due("word(21)", x.word(21), -3);
        due("THE TAPE stays", x.count(5), 20);
        due("word(2)", x.word(2), 1);
        due("word(0) takes all away", x.word(0), 0);
        due("letter(-1, 0)", x.letter(NONE, 0), 0);
        wordFault("c1", 1, 0);
        wordFault("a", 1, 1);
        wordFault("a  ", 1, 3);
        wordFault("1a", 1, 0);
        wordFault("a1;", 1, 2);
        wordFault("ab1", 1, 0);
        wordFault("az1", 1, 0);
        wordFault("a1 1", 1, 3);
        wordFault("a100", 2, 1);
        wordFault("a1b001", 2, 3);
        wordFault("a1a1a1a1a1a1a1a1a1a1a1a1 a1", 3, 25);
        wordFault("a1a1a1a1a1a1a1a1a1a1a1a1b", 3, 24);
        wordFault("a1a1a1a1a1a1a1a1a1a1a1a1b100", 3, 24);
        wordFault("a1a1a1a1a1a1a1a1a1a1a1a1c", 1, 24);
    }

    private static void fault() {
        promise = "5 fault";
        WordLearner x = new WordLearner();
        machine(x, 0, "states 7;");
        due("fault(0)", x.fault(0), 2);
        due("fault(1)", x.fault(1), 7);
        due("fault(2)", x.fault(2), NONE);
        due("fault(-1)", x.fault(-1), NONE);
        x.machine(5, 0);
        x.word(1);
        due("refused ahead of the text", x.fault(0), 2);
        x.word(0);
        due("fault(0)", x.fault(0), 0);
        due("fault(1)", x.fault(1), NONE);
        word(x, "q");
        due("fault(0)", x.fault(0), 1);
        due("fault(1)", x.fault(1), 0);
        x.machine(1, 0);
        due("fault(0)", x.fault(0), 0);
    }

    private static void accept() {
        promise = "6 accept";
        WordLearner x = with(TWIN);
        x.learn();
        due("accept(0, 2, 1)", x.accept(0, 2, 1), 1);
        due("nothing changed", x.count(0), 3);
        due("accept(1, 0, 1)", x.accept(1, 0, 1), 0);
        due("MACHINE 1 is not learnt", x.count(0), 3);
        due("accept(0, 1, 1)", x.accept(0, 1, 1), 0);
        due("of(0, 4)", x.of(0, 4), 6);
        due("begun anew", x.count(0), 1);
        due("accept(0, 2, 0)", x.accept(0, 2, 0), 1);
        due("of(0, 4)", x.of(0, 4), 2);
        due("accept(2, 0, 0)", x.accept(2, 0, 0), -2);
        due("accept(-1, 0, 5)", x.accept(-1, 0, 5), -2);
        due("accept(0, 3, 2)", x.accept(0, 3, 2), -2);
        due("accept(0, -1, 0)", x.accept(0, -1, 0), -2);
        due("accept(0, 0, 2)", x.accept(0, 0, 2), -3);
        due("accept(0, 0, -1)", x.accept(0, 0, -1), -3);
    }

    private static void move() {
        promise = "7 move";
        WordLearner x = with(TWIN);
        x.learn();
        due("the same move", x.move(0, 0, 0, 2, 1, 0, NONE), 1);
        due("nothing changed", x.count(0), 3);
        due("none that was none", x.move(0, 0, 0, 0, NONE, 0, 0), 0);
        due("nothing changed", x.count(0), 3);
        due("another keep", x.move(0, 0, 0, 2, 1, NONE, NONE), 1);
        due("begun anew", x.count(0), 1);
        x.learn();
        int had = x.count(0) + x.count(1);
        due("MACHINE 1", x.move(1, 0, 0, 2, 0, NONE, NONE), 0);
        due("is not learnt", x.count(0) + x.count(1), had);
        due("a new move", x.move(0, 0, 0, 0, 2, 0, 0), 0);
        due("moved", x.moved(0, 0, 0, 0, 0), 2);
        due("moved", x.moved(0, 0, 0, 0, 2), 0);
        due("of(0, 3)", x.of(0, 3), 6);
        due("another drop", x.move(0, 0, 0, 0, 2, 0, NONE), 1);
        due("taken away", x.move(0, 0, 0, 0, NONE, 0, NONE), 1);
        due("of(0, 3)", x.of(0, 3), 5);
        due("keep is not kept", x.moved(0, 0, 0, 0, 1), NONE);
        due("told again", x.move(0, 0, 0, 0, 0, NONE, NONE), 0);
        due("keep", x.moved(0, 0, 0, 0, 1), NONE);
        due("machine", x.move(2, 0, 0, 2, 9, 0, 0), -2);
        due("state", x.move(0, 3, 0, 2, 9, 0, 0), -2);
        due("symbol", x.move(0, 0, 1, 2, 9, 0, 0), -2);
        due("guard", x.move(0, 0, 0, 1, 0, 0, 0), -2);
        due("guard", x.move(0, 0, 0, 3, 0, 0, 0), -2);
        due("guard", x.move(0, 0, 0, -1, 0, 0, 0), -2);
        due("to", x.move(0, 0, 0, 2, 3, 0, 0), -3);
        due("to", x.move(0, 0, 0, 2, -2, 0, 0), -3);
        due("keep", x.move(0, 0, 0, 2, 0, 1, 0), -3);
        due("keep", x.move(0, 0, 0, 2, 0, -2, 0), -3);
        due("drop", x.move(0, 0, 0, 2, 0, 0, 1), -3);
        due("keep where to is NONE", x.move(0, 0, 0, 2, NONE, 1, 0), -3);
        due("drop where to is NONE", x.move(0, 0, 0, 2, NONE, 0, 1), -3);
        due("the move stays", x.moved(0, 0, 0, 2, 0), 1);
    }

    private static void of() {
        promise = "8 of";
        WordLearner x = with("states 4;registers 2;symbols 2;accept 0;accept 3;move 1 b same 1 to 2;");
        due("of(0, 0)", x.of(0, 0), 4);
        due("of(0, 1)", x.of(0, 1), 2);
        due("of(0, 2)", x.of(0, 2), 2);
        due("of(0, 3)", x.of(0, 3), 1);
        due("of(0, 4)", x.of(0, 4), 9);
        due("of(0, 5)", x.of(0, 5), -2);
        due("of(0, -1)", x.of(0, -1), -2);
        due("of(2, 0)", x.of(2, 0), -2);
        due("of(-1, 0)", x.of(-1, 0), -2);
    }

    private static void moved() {
        promise = "9 moved";
        WordLearner x = with("states 4;registers 2;symbols 2;move 1 b same 1 to 2 keep 0;move 3 a new to 0 drop 1;");
        due("to", x.moved(0, 1, 1, 1, 0), 2);
        due("keep", x.moved(0, 1, 1, 1, 1), 0);
        due("drop", x.moved(0, 1, 1, 1, 2), NONE);
        due("to", x.moved(0, 3, 0, 2, 0), 0);
        due("keep", x.moved(0, 3, 0, 2, 1), NONE);
        due("drop", x.moved(0, 3, 0, 2, 2), 1);
        due("not told", x.moved(0, 0, 0, 2, 0), NONE);
        due("not told, but what", x.moved(0, 0, 0, 2, 3), -2);
        due("what", x.moved(0, 1, 1, 1, -1), -2);
        due("machine", x.moved(2, 0, 0, 2, 0), -2);
        due("state", x.moved(0, 4, 0, 2, 0), -2);
        due("symbol", x.moved(0, 0, 2, 2, 0), -2);
        due("guard", x.moved(0, 0, 0, 3, 0), -2);
        due("guard without REGISTERS", x.moved(1, 0, 0, 0, 0), -2);
    }

    private static void ask() {
        promise = "10 ask";
        due("a7 a7", withWord(TWIN, "a7a7").ask(0), 1);
        due("a7 a8", withWord(TWIN, "a7a8").ask(0), 0);
        due("a7 a8 a8", withWord(TWIN, "a7a8a8").ask(0), 1);
        due("a7 b7 is LOST", withWord(TWIN, "a7b7").ask(0), 0);
        due("LOST it stays", withWord(TWIN, "b7a7a7").ask(0), 0);
        due("MACHINE 1", withWord(TWIN, "a7a7").ask(1), 0);
        due("ask(2)", withWord(TWIN, "a7a7").ask(2), -2);
        due("ask(-1)", withWord(TWIN, "a7a7").ask(-1), -2);
        String first = "registers 2;states 3;symbols 2;accept 1;move 0 a new to 2 keep 0;move 2 a new to 2 keep 1;";
        due("the first REGISTER by which a move is told",
            withWord(first + "move 2 b same 1 to 1;move 2 b new to 0;", "a5 a5 b5").ask(0), 1);
        due("the first of two",
            withWord(first + "move 2 b same 1 to 1;move 2 b same 0 to 0;", "a5 a5 b5").ask(0), 0);
    }

    private static void behind() {
        promise = "11 behind";
        WordLearner x = withWord("registers 2;states 3;symbols 2;move 0 a new to 1 keep 0;move 1 a new to 2 keep 1;"
            + "move 1 b same 0 to 1 keep 1;move 1 b same 1 to 2 keep 0 drop 0;move 2 b same 1 to 0 drop 1;", "a5b5b5a5b5b9");
        int[][] due = {{0, NONE, NONE}, {1, 5, NONE}, {1, 5, 5}, {1, 5, 5}, {2, 5, 5}, {0, 5, NONE}, {NONE, NONE, NONE}};
        for (int i = 0; i < due.length; i++) {
            for (int what = 0; what < 3; what++) {
                due("behind(0, " + i + ", " + what + ")", x.behind(0, i, what), due[i][what]);
            }
        }
        due("behind(0, 7, 0)", x.behind(0, 7, 0), -3);
        due("behind(0, -1, 0)", x.behind(0, -1, 0), -3);
        due("behind(0, 0, 3)", x.behind(0, 0, 3), -2);
        due("behind(0, 9, -1)", x.behind(0, 9, -1), -2);
        due("behind(2, 9, 0)", x.behind(2, 9, 0), -2);
        due("no such REGISTER", x.behind(1, 0, 2), NONE);
        WordLearner y = withWord("registers 2;move 0 a new to 0 keep 1 drop 1;", "a1");
        due("first keep, then drop", y.behind(0, 1, 2), NONE);
    }

    private static void many() {
        promise = "12 many";
        WordLearner x = with(TWIN);
        int[] twin = {0, 0, 1, 2, 5, 15};
        for (int k = 0; k < 6; k++) {
            due("many(0, " + k + ")", x.many(0, k), twin[k]);
        }
        WordLearner all = with("symbols 2;accept 0;move 0 a new to 0;move 0 b new to 0;");
        int[] words = {1, 2, 8, 40, 240, 1664};
        for (int k = 0; k < 6; k++) {
            due("of all many(0, " + k + ")", all.many(0, k), words[k]);
        }
        due("many(0, 6)", x.many(0, 6), -3);
        due("many(0, -1)", x.many(0, -1), -3);
        due("many(2, 9)", x.many(2, 9), -2);
        due("many(-1, 0)", x.many(-1, 0), -2);
    }

    private static void share() {
        promise = "13 share";
        WordLearner x = with(TWIN);
        int[] taken = {0, 0, 1, 2, 5, 15};
        int[] words = {1, 1, 2, 5, 15, 52};
        for (int k = 0; k < 6; k++) {
            due("share(0, " + k + ")", x.share(0, k), Float.floatToIntBits((float) taken[k] / (float) words[k]));
        }
        WordLearner one = with("symbols 2;states 2;accept 1;move 0 a new to 1;move 1 b new to 1;");
        int[] both = {1, 2, 8, 40, 240, 1664};
        for (int k = 0; k < 6; k++) {
            due("share(0, " + k + ")", one.share(0, k), Float.floatToIntBits((float) one.many(0, k) / (float) both[k]));
        }
        due("all of them", with("accept 0;").share(0, 0), Float.floatToIntBits(1f));
        due("share(0, 6)", x.share(0, 6), -3);
        due("share(0, -1)", x.share(0, -1), -3);
        due("share(2, -1)", x.share(2, -1), -2);
    }

    private static void differ() {
        promise = "14, 15 differ, differs";
        WordLearner x = with(TWIN);
        due("differ", x.differ(), 2);
        due("differs(0, 0)", x.differs(0, 0), 0);
        due("differs(1, 1)", x.differs(1, 1), 0);
        due("differs(2, 0)", x.differs(2, 0), -2);
        due("differs(-1, 0)", x.differs(-1, 0), -2);
        due("differs(0, 2)", x.differs(0, 2), -2);
        due("differs(0, -1)", x.differs(0, -1), -2);
        machine(x, 1, TWIN);
        due("agree", x.differ(), NONE);
        due("differs(0, 0)", x.differs(0, 0), -2);
        x.accept(1, 0, 1);
        due("by the empty WORD", x.differ(), 0);
        due("differs(0, 0)", x.differs(0, 0), -2);
        x.accept(1, 0, 0);
        x.move(1, 1, 0, 2, 2, 0, NONE);
        due("by a new NAME", x.differ(), 2);
        due("differs(1, 1)", x.differs(1, 1), 1);
        x.accept(1, 0, 1);
        due("asked ahead of differ", x.differs(1, 1), -2);
        x.accept(1, 0, 0);
        due("asked ahead of differ", x.differs(1, 1), 1);
        WordLearner b = with("symbols 2;states 2;accept 1;move 0 b new to 1;");
        due("b, if one has it", b.differ(), 1);
        due("differs(0, 0)", b.differs(0, 0), 1);
        machine(b, 1, "symbols 2;states 2;accept 1;move 0 b new to 1;");
        machine(b, 0, "");
        due("b, if the other has it", b.differ(), 1);
    }

    /** A chain of some 20 LETTERS: both REGISTERS must be filled, before a drop of the second one tells. */
    private static String chain(int s, boolean drops) {
        StringBuilder text = new StringBuilder("states 5;registers 2;symbols 2;accept 0;");
        for (int i = 0; i < 4; i++) {
            text.append("move").append(i).append("a new to").append(i + 1).append(';');
        }
        text.append("move 4a new to 0keep 0;move 4a same 0to 0keep 1drop 0;move 4a same 1to 1;");
        text.append("move").append(s).append("b same 0to 4").append(drops ? "drop 1;" : ";");
        return text.toString();
    }

    private static void differAtItsEnds() {
        promise = "14 differ, 20 LETTERS";
        for (int s = 0; s < 5; s++) {
            WordLearner x = with(chain(s, false));
            machine(x, 1, chain(s, true));
            due("differ " + s, x.differ(), s == 4 ? NONE : 14 + 2 * s);
        }
    }

    private static void couples() {
        promise = "16 couples";
        WordLearner x = new WordLearner();
        due("both LOST too", x.couples(), 2);
        x.accept(0, 0, 1);
        due("the empty WORD alone", x.couples(), 1);
        WordLearner y = with(TWIN);
        machine(y, 1, TWIN);
        due("TWIN", y.couples(), 3);
        machine(y, 1, "");
        due("till it is told", y.couples(), 3);
        WordLearner z = with("registers 1;move 0 a new to 0 keep 0;");
        machine(z, 1, "registers 1;move 0 a new to 0;move 0 a same 0 to 0 keep 0;");
        due("up to other NAMES", z.couples(), 2);
        String four = "states 5;registers 2;move 0 a new to 1;move 1 a new to 2;move 2 a new to 3;move 3 a new to 4;";
        WordLearner v = with(four);
        machine(v, 1, four);
        v.move(0, 0, 0, 2, 1, 0, NONE);
        v.move(0, 1, 0, 2, 2, 1, NONE);
        v.move(1, 2, 0, 2, 3, 0, NONE);
        v.move(1, 3, 0, 2, 4, 1, NONE);
        v.move(0, 4, 0, 0, 4, NONE, 0);
        v.move(0, 4, 0, 1, 4, NONE, 1);
        v.move(0, 4, 0, 2, 3, NONE, NONE);
        v.move(1, 4, 0, 0, 4, NONE, 0);
        v.move(1, 4, 0, 1, 4, NONE, 1);
        v.move(1, 4, 0, 2, 4, NONE, NONE);
        due("four NAMES held and a new one", v.couples(), 113);
    }

    private static void letter() {
        promise = "17 letter";
        WordLearner x = withWord("", "a9b3a9b9a40");
        due("letter(-1, 0)", x.letter(NONE, 0), 5);
        int[][] due = {{0, 9, 0}, {1, 3, 1}, {0, 9, 0}, {1, 9, 0}, {0, 40, 2}};
        for (int k = 0; k < 5; k++) {
            for (int what = 0; what < 3; what++) {
                due("letter(" + k + ", " + what + ")", x.letter(k, what), due[k][what]);
            }
        }
        due("letter(5, 2)", x.letter(5, 2), -2);
        due("letter(-2, 0)", x.letter(-2, 0), -2);
        due("letter(0, 3)", x.letter(0, 3), -2);
        due("letter(0, -1)", x.letter(0, -1), -2);
        due("letter(-1, 1)", x.letter(NONE, 1), -2);
        due("letter(-1, 2)", x.letter(NONE, 2), -2);
    }

    private static void remembered() {
        promise = "18 remembered";
        WordLearner x = withWord(TWIN, "a5a7");
        due("no TEST shows it", x.remembered(), 0);
        x.learn();
        due("the last NAME", x.remembered(), 2);
        word(x, "a5a7a5");
        due("by LEAST form", x.remembered(), 1);
        word(x, "a1a2a3a4a4a4");
        due("six LETTERS, four NAMES", x.remembered(), 8);
        word(x, "a1a1a1a1a1a1a1");
        due("seven LETTERS", x.remembered(), -4);
        word(x, "a1a2a3a4a5");
        due("five NAMES", x.remembered(), -4);
        word(x, "");
        due("the empty WORD", x.remembered(), 0);
        word(x, "a1b1");
        due("LOST", x.remembered(), 0);
    }

    private static void alike() {
        promise = "19 alike";
        WordLearner x = withWord(TWIN, "a5a7");
        due("all are", x.alike(0), 0);
        x.learn();
        due("alike(0)", x.alike(0), NONE);
        due("alike(1)", x.alike(1), 1);
        due("alike(2)", x.alike(2), NONE);
        due("alike(3)", x.alike(3), -2);
        due("alike(-1)", x.alike(-1), -2);
        word(x, "a1a2a3a4a5");
        due("alike(3)", x.alike(3), -2);
        due("alike(0)", x.alike(0), -4);
        WordLearner two = with("states 5;registers 2;symbols 2;accept 3;move 0 a new to 1 keep 0;"
            + "move 0 b new to 4 keep 1;move 1 a new to 2 keep 1;move 4 b new to 2 keep 0;move 2 a same 0 to 3;"
            + "move 2 b same 1 to 3;");
        two.learn();
        int u = shortWord(two, "a0a1");
        due("both are REMEMBERED", two.registers(u), 3);
        word(two, "a8a4");
        due("alike as they come", two.alike(u), 12);
        word(two, "b8b4");
        due("alike by the ways turned", two.alike(u), 21);
        word(two, "b4b8");
        due("alike up to renaming", two.alike(u), 21);
        word(two, "b8b8");
        due("one NAME alone", two.alike(u), NONE);
    }

    private static int shortWord(WordLearner x, String text) {
        for (int u = 0; u < x.count(0); u++) {
            StringBuilder told = new StringBuilder();
            for (int k = 0; k < x.brief(u, NONE, 0); k++) {
                told.append(x.brief(u, k, 0) == 0 ? 'a' : 'b').append(x.brief(u, k, 1));
            }
            if (told.toString().equals(text)) {
                return u;
            }
        }
        return NONE;
    }

    private static void begin() {
        promise = "20 begin";
        WordLearner x = with(TWIN);
        due("begin", x.begin(), 2);
        x.learn();
        due("begin", x.begin(), 5);
        due("count(0)", x.count(0), 1);
        due("count(1)", x.count(1), 1);
        due("begin", x.begin(), 2);
        x.learn();
        machine(x, 0, TWIN);
        due("machine() of MACHINE 0 begins anew", x.begin(), 2);
        x.learn();
        machine(x, 1, TWIN);
        due("machine() of MACHINE 1 doesn't", x.begin(), 5);
    }

    private static void steps(String text, String kinds) {
        WordLearner x = with(text);
        for (int i = 0; i < kinds.length(); i++) {
            int kind = kinds.charAt(i) - '0';
            due("step " + i + " of " + text, x.step(), kind == 4 ? -4 : kind);
        }
    }

    private static void step() {
        promise = "21 step";
        steps("", "00");
        steps("accept 0;", "20");
        steps(TWIN, "32200");
        steps("states 3;accept 0;accept 2;move 0 a new to 2;", "3220");
        WordLearner x = with("states 2;registers 1;symbols 2;accept 1;move 0 b same 0 to 0;move 0 b new to 1 keep 0;"
            + "move 1 a new to 0;");
        due("step", x.step(), 2);
        due("step", x.step(), 3);
        due("TESTS", x.count(1), 2);
        due("the new TEST", x.test(1, NONE, 0), 1);
        due("its SYMBOL", x.test(1, 0, 0), 1);
        due("step by a NAME that u has forgotten", x.step(), 1);
        due("the last LETTER's SYMBOL", x.test(2, 0, 0), 0);
        due("the last LETTER's NAME", x.test(2, 0, 1), 0);
        due("the TEST behind it", x.test(2, 1, 0), 1);
        due("named as in the INSTANCE", x.test(2, 1, 1), 1);
        due("step", x.step(), 2);
        due("step", x.step(), 2);
        due("step", x.step(), 0);
    }

    private static void stuck() {
        promise = "21 step, STUCK";
        steps(CHAIN_3, "32322344");
        WordLearner x = with(CHAIN_3);
        due("a SHORT word of four NAMES", x.learn(), -4);
        due("what was done stays", x.count(0) + x.count(1), 8);
        due("it doesn't stand", x.stands(), 0);
        due("guess", x.guess(), -5);
        due("nothing is done", x.step(), -4);
        due("nothing is done", x.count(0) + x.count(1), 8);
        String longTest = "states 2;registers 2;symbols 2;accept 0;accept 1;move 0 a new to 1;move 1 a same 0 to 0 keep 1;"
            + "move 1 a same 1 to 1;move 1 a new to 0 keep 0;move 1 b new to 0;";
        steps(longTest, "2324");
        WordLearner y = with(longTest);
        due("a TEST of more than 6 LETTERS", y.learn(), -4);
        due("it stands", y.stands(), 1);
        due("a WORD refutes it", y.refutes(NONE, 0), 9);
        steps("states 3;registers 2;symbols 2;accept 1;move 0 a new to 1;move 0 b new to 0 keep 0;"
            + "move 1 a same 0 to 2 keep 1;move 1 a new to 0 keep 1;move 1 b same 1 to 0;move 1 b new to 1;"
            + "move 2 a new to 0;", "2323232222224");
        steps("states 3;registers 2;accept 1;move 0 a same 1 to 2;move 0 a new to 1 keep 1;move 1 a same 0 to 2 keep 0;"
            + "move 1 a same 1 to 1 keep 0;move 2 a new to 0 keep 1;", "2322332214");
        steps("states 3;registers 2;symbols 2;accept 1;move 0 a same 0 to 0 keep 1;move 0 a new to 2;"
            + "move 0 b new to 0 keep 0 drop 1;move 1 a same 0 to 0;move 1 a new to 0 keep 1;"
            + "move 1 b same 0 to 0 keep 0;move 1 b new to 2;move 2 a same 0 to 1;move 2 b same 1 to 2;",
            "3232213232323232324");
    }

    private static void learn() {
        promise = "22 learn";
        due("nothing to learn", new WordLearner().learn(), 0);
        WordLearner x = with(TWIN);
        due("TWIN", x.learn(), 3);
        due("stands", x.stands(), 2);
        due("again", x.learn(), 0);
        x.begin();
        x.step();
        due("behind a step", x.learn(), 2);
        due("17 STEPS", with("states 5;registers 2;accept 4;move 0 a same 0 to 2;move 0 a new to 3 keep 0;"
            + "move 1 a same 0 to 4 keep 1;move 1 a same 1 to 3;move 2 a same 0 to 4 keep 0;move 3 a same 0 to 1 keep 0;"
            + "move 3 a new to 0 keep 1;move 4 a same 1 to 2 keep 1;").learn(), 17);
        due("STUCK", with(CHAIN_3).learn(), -4);
    }

    private static void briefAndTest() {
        promise = "23, 24 brief, test";
        WordLearner x = with(TWIN);
        x.learn();
        due("brief(0, -1, 0)", x.brief(0, NONE, 0), 0);
        due("brief(0, 0, 0)", x.brief(0, 0, 0), -2);
        due("brief(2, -1, 0)", x.brief(2, NONE, 0), 2);
        due("brief(2, 1, 0)", x.brief(2, 1, 0), 0);
        due("brief(2, 1, 1)", x.brief(2, 1, 1), 0);
        due("brief(2, 1, 2)", x.brief(2, 1, 2), -2);
        due("brief(2, 2, 0)", x.brief(2, 2, 0), -2);
        due("brief(2, -2, 0)", x.brief(2, -2, 0), -2);
        due("brief(2, -1, 1)", x.brief(2, NONE, 1), -2);
        due("brief(3, -1, 0)", x.brief(3, NONE, 0), -2);
        due("brief(-1, -1, 0)", x.brief(-1, NONE, 0), -2);
        due("test(0, -1, 0)", x.test(0, NONE, 0), 0);
        due("test(1, -1, 0)", x.test(1, NONE, 0), 1);
        due("test(1, 0, 0)", x.test(1, 0, 0), 0);
        due("test(1, 0, 1)", x.test(1, 0, 1), 0);
        due("test(1, 0, 2)", x.test(1, 0, 2), -2);
        due("test(1, 1, 0)", x.test(1, 1, 0), -2);
        due("test(1, -1, 1)", x.test(1, NONE, 1), -2);
        due("test(2, -1, 0)", x.test(2, NONE, 0), -2);
        due("test(-1, -1, 0)", x.test(-1, NONE, 0), -2);
    }

    private static void registersAndGoes() {
        promise = "25, 26 registers, goes";
        WordLearner x = with(TWIN);
        due("goes(0, 0, 0)", x.goes(0, 0, 0), 0);
        x.step();
        due("goes nowhere", x.goes(0, 0, 0), NONE);
        x.learn();
        due("registers(0)", x.registers(0), 0);
        due("registers(1)", x.registers(1), 1);
        due("registers(2)", x.registers(2), 1);
        due("registers(3)", x.registers(3), -2);
        due("registers(-1)", x.registers(-1), -2);
        due("goes(0, 0, 0)", x.goes(0, 0, 0), 1);
        due("goes(1, 0, 0)", x.goes(1, 0, 0), 2);
        due("goes(1, 0, 1)", x.goes(1, 0, 1), 1);
        due("goes(2, 0, 0)", x.goes(2, 0, 0), 2);
        due("goes(2, 0, 1)", x.goes(2, 0, 1), 1);
        due("goes(2, 0, 2)", x.goes(2, 0, 2), -3);
        due("goes(0, 0, -1)", x.goes(0, 0, -1), -3);
        due("goes(0, 1, 9)", x.goes(0, 1, 9), -2);
        due("goes(0, -1, 0)", x.goes(0, -1, 0), -2);
        due("goes(3, 0, 9)", x.goes(3, 0, 9), -2);
        due("goes(-1, 0, 0)", x.goes(-1, 0, 0), -2);
    }

    private static void stands() {
        promise = "27 stands";
        WordLearner x = with(TWIN);
        due("a STEP would be 3", x.stands(), 1);
        x.step();
        due("a STEP would be 2", x.stands(), 0);
        due("nothing changed", x.count(0), 1);
        x.step();
        due("a STEP would be 2", x.stands(), 0);
        x.step();
        due("LEARNT", x.stands(), 2);
    }

    private static void guess() {
        promise = "28, 29 guess, guessed";
        WordLearner x = withWord(TWIN, "a7a3a3a9");
        due("guess", x.guess(), 0);
        due("guessed(4, 0)", x.guessed(4, 0), 0);
        x.step();
        due("guess", x.guess(), -5);
        due("guessed(4, 0)", x.guessed(4, 0), -5);
        due("guessed(5, 0)", x.guessed(5, 0), -3);
        due("guessed(0, 3)", x.guessed(0, 3), -2);
        x.learn();
        x.begin();
        x.step();
        x.step();
        x.step();
        due("asked ahead of all others", x.guessed(3, 0), 2);
        int[][] due = {{0, NONE}, {1, 7}, {1, 3}, {2, 3}, {1, 9}};
        for (int i = 0; i < 5; i++) {
            due("guessed(" + i + ", 0)", x.guessed(i, 0), due[i][0]);
            due("guessed(" + i + ", 1)", x.guessed(i, 1), due[i][1]);
            due("guessed(" + i + ", 2)", x.guessed(i, 2), NONE);
        }
        due("guess", x.guess(), 0);
        word(x, "a7a3a3");
        due("guess", x.guess(), 1);
        word(x, "a7b7a7");
        due("b is LOST", x.guess(), 0);
        due("b is LOST", x.guessed(2, 0), NONE);
        due("b is LOST", x.guessed(2, 1), NONE);
        due("it stays", x.guessed(3, 0), NONE);
        due("guessed(4, 9)", x.guessed(4, 9), -3);
        due("guessed(-1, 0)", x.guessed(-1, 0), -3);
        due("guessed(0, 3)", x.guessed(0, 3), -2);
        due("guessed(0, -1)", x.guessed(0, -1), -2);
    }

    private static void refutes() {
        promise = "30, 31 refutes, splits";
        WordLearner x = with(TWIN);
        due("refutes(-1, 0)", x.refutes(NONE, 0), 2);
        due("refutes(1, 0)", x.refutes(1, 0), 0);
        due("refutes(1, 1)", x.refutes(1, 1), 0);
        due("refutes(2, 1)", x.refutes(2, 1), -2);
        due("refutes(0, 2)", x.refutes(0, 2), -2);
        due("refutes(-1, 1)", x.refutes(NONE, 1), -2);
        due("refutes(-2, 0)", x.refutes(-2, 0), -2);
        due("splits", x.splits(), 0);
        x.step();
        due("refutes(-1, 0)", x.refutes(NONE, 0), -5);
        due("refutes(-2, 9)", x.refutes(-2, 9), -5);
        due("splits", x.splits(), -5);
        x.learn();
        due("refutes(-1, 0)", x.refutes(NONE, 0), NONE);
        due("refutes(0, 0)", x.refutes(0, 0), -2);
        due("refutes(-1, 1)", x.refutes(NONE, 1), -2);
        due("splits", x.splits(), NONE);
        WordLearner y = with(CHAIN_3);
        due("three new NAMES", y.refutes(NONE, 0), 3);
        due("the last is new", y.refutes(2, 1), 2);
        for (int i = 0; i < 5; i++) {
            y.step();
        }
        due("seven LETTERS", y.refutes(NONE, 0), 7);
        due("splits", y.splits(), 3);
    }

    private static void spare() {
        promise = "32 spare";
        due("none", new WordLearner().spare(), 0);
        due("one", with("registers 1;").spare(), 1);
        due("two", with("registers 2;").spare(), 2);
        WordLearner x = with(TWIN);
        due("ahead of it", x.spare(), 1);
        x.step();
        due("it doesn't stand", x.spare(), -5);
        x.learn();
        due("no REGISTER to spare", x.spare(), 0);
    }

    private static void count() {
        promise = "33 count";
        WordLearner x = with(TWIN);
        x.learn();
        put(x, "a1");
        int[] due = {3, 2, 3, 1, 5, 20, 1};
        for (int what = 0; what < due.length; what++) {
            due("count(" + what + ")", x.count(what), due[what]);
        }
        due("count(7)", x.count(7), NONE);
        due("count(-1)", x.count(-1), NONE);
        WordLearner two = with("symbols 2;accept 0;");
        due("LONG words of both SYMBOLS", two.count(4), 2);
        due("count(6)", two.count(6), 1);
    }

    /** No number may make the machine below throw. */
    private static void wildNumbers() {
        promise = "wrong numbers";
        WordLearner x = withWord(TWIN, "a1a2");
        int[] wild = {LOW, LOW + 1, -100, 100, HIGH - 1, HIGH};
        for (int n : wild) {
            due("machine", x.machine(n, 0), -2);
            due("machine", x.machine(0, n), -3);
            due("word", x.word(n), -3);
            due("fault", x.fault(n), NONE);
            due("accept", x.accept(0, n, 0), -2);
            due("accept", x.accept(0, 0, n), -3);
            due("move", x.move(0, n, 0, 2, 0, 0, 0), -2);
            due("move", x.move(0, 0, 0, 2, 0, n, 0), -3);
            due("moved", x.moved(0, 0, n, 2, 0), -2);
            due("moved", x.moved(0, 0, 0, n, 0), -2);
            due("of", x.of(0, n), -2);
            due("ask", x.ask(n), -2);
            due("behind", x.behind(0, n, 0), -3);
            due("many", x.many(0, n), -3);
            due("share", x.share(0, n), -3);
            due("differs", x.differs(n, 0), -2);
            due("letter", x.letter(n, 2), -2);
            due("alike", x.alike(n), -2);
            due("brief", x.brief(0, n, 0), -2);
            due("test", x.test(n, 0, 0), -2);
            due("registers", x.registers(n), -2);
            due("goes", x.goes(0, 0, n), -3);
            due("guessed", x.guessed(n, 0), -3);
            due("refutes", x.refutes(n, 1), -2);
            due("count", x.count(n), NONE);
        }
    }
}
