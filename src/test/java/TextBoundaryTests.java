/** Boundary cases of THE TAPE, THE TEXT of a MACHINE and of a WORD, and their FAULTS: Terms, promises 2 to 5. */
public final class TextBoundaryTests {
    private static final int NONE = WordLearner.NONE;

    /** All that a text can tell, with blanks wherever they may stand. */
    private static final String WHOLE = "states 2 ; registers 2 ; symbols 2 ; accept 1 ; "
        + "move 1 b same 1 to 0 keep 1 drop 0 ; move 0 a new to 1 ; ";

    public static void main(String[] args) {
        lines();
        lineWords();
        lineNumbers();
        keepAndDrop();
        symbolsOfMoves();
        wordsAndNumbers();
        blanks();
        states();
        registers();
        symbols();
        numbersOfStates();
        numbersOfRegisters();
        firstFault();
        faultPlaces();
        faultAtTheEnd();
        bWithOneSymbol();
        numbersOutOfBounds();
        threeDigits();
        faultThreeInALine();
        faultThreePlace();
        toldTwice();
        toldBehindAcceptOrMove();
        acceptTwice();
        moveTwice();
        wordLetters();
        wordNames();
        wordFaults();
        bInAWord();
        feedBytes();
        feedBeyond();
        machineFirstBytes();
        machineMoves();
        machineRefused();
        machineFaultChangesTheTapeAlone();
        wordFirstBytes();
        wordAtFirst();
        wordRefused();
        wordFaultChangesTheTapeAlone();
        faultOfTheLatest();
        faultOfNone();
        faultOfOthers();
        Boundary.end();
    }

    private static void sentence(String promise, String words) {
        Boundary.sentence(promise, promise, words);
    }

    /** A sentence of another part on which the promise leans. */
    private static void sentence(String promise, String part, String words) {
        Boundary.sentence(promise, part, words);
    }

    private static void due(String call, int got, int want) {
        Boundary.due(call, got, want);
    }

    private static WordLearner fine(String text, int moves) {
        return Boundary.fine(text, moves);
    }

    private static void faulty(String text, int fault, int place) {
        Boundary.faulty(text, fault, place);
    }

    private static void faultyWord(String text, int fault, int place) {
        Boundary.faultyWord(text, fault, place);
    }

    // ---- Terms: THE TEXT of a MACHINE

    private static void lines() {
        sentence("Promise 3", "Terms", "LINES, each with a ; behind");
        fine("", 0);
        fine(" ", 0);
        fine("    ", 0);
        fine("accept 0;", 0);
        fine("accept 0;move 0 a new to 0;", 1);
        faulty("accept 0", 1, 8);
        faulty("accept 0;move 0 a new to 0", 1, 26);
        faulty("accept 0 move 0 a new to 0;", 1, 9);
        faulty(";", 1, 0);
        faulty(" ;", 1, 1);
        faulty("accept 0;;", 1, 9);
        faulty("accept 0:", 1, 8);
        faulty("accept 0,", 1, 8);
    }

    private static void lineWords() {
        sentence("Promise 3", "Terms", "states N | registers N | symbols N | accept N | move N X (same N | new) to N");
        for (String word : new String[] {"state", "register", "symbol", "accep", "mov", "statess", "registerss",
            "symbolss", "acceptt", "movee", "s", "a", "to", "keep", "drop", "new", "same", "0", "b"}) {
            faulty(word + " 0 a new to 0;", 1, 0);
        }
        faulty("move 0 a news to 0;", 1, 9);
        faulty("move 0 a ne to 0;", 1, 9);
        faulty("move 0 a to 0;", 1, 9);
        faulty("move 0 a new same 0 to 0;", 1, 13);
        faulty("registers 1;move 0 a same 0 new to 0;", 1, 28);
        faulty("registers 1;move 0 a sam 0 to 0;", 1, 21);
        faulty("move 0 a new 0;", 1, 13);
        faulty("move 0 a new too 0;", 1, 13);
        faulty("move 0 a new t 0;", 1, 13);
    }

    private static void lineNumbers() {
        sentence("Promise 3", "Terms", "states N | registers N | symbols N | accept N | move N X");
        faulty("states;", 1, 6);
        faulty("registers;", 1, 9);
        faulty("symbols;", 1, 7);
        faulty("accept;", 1, 6);
        faulty("accept a;", 1, 7);
        faulty("accept -0;", 1, 7);
        faulty("accept +0;", 1, 7);
        faulty("move a new to 0;", 1, 5);
        faulty("move 0 a new to ;", 1, 16);
        faulty("move 0 a new to a;", 1, 16);
        faulty("registers 1;move 0 a same to 0;", 1, 26);
        faulty("states 1 1;", 1, 9);
        faulty("accept 0 0;", 1, 9);
        faulty("move 0 0 a new to 0;", 1, 7);
    }

    private static void keepAndDrop() {
        sentence("Promise 3", "Terms", "to N [ keep N ] [ drop N ]");
        String head = "registers 2;move 0 a new to 0";
        int at = head.length() + 1;
        fine(head + ";", 1);
        fine(head + " keep 1;", 1);
        fine(head + " drop 1;", 1);
        WordLearner x = fine(head + " keep 1 drop 0;", 1);
        due("keep", x.moved(0, 0, 0, 2, 1), 1);
        due("drop", x.moved(0, 0, 0, 2, 2), 0);
        faulty(head + " drop 0 keep 1;", 1, at + 7);
        faulty(head + " keep 0 keep 1;", 1, at + 7);
        faulty(head + " drop 0 drop 1;", 1, at + 7);
        faulty(head + " keep 0 drop 1 keep 0;", 1, at + 14);
        faulty(head + " keep;", 1, at + 4);
        faulty(head + " drop;", 1, at + 4);
        faulty(head + " keep drop 0;", 1, at + 5);
        faulty(head + " keeps 0;", 1, at);
        faulty(head + " dro 0;", 1, at);
        faulty("registers 2;move 0 a new keep 0 to 0;", 1, 25);
    }

    private static void symbolsOfMoves() {
        sentence("Promise 3", "Terms", "X: a or b");
        due("a", fine("symbols 2;move 0 a new to 0;", 1).moved(0, 0, 0, 2, 0), 0);
        due("b", fine("symbols 2;move 0 b new to 0;", 1).moved(0, 0, 1, 2, 0), 0);
        for (String x : new String[] {"c", "`", "aa", "ab", "bb", "A", "B", "z", "0"}) {
            faulty("symbols 2;move 0 " + x + " new to 0;", 1, 17);
        }
        faulty("symbols 2;move 0 anew to 0;", 1, 17);
    }

    private static void wordsAndNumbers() {
        sentence("Promise 3", "Terms", "Words (a to z, as long as they go on), numbers (0 to 9, likewise), other bytes one by one");
        fine("states2;registers1;accept1;move1a same0to0keep0drop0;", 1);
        faulty("accepta0;", 1, 0);
        faulty("acceptz0;", 1, 0);
        faulty("accept 0a;", 1, 8);
        faulty("accept 0z;", 1, 8);
        int[] others = {0, 9, 10, 31, 33, '/', ':', '<', '@', 'A', 'Z', '[', '`', '{', 127, 128, 176, 225, 255};
        for (int other : others) {
            char sign = (char) other;
            faulty("accept" + sign + "0;", 1, 6);
            faulty("accept 0" + sign + ";", 1, 8);
            faulty("accept 0;" + sign, 1, 9);
            faulty(sign + "accept 0;", 1, 0);
        }
        due("of(0, 4)", fine("states 5;accept 04;", 0).of(0, 4), 16);
        faulty("states 9;", 2, 7);
        faulty("states 59;", 2, 7);
        faulty("states 50;", 2, 7);
    }

    private static void blanks() {
        sentence("Promise 3", "Terms", "blanks (32) may stand between all");
        WordLearner x = fine("  states  2  ;  accept  1  ;  move  1  a  new  to  0  ;  ", 1);
        due("of(0, 4)", x.of(0, 4), 2);
        fine(WHOLE, 2);
        fine("accept 0;     ", 0);
        fine("     accept 0;", 0);
        faulty("acc ept 0;", 1, 0);
        faulty("states 5;accept 0 4;", 1, 18);
        faulty("mo ve 0 a new to 0;", 1, 0);
        for (char other : new char[] {0, 9, 10, 13, 31, 33, 160}) {
            faulty("accept" + other + "0;", 1, 6);
        }
    }

    private static void states() {
        sentence("Promise 3", "Terms", "STATES 1 to 5 (1 at first)");
        for (int n = 1; n <= 5; n++) {
            due("of(0, 0)", fine("states " + n + ";", 0).of(0, 0), n);
        }
        faulty("states 0;", 2, 7);
        faulty("states 6;", 2, 7);
        faulty("states 00;", 2, 7);
        faulty("states 10;", 2, 7);
        faulty("states 99;", 2, 7);
        due("of(0, 0)", fine("accept 0;", 0).of(0, 0), 1);
        faulty("accept 1;", 2, 7);
    }

    private static void registers() {
        sentence("Promise 3", "Terms", "REGISTERS 0 to 2 (0)");
        for (int n = 0; n <= 2; n++) {
            due("of(0, 1)", fine("registers " + n + ";", 0).of(0, 1), n);
        }
        faulty("registers 3;", 2, 10);
        faulty("registers 10;", 2, 10);
        faulty("registers 99;", 2, 10);
        due("of(0, 1)", fine("accept 0;", 0).of(0, 1), 0);
        faulty("move 0 a same 0 to 0;", 2, 14);
    }

    private static void symbols() {
        sentence("Promise 3", "Terms", "SYMBOLS 1 to 2 (1)");
        due("of(0, 2)", fine("symbols 1;", 0).of(0, 2), 1);
        due("of(0, 2)", fine("symbols 2;", 0).of(0, 2), 2);
        faulty("symbols 0;", 2, 8);
        faulty("symbols 3;", 2, 8);
        faulty("symbols 10;", 2, 8);
        faulty("symbols 99;", 2, 8);
        due("of(0, 2)", fine("accept 0;", 0).of(0, 2), 1);
        faulty("move 0 b new to 0;", 1, 7);
    }

    private static void numbersOfStates() {
        sentence("Promise 3", "Terms", "N of accept, move, to: a STATE");
        for (int n = 1; n <= 5; n++) {
            String head = "states " + n + ";";
            int last = n - 1;
            due("of(0, 4)", fine(head + "accept 0;", 0).of(0, 4), 1);
            due("of(0, 4)", fine(head + "accept " + last + ";", 0).of(0, 4), 1 << last);
            due("moved", fine(head + "move " + last + " a new to " + last + ";", 1).moved(0, last, 0, 2, 0), last);
            faulty(head + "accept " + n + ";", 2, 16);
            faulty(head + "move " + n + " a new to 0;", 2, 14);
            faulty(head + "move 0 a new to " + n + ";", 2, 25);
        }
        faulty("accept 1;states 2;", 2, 7);
        faulty("move 0 a new to 1;states 2;", 2, 16);
    }

    private static void numbersOfRegisters() {
        sentence("Promise 3", "Terms", "of same, keep, drop: a REGISTER (as many as told so far)");
        for (int n = 0; n <= 2; n++) {
            String head = "registers " + n + ";";
            if (n > 0) {
                String last = (n - 1) + "";
                fine(head + "move 0 a same " + last + " to 0 keep " + last + " drop " + last + ";", 1);
                fine(head + "move 0 a same 0 to 0 keep 0 drop 0;", 1);
            }
            faulty(head + "move 0 a same " + n + " to 0;", 2, 26);
            faulty(head + "move 0 a new to 0 keep " + n + ";", 2, 35);
            faulty(head + "move 0 a new to 0 drop " + n + ";", 2, 35);
        }
        faulty("move 0 a same 0 to 0;registers 1;", 2, 14);
        faulty("move 0 a new to 0 keep 0;registers 1;", 2, 23);
        faulty("move 0 a new to 0 drop 0;registers 1;", 2, 23);
    }

    // ---- Terms: FAULTS of a MACHINE's text

    private static void firstFault() {
        sentence("Promise 3", "Terms", "FAULTS, the first along the text");
        faulty("x;states 6;", 1, 0);
        faulty("states 6;x;", 2, 7);
        faulty("states 2;states 2;states 6;", 3, 9);
        faulty("states 2;states 6;states 2;", 2, 16);
        faulty("accept 0;accept 0;;", 3, 9);
        faulty("accept 0;;accept 0;", 1, 9);
        faulty("move 9 x new to 0;", 2, 5);
        faulty("move 0 x new to 9;", 1, 7);
        faulty("move 0 a new to 9 keep 9;", 2, 16);
        faulty("move 0 a new to 0 keep 9 drop 9;", 2, 23);
        faulty("move 0 a same 9 to 9;", 2, 14);
    }

    private static void faultPlaces() {
        sentence("Promise 3", "Terms", "1 what can't stand there (at it");
        faulty("xyz 0;", 1, 0);
        faulty("accept xyz;", 1, 7);
        faulty("accept    xyz;", 1, 10);
        faulty("accept 0 12;", 1, 9);
        faulty("accept 0   $;", 1, 11);
        faulty("12;", 1, 0);
        faulty("accept 0;  123;", 1, 11);
    }

    private static void faultAtTheEnd() {
        sentence("Promise 3", "Terms", "the end: how many bytes there are");
        int wordAt = 0;
        for (int n = 0; n <= WHOLE.length(); n++) {
            String cut = WHOLE.substring(0, n);
            boolean lineEnded = cut.isBlank() || cut.trim().endsWith(";");
            if (n > 0 && isSmall(WHOLE.charAt(n - 1)) && (n == 1 || !isSmall(WHOLE.charAt(n - 2)))) {
                wordAt = n - 1;
            }
            boolean wordCut = n > 0 && n < WHOLE.length() && isSmall(WHOLE.charAt(n - 1)) && isSmall(WHOLE.charAt(n));
            if (lineEnded) {
                fine(cut, n > WHOLE.lastIndexOf(';') ? 2 : n > WHOLE.indexOf("0 ; move") + 2 ? 1 : 0);
            } else {
                faulty(cut, 1, wordCut ? wordAt : n);
            }
        }
        faulty("accept   ", 1, 9);
        faulty("accept 0   ", 1, 11);
        WordLearner x = new WordLearner();
        Boundary.put(x, "states 22;");
        due("a number cut in two", x.machine(0, 8), -31);
        due("at the end", x.fault(1), 8);
        Boundary.put(x, "accept 0;accept 0;");
        due("what is behind the end is not read", x.machine(0, 9), 0);
    }

    private static boolean isSmall(char sign) {
        return sign >= 'a' && sign <= 'z';
    }

    private static void bWithOneSymbol() {
        sentence("Promise 3", "Terms", "b with one SYMBOL is such");
        faulty("move 0 b new to 0;", 1, 7);
        faulty("symbols 1;move 0 b new to 0;", 1, 17);
        faulty("move 0 b new to 0;symbols 2;", 1, 7);
        fine("symbols 2;move 0 b new to 0;", 1);
    }

    private static void numbersOutOfBounds() {
        sentence("Promise 3", "Terms", "2 a number out of its bounds");
        faulty("states   6;", 2, 9);
        faulty("states 6", 2, 7);
        faulty("states 6x", 2, 7);
        faulty("registers 3", 2, 10);
        faulty("accept 1 ", 2, 7);
        faulty("move 1", 2, 5);
        faulty("move 0 a new to 1", 2, 16);
    }

    private static void threeDigits() {
        sentence("Promise 3", "Terms", "or of more than 2 digits (at it)");
        due("of(0, 0)", fine("states 02;", 0).of(0, 0), 2);
        due("of(0, 1)", fine("registers 00;", 0).of(0, 1), 0);
        due("of(0, 2)", fine("symbols 01;", 0).of(0, 2), 1);
        due("of(0, 4)", fine("accept 00;", 0).of(0, 4), 1);
        faulty("states 002;", 2, 7);
        faulty("registers 000;", 2, 10);
        faulty("symbols 001;", 2, 8);
        faulty("accept 000;", 2, 7);
        faulty("move 000 a new to 0;", 2, 5);
        faulty("move 0 a new to 000;", 2, 16);
        faulty("states 0000000000000000002;", 2, 7);
        faulty("states 4294967297;", 2, 7);
        faulty("states 18446744073709551618;", 2, 7);
    }

    private static void faultThreeInALine() {
        sentence("Promise 3", "Terms", "3, behind the last number or word of a LINE, ahead of its ;");
        faulty("states 2;states", 1, 15);
        faulty("states 2;states x;", 1, 16);
        faulty("states 2;states 6;", 2, 16);
        faulty("states 2;states 2;", 3, 9);
        faulty("states 2;states 2", 3, 9);
        faulty("states 2;states 2 x", 3, 9);
        faulty("accept 0;accept 1;", 2, 16);
        faulty("accept 0;accept 0", 3, 9);
        faulty("accept 0;registers 3;", 2, 19);
        faulty("accept 0;registers 2", 3, 9);
        String head = "registers 1;move 0 a new to 0;";
        faulty(head + "move 0 a new to 1;", 2, 46);
        faulty(head + "move 0 a new to 0", 3, 30);
        faulty(head + "move 0 a new to 0 keep 1;", 2, 53);
        faulty(head + "move 0 a new to 0 keep;", 1, 52);
        faulty(head + "move 0 a new to 0 keep 0", 3, 30);
        faulty(head + "move 0 a new to 0 keep 0 drop 1;", 2, 60);
        faulty(head + "move 0 a new to 0 keep 0 drop;", 1, 59);
        faulty(head + "move 0 a new to 0 keep 0 drop 0", 3, 30);
        faulty(head + "move 0 a new to 0 drop 0 keep 0", 3, 30);
    }

    private static void faultThreePlace() {
        sentence("Promise 3", "Terms", "but told at its first word");
        faulty("states 2;states 2;", 3, 9);
        faulty("states 2;   states 2;", 3, 12);
        faulty("  accept  0  ;  accept  0  ;", 3, 16);
        faulty("move 0 a new to 0;  move 0 a new to 0;", 3, 20);
    }

    private static void toldTwice() {
        sentence("Promise 3", "Terms", "states, registers, symbols told twice");
        fine("states 1;registers 0;symbols 1;", 0);
        fine("symbols 2;registers 2;states 5;", 0);
        faulty("states 1;states 1;", 3, 9);
        faulty("states 1;registers 1;symbols 1;states 2;", 3, 31);
        faulty("registers 0;registers 0;", 3, 12);
        faulty("registers 1;states 2;registers 2;", 3, 21);
        faulty("symbols 1;symbols 1;", 3, 10);
        faulty("symbols 1;states 2;symbols 2;", 3, 19);
    }

    private static void toldBehindAcceptOrMove() {
        sentence("Promise 3", "Terms", "or behind an accept, a move");
        String move = "move 0 a new to 0;";
        for (String line : new String[] {"states 1;", "registers 0;", "symbols 1;"}) {
            fine(line + "accept 0;" + move, 1);
            faulty("accept 0;" + line, 3, 9);
            faulty(move + line, 3, 18);
            faulty("accept 0;" + move + line, 3, 27);
        }
        fine(move + "accept 0;", 1);
    }

    private static void acceptTwice() {
        sentence("Promise 3", "Terms", "an accept told twice");
        due("of(0, 4)", fine("states 5;accept 4;accept 0;accept 2;accept 1;accept 3;", 0).of(0, 4), 31);
        faulty("accept 0;accept 0;", 3, 9);
        faulty("accept 0;accept 00;", 3, 9);
        faulty("states 5;accept 4;accept 3;accept 4;", 3, 27);
    }

    private static void moveTwice() {
        sentence("Promise 3", "Terms", "a move of like STATE, SYMBOL and guard (same N, new) told twice");
        String head = "states 2;registers 2;symbols 2;";
        String move = "move 0 a same 0 to 0;";
        for (String other : new String[] {"move 1 a same 0 to 0;", "move 0 b same 0 to 0;", "move 0 a same 1 to 0;",
            "move 0 a new to 0;"}) {
            fine(head + move + other, 2);
            faulty(head + other + move + other, 3, head.length() + other.length() + move.length());
        }
        faulty(head + move + "move 0 a same 0 to 1 keep 1 drop 0;", 3, 52);
        faulty(head + move + "move 00 a same 00 to 00;", 3, 52);
    }

    // ---- Terms: THE TEXT of a WORD

    private static String letters(int n) {
        StringBuilder text = new StringBuilder();
        for (int i = 0; i < n; i++) {
            text.append(i % 2 == 0 ? "a" : "b").append(i % 10);
        }
        return text.toString();
    }

    private static void wordLetters() {
        sentence("Promise 4", "Terms", "{X N}, 12 LETTERS at most (a 13th: FAULT 3 at its X)");
        for (int n = 0; n <= 12; n++) {
            due("letter(NONE, 0)", Boundary.fineWord(letters(n), n).letter(NONE, 0), n);
        }
        Boundary.fineWord(letters(12) + "   ", 12);
        faultyWord(letters(13), 3, 24);
        faultyWord(letters(20), 3, 24);
        faultyWord(letters(12) + "   a0", 3, 27);
        faultyWord(letters(12) + "b", 3, 24);
        faultyWord(letters(12) + "c0", 1, 24);
        faultyWord(letters(12) + ";", 1, 24);
        faultyWord(letters(11) + "a100a0", 2, 23);
    }

    private static void wordNames() {
        sentence("Promise 4", "Terms", "N 0 to 99");
        due("NAME", Boundary.fineWord("a0", 1).letter(0, 1), 0);
        due("NAME", Boundary.fineWord("a00", 1).letter(0, 1), 0);
        due("NAME", Boundary.fineWord("a9", 1).letter(0, 1), 9);
        due("NAME", Boundary.fineWord("a09", 1).letter(0, 1), 9);
        due("NAME", Boundary.fineWord("a99", 1).letter(0, 1), 99);
        faultyWord("a100", 2, 1);
        faultyWord("a000", 2, 1);
        faultyWord("a0099", 2, 1);
        faultyWord("a4294967296", 2, 1);
    }

    private static void wordFaults() {
        sentence("Promise 4", "Terms", "FAULTS 1, 2 likewise (b may always stand)");
        faultyWord("a", 1, 1);
        faultyWord("a  ", 1, 3);
        faultyWord("a1 b", 1, 4);
        faultyWord("1", 1, 0);
        faultyWord("a1 1", 1, 3);
        faultyWord("aa1", 1, 0);
        faultyWord("a1ab1", 1, 2);
        faultyWord("c1", 1, 0);
        faultyWord("A1", 1, 0);
        faultyWord("a1;", 1, 2);
        faultyWord("a;", 1, 1);
        faultyWord("a-1", 1, 1);
        faultyWord("a b", 1, 2);
        faultyWord("a1 b100 c", 2, 4);
        faultyWord("c a100", 1, 0);
        Boundary.fineWord("  a  1  b  2  ", 2);
        for (char other : new char[] {0, 9, 10, 31, 33, '/', ':', '`', '{', 128, 255}) {
            faultyWord("a1" + other, 1, 2);
            faultyWord("a" + other + "1", 1, 1);
        }
    }

    private static void bInAWord() {
        sentence("Promise 4", "Terms", "(b may always stand)");
        WordLearner x = Boundary.fineWord("b1", 1);
        due("of(0, 2)", x.of(0, 2), 1);
        due("of(1, 2)", x.of(1, 2), 1);
        due("SYMBOL", x.letter(0, 0), 1);
    }

    // ---- Promise 2: feed

    private static void feedBytes() {
        sentence("Promise 2", "Twenty bytes come behind those on THE TAPE, the highest of each int first: how many it has.");
        WordLearner x = new WordLearner();
        due("feed", x.feed('a' << 24 | '1' << 16 | 'b' << 8 | '2', 'a' << 24 | '3' << 16 | 'b' << 8 | '4',
            0x20202020, 0x20202020, 'a' << 24 | '5' << 16 | 'b' << 8 | '6'), 20);
        due("feed", x.feed('7' << 24 | 'a' << 16 | '8' << 8 | ' ', 0x20202020, 0x20202020, 0x20202020, 0x20202020), 40);
        due("word(40)", x.word(40), 7);
        int[] names = {1, 2, 3, 4, 5, 67, 8};
        for (int k = 0; k < 7; k++) {
            due("NAME", x.letter(k, 1), names[k]);
        }
        for (int i = 0; i < 5; i++) {
            int[] five = {0x20202020, 0x20202020, 0x20202020, 0x20202020, 0x20202020};
            five[i] = 0x80808080;
            x.feed(five[0], five[1], five[2], five[3], five[4]);
            due("a byte with the highest bit", x.word(20), -31);
            due("its place", x.fault(1), 4 * i);
        }
    }

    private static WordLearner fullTape() {
        WordLearner x = Boundary.busy();
        while (x.count(5) < 500) {
            Boundary.put(x, "b7");
        }
        return x;
    }

    private static void feedBeyond() {
        sentence("Promise 2", "-4: it would have more than 500.");
        WordLearner x = new WordLearner();
        for (int i = 1; i <= 25; i++) {
            due("feed", x.feed(0x61312020, 0x20202020, 0x20202020, 0x20202020, 0x20202020), 20 * i);
        }
        due("feed", x.feed(0, 0, 0, 0, 0), -4);
        due("feed", x.feed(0, 0, 0, 0, 0), -4);
        due("count(5)", x.count(5), 500);
        Boundary.refused("feed", TextBoundaryTests::fullTape, y -> y.feed(0x61316131, 0, 0, 0, 0), -4);
        WordLearner y = fullTape();
        y.word(0);
        due("empty again", y.feed(0, 0, 0, 0, 0), 20);
    }

    // ---- Promise 3: machine

    private static void machineFirstBytes() {
        sentence("Promise 3", "The first n bytes of THE TAPE (which is empty then) are THE TEXT of a MACHINE");
        WordLearner x = new WordLearner();
        due("machine(0, 0) of an empty TAPE", x.machine(0, 0), 0);
        Boundary.put(x, "accept 0;");
        due("machine(1, 9)", x.machine(1, 9), 0);
        due("the rest is gone", x.count(5), 0);
        due("of(1, 4)", x.of(1, 4), 1);
        Boundary.put(x, "accept 0;");
        due("machine(1, 0)", x.machine(1, 0), 0);
        due("all is gone", x.count(5), 0);
        due("as at first", x.of(1, 4), 0);
        StringBuilder text = new StringBuilder("states 5;");
        while (text.length() < 491) {
            text.append(' ');
        }
        text.append("accept 4;");
        due("all 500 bytes", Boundary.machine(x, 0, text.toString()), 0);
        due("of(0, 4)", x.of(0, 4), 16);
        text.setCharAt(499, ' ');
        due("all 500 bytes", Boundary.machine(x, 0, text.toString()), -31);
        due("the end", x.fault(1), 500);
    }

    private static void machineMoves() {
        sentence("Promise 3", "are THE TEXT of a MACHINE: how many moves.");
        fine("accept 0;", 0);
        fine("move 0 a new to 0;", 1);
        StringBuilder text = new StringBuilder("states5;registers2;symbols2;");
        for (int state = 0; state < 5; state++) {
            for (String symbol : new String[] {"a", "b"}) {
                text.append("move").append(state).append(symbol).append(" new to4;");
                text.append("move").append(state).append(symbol).append(" same0to3;");
                text.append("move").append(state).append(symbol).append(" same1to2;");
            }
        }
        WordLearner x = fine(text.toString(), 30);
        due("of(0, 3)", x.of(0, 3), 30);
        due("the last", x.moved(0, 4, 1, 1, 0), 2);
        due("a text of none takes them away", x.machine(0, 0), 0);
        due("of(0, 3)", x.of(0, 3), 0);
        due("of(0, 0)", x.of(0, 0), 1);
        due("of(0, 1)", x.of(0, 1), 0);
        due("of(0, 2)", x.of(0, 2), 1);
    }

    private static void machineRefused() {
        sentence("Promise 3", "-2; -3: n is below 0, above what there is (THE TAPE stays); a FAULT.");
        Boundary.refused("machine(-1, 0)", x -> x.machine(-1, 0), -2);
        Boundary.refused("machine(2, 0)", x -> x.machine(2, 0), -2);
        Boundary.refused("machine(0, -1)", x -> x.machine(0, -1), -3);
        Boundary.refused("machine(1, -1)", x -> x.machine(1, -1), -3);
        Boundary.refused("machine(0, 21)", x -> x.machine(0, 21), -3);
        Boundary.refused("machine(0, 1)", WordLearner::new, x -> x.machine(0, 1), -3);
        Boundary.refused("machine(0, 501)", TextBoundaryTests::fullTape, x -> x.machine(0, 501), -3);
        Boundary.refused("machine(2, -1)", x -> x.machine(2, -1), -2);
        Boundary.refused("machine(-1, 21)", x -> x.machine(-1, 21), -2);
        for (int far : Boundary.FAR) {
            Boundary.refused("machine(" + far + ", 0)", x -> x.machine(far, 0), -2);
            Boundary.refused("machine(0, " + far + ")", x -> x.machine(0, far), -3);
        }
        WordLearner x = Boundary.busy();
        due("machine(0, 20) of a WORD's text", x.machine(0, 20), -31);
    }

    private static void machineFaultChangesTheTapeAlone() {
        sentence("Promise 3", "==== 3.", "-30 less the FAULT: a text (THE TAPE is empty then; nothing else changes)");
        String[] texts = {"states 5;accept 4;x", "states 5;accept 5;", "states 5;accept 4;accept 4;"};
        int[] places = {18, 16, 18};
        for (int i = 0; i < 3; i++) {
            String text = texts[i];
            for (int m = 0; m < 2; m++) {
                int machine = m;
                Boundary.faulty("machine(" + m + ", " + text.length() + ")", text, x -> x.machine(machine, text.length()),
                    i + 1, places[i]);
            }
        }
        Boundary.faulty("machine(0, 500)", " ".repeat(499) + "x", x -> x.machine(0, 500), 1, 499);
    }

    // ---- Promise 4: word

    private static void wordFirstBytes() {
        sentence("Promise 4", "The first n bytes of THE TAPE (which is empty then) are THE TEXT of THE WORD");
        WordLearner x = new WordLearner();
        due("word(0) of an empty TAPE", x.word(0), 0);
        Boundary.put(x, "a1b2");
        due("word(2)", x.word(2), 1);
        due("the rest is gone", x.count(5), 0);
        Boundary.put(x, "a12");
        due("word(2), a number cut in two", x.word(2), 1);
        due("NAME", x.letter(0, 1), 1);
        Boundary.put(x, "a12");
        due("word(0)", x.word(0), 0);
        due("all is gone", x.count(5), 0);
        due("the empty WORD", x.letter(NONE, 0), 0);
        due("all 500 bytes", Boundary.word(x, "a1" + " ".repeat(496) + "b2"), 2);
        due("NAME", x.letter(1, 1), 2);
        due("all 500 bytes", Boundary.word(x, "a1" + " ".repeat(497) + "b"), -31);
        due("the end", x.fault(1), 500);
    }

    private static void wordAtFirst() {
        sentence("Promise 4", "THE WORD (at first empty)");
        WordLearner x = new WordLearner();
        due("letter(NONE, 0)", x.letter(NONE, 0), 0);
        due("letter(0, 0)", x.letter(0, 0), -2);
    }

    private static void wordRefused() {
        sentence("Promise 4", "-3 likewise; a FAULT.");
        Boundary.refused("word(-1)", x -> x.word(-1), -3);
        Boundary.refused("word(21)", x -> x.word(21), -3);
        Boundary.refused("word(1)", WordLearner::new, x -> x.word(1), -3);
        Boundary.refused("word(501)", TextBoundaryTests::fullTape, x -> x.word(501), -3);
        for (int far : Boundary.FAR) {
            Boundary.refused("word(" + far + ")", x -> x.word(far), -3);
        }
        due("word(20)", Boundary.busy().word(20), 2);
        due("word(500)", fullTape().word(500), -33);
    }

    private static void wordFaultChangesTheTapeAlone() {
        sentence("Promise 4", "==== 3.", "Refused calls answer by a code and change nothing");
        faultyWord("b5 b6 x", 1, 6);
        faultyWord("b5 b6 b100", 2, 7);
        faultyWord(letters(12) + "b5", 3, 24);
        Boundary.faulty("word(500)", " ".repeat(499) + "x", x -> x.word(500), 1, 499);
    }

    // ---- Promise 5: fault

    private static void faultOfTheLatest() {
        sentence("Promise 5", "Of the latest machine(), word() that emptied THE TAPE, what 0: its FAULT (0), 1: its place (NONE).");
        WordLearner x = new WordLearner();
        Boundary.machine(x, 1, "states 7;");
        due("fault(0)", x.fault(0), 2);
        due("fault(1)", x.fault(1), 7);
        x.machine(2, 0);
        x.machine(0, 1);
        x.machine(0, -1);
        x.word(1);
        x.word(-1);
        x.feed(0, 0, 0, 0, 0);
        due("refused ones don't count", x.fault(0), 2);
        due("refused ones don't count", x.fault(1), 7);
        x.word(0);
        due("fault(0)", x.fault(0), 0);
        due("fault(1)", x.fault(1), NONE);
        Boundary.word(x, letters(13));
        due("fault(0)", x.fault(0), 3);
        due("fault(1)", x.fault(1), 24);
        x.machine(0, 0);
        due("fault(0)", x.fault(0), 0);
        due("fault(1)", x.fault(1), NONE);
        Boundary.machine(x, 0, "x");
        due("fault(0)", x.fault(0), 1);
        due("a place of 0", x.fault(1), 0);
    }

    private static void faultOfNone() {
        sentence("Promise 5", "its FAULT (0), 1: its place (NONE)");
        WordLearner x = new WordLearner();
        due("fault(0)", x.fault(0), 0);
        due("fault(1)", x.fault(1), NONE);
        Boundary.machine(x, 0, "accept 0;");
        due("fault(0)", x.fault(0), 0);
        due("fault(1)", x.fault(1), NONE);
    }

    private static void faultOfOthers() {
        sentence("Promise 5", "NONE for others.");
        due("fault(-1)", Boundary.busy().fault(-1), NONE);
        due("fault(2)", Boundary.busy().fault(2), NONE);
        for (int far : Boundary.FAR) {
            due("fault(" + far + ")", Boundary.busy().fault(far), NONE);
        }
    }
}
