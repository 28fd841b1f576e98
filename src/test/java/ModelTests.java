import java.util.Random;

/** Runs of calls chosen by fixed seeds, each call's answer held against the Model's. */
public final class ModelTests {
    private static final int RUNS = 1000;
    private static final int CALLS = 300;
    private static int wrong = 0;

    private final Random random;
    private final long seed;
    private final WordLearner real = new WordLearner();
    private final Model model = new Model();
    private final StringBuilder told = new StringBuilder();
    private boolean failed = false;

    private ModelTests(long seed) {
        this.seed = seed;
        this.random = new Random(seed);
    }

    public static void main(String[] args) {
        int runs = args.length > 0 ? Integer.parseInt(args[0]) : RUNS;
        int first = args.length > 1 ? Integer.parseInt(args[1]) : 1;
        int[] ends = new int[3];
        for (int i = first; i < first + runs; i++) {
            ModelTests run = new ModelTests(i);
            run.go();
            int end = run.model.decide().stuck() ? 1 : run.model.stands() == 2 ? 2 : 0;
            ends[end]++;
        }
        System.out.println("runs that ended open, stuck, learnt: " + ends[0] + ", " + ends[1] + ", " + ends[2]);
        System.out.println(wrong == 0 ? "all answers are as the model's" : wrong + " runs are not as the model's");
        if (wrong != 0) {
            System.exit(1);
        }
    }

    private void go() {
        bringMachine(0);
        if (chance(2)) {
            bringMachine(1);
        }
        for (int i = 0; i < CALLS && !failed; i++) {
            anyCall();
        }
    }

    private boolean chance(int n) {
        return random.nextInt(n) == 0;
    }

    /** Mostly from 0 to high, now and then beyond either end. */
    private int near(int high) {
        if (chance(25)) {
            int[] far = {-2, -1, high + 1, high + 2, Integer.MAX_VALUE, Integer.MIN_VALUE};
            return far[random.nextInt(far.length)];
        }
        return high <= 0 ? 0 : random.nextInt(high + 1);
    }

    private int orNone(int value) {
        return chance(2) ? -1 : value;
    }

    private void due(String call, int got, int want) {
        told.append("  ").append(call).append(" = ").append(want).append('\n');
        if (got != want && !failed) {
            failed = true;
            wrong++;
            System.out.println("seed " + seed + ": " + call + " answered " + got + ", due is " + want);
            if (wrong == 1) {
                System.out.println(told);
            }
        }
    }

    private void feedText(String text) {
        int length = text.length();
        for (int at = 0; at < length; at += 20) {
            int[] five = new int[5];
            for (int i = 0; i < 20; i++) {
                int sign = at + i < length ? text.charAt(at + i) & 255 : 0;
                five[i / 4] = five[i / 4] << 8 | sign;
            }
            due("feed", real.feed(five[0], five[1], five[2], five[3], five[4]),
                model.feed(five[0], five[1], five[2], five[3], five[4]));
        }
    }

    private String blanks() {
        return chance(4) ? " ".repeat(random.nextInt(3)) : "";
    }

    private String number(int n) {
        return blanks() + (chance(12) ? "0" : "") + n + blanks();
    }

    private String machineText() {
        if (chance(3)) {
            return chainText();
        }
        int states = 1 + random.nextInt(5);
        int registers = chance(4) ? random.nextInt(3) : 2;
        int symbols = chance(3) ? 2 : 1;
        StringBuilder text = new StringBuilder();
        text.append("states").append(number(states)).append(';');
        text.append("registers").append(number(registers)).append(';');
        text.append("symbols").append(number(symbols)).append(';');
        for (int s = 0; s < states; s++) {
            if (chance(3)) {
                text.append("accept").append(number(s)).append(';');
            }
        }
        int density = chance(3) ? 1 + random.nextInt(4) : 5;
        for (int s = 0; s < states; s++) {
            for (int x = 0; x < symbols; x++) {
                for (int g = 0; g <= registers; g++) {
                    if (random.nextInt(5) < density && text.length() < 450) {
                        text.append(moveText(s, x, g == registers ? 2 : g, states, registers));
                    }
                }
            }
        }
        return text.toString();
    }

    /** STATES one behind the other that keep NAMES and ask for them again: these have the most to REMEMBER. */
    private String chainText() {
        int states = 2 + random.nextInt(4);
        StringBuilder text = new StringBuilder("registers 2;states" + states + ";");
        int symbols = 1 + random.nextInt(2);
        text.append("symbols").append(symbols).append(";accept").append(random.nextInt(states)).append(';');
        for (int s = 0; s < states; s++) {
            int next = chance(4) ? random.nextInt(states) : (s + 1) % states;
            int x = random.nextInt(symbols);
            String head = "move" + s + (x == 0 ? "a" : "b");
            int r = random.nextInt(2);
            switch (random.nextInt(4)) {
                case 0 -> text.append(head).append(" new to").append(next).append(";");
                case 1 -> text.append(head).append(" new to").append(next).append("keep").append(r).append(";");
                case 2 -> text.append(head).append(" same").append(r).append("to").append(next).append(";");
                default -> text.append(head).append(" same0to").append(next).append(";").append(head)
                    .append(" same1to").append(random.nextInt(states)).append(";");
            }
            if (chance(3)) {
                text.append("move").append(s).append(x == 0 && symbols == 2 ? "b" : "a").append(" same").append(1 - r)
                    .append("to").append(random.nextInt(states)).append(x == 0 && symbols == 2 ? ";" : "drop0;");
            }
        }
        return text.toString();
    }

    private String moveText(int s, int x, int guard, int states, int registers) {
        String text = "move" + number(s) + (x == 0 ? "a" : "b");
        text += guard == 2 ? " new " : " same" + number(guard);
        text += "to" + number(random.nextInt(states));
        if (registers > 0 && chance(2)) {
            text += "keep" + number(random.nextInt(registers));
        }
        if (registers > 0 && chance(6)) {
            text += "drop" + number(random.nextInt(registers));
        }
        return text + ";";
    }

    private String spoil(String text) {
        String[] bits = {"a", "b", " ", "0", "1", "9", "100", ";", "keep", "drop", "same", "new", "to", "states 2;",
            "registers 1;", "symbols 2;", "accept 0;", "move 0 a new to 0;", "S", "\u00e9", "\n", "x"};
        StringBuilder spoilt = new StringBuilder(text);
        int at = random.nextInt(text.length() + 1);
        if (chance(2)) {
            spoilt.insert(at, bits[random.nextInt(bits.length)]);
        } else {
            spoilt.delete(at, Math.min(text.length(), at + 1 + random.nextInt(6)));
        }
        return spoilt.length() > 500 ? spoilt.substring(0, 500) : spoilt.toString();
    }

    private void clearTape() {
        int n = model.count(5);
        if (n > 0 && !chance(10)) {
            due("word(0)", real.word(0), model.word(0));
        }
    }

    private void bringMachine(int machine) {
        String text = machineText();
        for (int i = 0; i < 6; i++) {
            if (chance(3)) {
                String bad = spoil(text);
                clearTape();
                feedText(bad);
                int n = Math.min(bad.length(), model.count(5));
                due("machine(" + machine + ", " + n + ") of " + bad, real.machine(machine, n), model.machine(machine, n));
                faults();
            }
        }
        clearTape();
        feedText(text);
        int n = chance(30) ? near(520) : Math.min(text.length(), model.count(5));
        due("machine(" + machine + ", " + n + ") of " + text, real.machine(machine, n), model.machine(machine, n));
        faults();
    }

    private void faults() {
        due("fault(0)", real.fault(0), model.fault(0));
        due("fault(1)", real.fault(1), model.fault(1));
    }

    private void bringWord() {
        StringBuilder text = new StringBuilder();
        if (chance(2)) {
            bringWordNearShort();
            return;
        }
        int letters = chance(8) ? random.nextInt(14) : random.nextInt(7);
        int names = 1 + random.nextInt(5);
        int base = chance(2) ? 0 : random.nextInt(90);
        for (int i = 0; i < letters; i++) {
            text.append(chance(3) ? "b" : "a").append(number(base + random.nextInt(names)));
        }
        String whole = chance(8) ? spoil(text.toString()) : text.toString();
        clearTape();
        feedText(whole);
        int n = chance(30) ? near(520) : Math.min(whole.length(), model.count(5));
        due("word(" + n + ") of " + whole, real.word(n), model.word(n));
        faults();
    }

    /** A SHORT word of other NAMES, or one LETTER more. */
    private void bringWordNearShort() {
        StringBuilder text = new StringBuilder();
        int base = random.nextInt(90);
        int turn = random.nextInt(4);
        for (Model.Letter letter : model.shorts.get(random.nextInt(model.shorts.size()))) {
            text.append(letter.symbol() == 0 ? "a" : "b").append(base + (letter.name() ^ turn));
        }
        if (chance(2)) {
            text.append(chance(3) ? "b" : "a").append(base + random.nextInt(4));
        }
        clearTape();
        feedText(text.toString());
        int n = Math.min(text.length(), model.count(5));
        due("word(" + n + ") of " + text, real.word(n), model.word(n));
    }

    private void anyCall() {
        switch (random.nextInt(20)) {
            case 0, 1 -> bringWord();
            case 2 -> changes();
            case 3, 4, 5 -> machinesAsked();
            case 6, 7, 8 -> wordAsked();
            case 9, 10, 11 -> due("step", real.step(), model.step());
            case 12 -> rare();
            default -> learnerAsked();
        }
    }

    private void rare() {
        switch (random.nextInt(8)) {
            case 0 -> due("learn", real.learn(), model.learn());
            case 1 -> due("begin", real.begin(), model.begin());
            case 2 -> bringMachine(random.nextInt(2));
            case 3 -> compared();
            case 4 -> {
                String text = machineText();
                for (int m = 0; m < 2; m++) {
                    clearTape();
                    feedText(text);
                    int n = Math.min(text.length(), model.count(5));
                    due("machine(" + m + ", " + n + ") of " + text, real.machine(m, n), model.machine(m, n));
                }
                changes();
                compared();
            }
            default -> {
                int m = near(1);
                int k = near(5);
                due("many(" + m + ", " + k + ")", real.many(m, k), model.many(m, k));
                due("share(" + m + ", " + k + ")", real.share(m, k), model.share(m, k));
            }
        }
    }

    private void compared() {
        if (chance(2)) {
            due("couples", real.couples(), model.couples());
        }
        int first = near(3);
        due("differs(" + first + ", 1)", real.differs(first, 1), model.differs(first, 1));
        due("differ", real.differ(), model.differ());
        due("couples", real.couples(), model.couples());
        for (int k = -1; k <= Math.max(model.differ(), 0) && !failed; k++) {
            int what = near(1);
            due("differs(" + k + ", " + what + ")", real.differs(k, what), model.differs(k, what));
        }
    }

    private void changes() {
        int m = near(1);
        int last = m == 0 || m == 1 ? model.of(m, 0) - 1 : 2;
        int regs = m == 0 || m == 1 ? model.of(m, 1) - 1 : 1;
        int state = near(last);
        if (m == 0 && !chance(3)) {
            return;
        }
        if (chance(3)) {
            int is = near(1);
            due("accept(" + m + ", " + state + ", " + is + ")", real.accept(m, state, is), model.accept(m, state, is));
            return;
        }
        int symbol = near(1);
        int guard = chance(2) ? 2 : near(2);
        int to = chance(5) ? -1 : near(last);
        int keep = orNone(near(Math.max(regs, 0)));
        int drop = orNone(near(Math.max(regs, 0)));
        due("move(" + m + ", " + state + ", " + symbol + ", " + guard + ", " + to + ", " + keep + ", " + drop + ")",
            real.move(m, state, symbol, guard, to, keep, drop), model.move(m, state, symbol, guard, to, keep, drop));
    }

    private void machinesAsked() {
        int m = near(1);
        int what = near(4);
        due("of(" + m + ", " + what + ")", real.of(m, what), model.of(m, what));
        int state = near(4);
        int symbol = near(1);
        int guard = near(2);
        int of = near(2);
        due("moved(" + m + ", " + state + ", " + symbol + ", " + guard + ", " + of + ")",
            real.moved(m, state, symbol, guard, of), model.moved(m, state, symbol, guard, of));
        due("ask(" + m + ")", real.ask(m), model.ask(m));
        int i = near(model.letter(-1, 0));
        due("behind(" + m + ", " + i + ", " + of + ")", real.behind(m, i, of), model.behind(m, i, of));
    }

    private void wordAsked() {
        int k = near(model.letter(-1, 0)) - random.nextInt(2);
        int what = near(2);
        due("letter(" + k + ", " + what + ")", real.letter(k, what), model.letter(k, what));
        due("remembered", real.remembered(), model.remembered());
        for (int u = chance(20) ? -1 : 0; u <= model.count(0) - (chance(20) ? 0 : 1); u++) {
            due("alike(" + u + ")", real.alike(u), model.alike(u));
        }
        due("guess", real.guess(), model.guess());
        int i = near(model.letter(-1, 0));
        due("guessed(" + i + ", " + what + ")", real.guessed(i, what), model.guessed(i, what));
    }

    private void learnerAsked() {
        int u = near(model.count(0) - 1);
        int k = near(6) - random.nextInt(2);
        int what = near(1);
        switch (random.nextInt(10)) {
            case 0 -> due("brief(" + u + ", " + k + ", " + what + ")", real.brief(u, k, what), model.brief(u, k, what));
            case 1 -> {
                int t = near(model.count(1) - 1);
                due("test(" + t + ", " + k + ", " + what + ")", real.test(t, k, what), model.test(t, k, what));
            }
            case 2 -> due("registers(" + u + ")", real.registers(u), model.registers(u));
            case 3, 4 -> {
                int n = near(3);
                due("goes(" + u + ", " + what + ", " + n + ")", real.goes(u, what, n), model.goes(u, what, n));
            }
            case 5 -> due("stands", real.stands(), model.stands());
            case 6 -> due("refutes(" + k + ", " + what + ")", real.refutes(k, what), model.refutes(k, what));
            case 7 -> due("splits", real.splits(), model.splits());
            case 8 -> due("spare", real.spare(), model.spare());
            default -> {
                int which = near(6);
                due("count(" + which + ")", real.count(which), model.count(which));
            }
        }
    }
}
