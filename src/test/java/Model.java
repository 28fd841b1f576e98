import java.util.ArrayList;
import java.util.Arrays;
import java.util.HashMap;
import java.util.HashSet;
import java.util.LinkedHashSet;
import java.util.List;
import java.util.Map;
import java.util.Set;
import java.util.TreeMap;
import java.util.TreeSet;

/**
 * The document word by word, with no thought of speed: every INSTANCE over every NAME of a WORD, every WORD run from
 * its beginning. The tests hold WordLearner against it.
 */
final class Model {
    static final int NONE = -1;

    /** A LETTER: its SYMBOL and its NAME. */
    record Letter(int symbol, int name) { }

    record Move(int to, int keep, int drop) { }

    record Place(int state, int symbol, int guard) { }

    /** Where one is: STATE and REGISTERS. */
    record Spot(int state, List<Integer> registers) { }

    record Shown(int test, List<Integer> names) { }

    interface Goer {
        Spot begin();

        Spot by(Spot spot, Letter letter);

        boolean accepts(Spot spot);
    }

    static final class Machine implements Goer {
        int states = 1;
        int registers = 0;
        int symbols = 1;
        final TreeSet<Integer> accept = new TreeSet<>();
        final Map<Place, Move> moves = new HashMap<>();

        public Spot begin() {
            return new Spot(0, List.of(NONE, NONE));
        }

        public Spot by(Spot spot, Letter letter) {
            if (spot.state == NONE) {
                return spot;
            }
            Move move = null;
            for (int r = 0; r < registers && move == null; r++) {
                if (spot.registers.get(r) == letter.name) {
                    move = moves.get(new Place(spot.state, letter.symbol, r));
                }
            }
            if (move == null) {
                move = moves.get(new Place(spot.state, letter.symbol, 2));
            }
            if (move == null) {
                return new Spot(NONE, List.of(NONE, NONE));
            }
            List<Integer> held = new ArrayList<>(spot.registers);
            if (move.keep != NONE) {
                held.set(move.keep, letter.name);
            }
            if (move.drop != NONE) {
                held.set(move.drop, NONE);
            }
            return new Spot(move.to, held);
        }

        public boolean accepts(Spot spot) {
            return accept.contains(spot.state);
        }
    }

    static Spot behindWord(Goer goer, List<Letter> word, int letters) {
        Spot spot = goer.begin();
        for (int i = 0; i < letters; i++) {
            spot = goer.by(spot, word.get(i));
        }
        return spot;
    }

    static boolean takes(Goer goer, List<Letter> word) {
        return goer.accepts(behindWord(goer, word, word.size()));
    }

    static List<Letter> least(List<Letter> word) {
        Map<Integer, Integer> names = new HashMap<>();
        List<Letter> all = new ArrayList<>();
        for (Letter letter : word) {
            names.putIfAbsent(letter.name, names.size());
            all.add(new Letter(letter.symbol, names.get(letter.name)));
        }
        return all;
    }

    static TreeSet<Integer> namesOf(List<Letter> word) {
        TreeSet<Integer> names = new TreeSet<>();
        for (Letter letter : word) {
            names.add(letter.name);
        }
        return names;
    }

    static List<Letter> with(List<Letter> word, Letter letter) {
        List<Letter> longer = new ArrayList<>(word);
        longer.add(letter);
        return longer;
    }

    // ---- texts

    static final class Fault extends RuntimeException {
        final int which;
        final int place;

        Fault(int which, int place) {
            this.which = which;
            this.place = place;
        }
    }

    static final class Tokens {
        final List<String> texts = new ArrayList<>();
        final List<Integer> places = new ArrayList<>();
        int at = 0;

        Tokens(String text) {
            java.util.regex.Matcher m = java.util.regex.Pattern.compile("[a-z]+|[0-9]+|[^ ]", java.util.regex.Pattern.DOTALL).matcher(text);
            while (m.find()) {
                texts.add(m.group());
                places.add(m.start());
            }
            texts.add("");
            places.add(text.length());
        }

        String peek() {
            return texts.get(at);
        }

        int place() {
            return places.get(at);
        }

        boolean atEnd() {
            return peek().isEmpty();
        }

        String oneOf(String... words) {
            String token = peek();
            if (token.isEmpty() || !Arrays.asList(words).contains(token)) {
                throw new Fault(1, place());
            }
            at++;
            return token;
        }

        int number(int low, int high) {
            String token = peek();
            if (!token.matches("[0-9]+")) {
                throw new Fault(1, place());
            }
            if (token.length() > 2 || Integer.parseInt(token) < low || Integer.parseInt(token) > high) {
                throw new Fault(2, place());
            }
            at++;
            return Integer.parseInt(token);
        }
    }

    static Machine parseMachine(String text) {
        Tokens in = new Tokens(text);
        Machine made = new Machine();
        Set<String> told = new HashSet<>();
        while (!in.atEnd()) {
            int first = in.place();
            String line = in.oneOf("states", "registers", "symbols", "accept", "move");
            String key = line;
            boolean late = told.contains("body");
            switch (line) {
                case "states" -> made.states = in.number(1, 5);
                case "registers" -> made.registers = in.number(0, 2);
                case "symbols" -> made.symbols = in.number(1, 2);
                case "accept" -> {
                    int state = in.number(0, made.states - 1);
                    made.accept.add(state);
                    key = "accept " + state;
                    late = false;
                }
                default -> {
                    key = parseMove(in, made);
                    late = false;
                }
            }
            if (late || !told.add(key)) {
                throw new Fault(3, first);
            }
            if (line.equals("accept") || line.equals("move")) {
                told.add("body");
            }
            in.oneOf(";");
        }
        return made;
    }

    private static String parseMove(Tokens in, Machine made) {
        int state = in.number(0, made.states - 1);
        int symbol = (made.symbols == 2 ? in.oneOf("a", "b") : in.oneOf("a")).equals("a") ? 0 : 1;
        int guard = 2;
        if (in.oneOf("same", "new").equals("same")) {
            guard = in.number(0, made.registers - 1);
        }
        in.oneOf("to");
        int to = in.number(0, made.states - 1);
        int keep = NONE;
        int drop = NONE;
        if (in.peek().equals("keep")) {
            in.at++;
            keep = in.number(0, made.registers - 1);
        }
        if (in.peek().equals("drop")) {
            in.at++;
            drop = in.number(0, made.registers - 1);
        }
        Place place = new Place(state, symbol, guard);
        made.moves.put(place, new Move(to, keep, drop));
        return place.toString();
    }

    static List<Letter> parseWord(String text) {
        Tokens in = new Tokens(text);
        List<Letter> made = new ArrayList<>();
        while (!in.atEnd()) {
            int place = in.place();
            int symbol = in.oneOf("a", "b").equals("a") ? 0 : 1;
            if (made.size() == 12) {
                throw new Fault(3, place);
            }
            made.add(new Letter(symbol, in.number(0, 99)));
        }
        return made;
    }

    // ---- what an object holds

    final Machine[] machines = {new Machine(), new Machine()};
    String tape = "";
    List<Letter> word = new ArrayList<>();
    int lastFault = 0;
    int lastPlace = NONE;
    final List<List<Letter>> shorts = new ArrayList<>();
    final List<List<Letter>> tests = new ArrayList<>();
    final Map<List<Letter>, TreeMap<Integer, Shown>> rememberedKnown = new HashMap<>();
    Decision known = null;

    Model() {
        begin();
    }

    int feed(int a, int b, int c, int d, int e) {
        if (tape.length() + 20 > 500) {
            return -4;
        }
        StringBuilder more = new StringBuilder(tape);
        for (int four : new int[] {a, b, c, d, e}) {
            for (int i = 3; i >= 0; i--) {
                more.append((char) ((four >>> (8 * i)) & 0xff));
            }
        }
        tape = more.toString();
        return tape.length();
    }

    int machine(int machine, int n) {
        if (machine < 0 || machine > 1) {
            return -2;
        }
        if (n < 0 || n > tape.length()) {
            return -3;
        }
        String text = tape.substring(0, n);
        tape = "";
        try {
            machines[machine] = parseMachine(text);
        } catch (Fault f) {
            return note(f);
        }
        lastFault = 0;
        lastPlace = NONE;
        changed(machine);
        return machines[machine].moves.size();
    }

    int word(int n) {
        if (n < 0 || n > tape.length()) {
            return -3;
        }
        String text = tape.substring(0, n);
        tape = "";
        try {
            word = parseWord(text);
        } catch (Fault f) {
            return note(f);
        }
        lastFault = 0;
        lastPlace = NONE;
        return word.size();
    }

    private int note(Fault f) {
        lastFault = f.which;
        lastPlace = f.place;
        return -30 - f.which;
    }

    private void changed(int machine) {
        if (machine == 0) {
            begin();
        }
    }

    int fault(int what) {
        return what == 0 ? lastFault : what == 1 ? lastPlace : NONE;
    }

    private boolean isState(int machine, int state) {
        return machine >= 0 && machine <= 1 && state >= 0 && state < machines[machine].states;
    }

    private boolean isPlace(int machine, int state, int symbol, int guard) {
        return isState(machine, state) && symbol >= 0 && symbol < machines[machine].symbols
            && (guard == 2 || guard >= 0 && guard < machines[machine].registers);
    }

    int accept(int machine, int state, int is) {
        if (!isState(machine, state)) {
            return -2;
        }
        if (is < 0 || is > 1) {
            return -3;
        }
        int was = machines[machine].accept.contains(state) ? 1 : 0;
        if (was != is) {
            if (is == 1) {
                machines[machine].accept.add(state);
            } else {
                machines[machine].accept.remove(state);
            }
            changed(machine);
        }
        return was;
    }

    int move(int machine, int state, int symbol, int guard, int to, int keep, int drop) {
        if (!isPlace(machine, state, symbol, guard)) {
            return -2;
        }
        Machine m = machines[machine];
        for (int register : new int[] {keep, drop}) {
            if (register != NONE && (register < 0 || register >= m.registers)) {
                return -3;
            }
        }
        if (to != NONE && (to < 0 || to >= m.states)) {
            return -3;
        }
        Place place = new Place(state, symbol, guard);
        Move was = m.moves.get(place);
        Move is = to == NONE ? null : new Move(to, keep, drop);
        if (is == null) {
            m.moves.remove(place);
        } else {
            m.moves.put(place, is);
        }
        if (is == null ? was != null : !is.equals(was)) {
            changed(machine);
        }
        return was == null ? 0 : 1;
    }

    int of(int machine, int what) {
        if (machine < 0 || machine > 1 || what < 0 || what > 4) {
            return -2;
        }
        Machine m = machines[machine];
        int bits = 0;
        for (int state : m.accept) {
            bits |= 1 << state;
        }
        return new int[] {m.states, m.registers, m.symbols, m.moves.size(), bits}[what];
    }

    int moved(int machine, int state, int symbol, int guard, int what) {
        if (!isPlace(machine, state, symbol, guard) || what < 0 || what > 2) {
            return -2;
        }
        Move m = machines[machine].moves.get(new Place(state, symbol, guard));
        return m == null ? NONE : what == 0 ? m.to : what == 1 ? m.keep : m.drop;
    }

    int ask(int machine) {
        if (machine < 0 || machine > 1) {
            return -2;
        }
        return takes(machines[machine], word) ? 1 : 0;
    }

    int behind(int machine, int i, int what) {
        if (machine < 0 || machine > 1 || what < 0 || what > 2) {
            return -2;
        }
        if (i < 0 || i > word.size()) {
            return -3;
        }
        Spot spot = behindWord(machines[machine], word, i);
        return what == 0 ? spot.state : spot.registers.get(what - 1);
    }

    static List<List<Letter>> allWords(int k, int symbols) {
        List<List<Letter>> words = List.of(List.of());
        for (int i = 0; i < k; i++) {
            List<List<Letter>> longer = new ArrayList<>();
            for (List<Letter> w : words) {
                for (int s = 0; s < symbols; s++) {
                    for (int n = 0; n <= namesOf(w).size(); n++) {
                        longer.add(with(w, new Letter(s, n)));
                    }
                }
            }
            words = longer;
        }
        return words;
    }

    int many(int machine, int k) {
        if (machine < 0 || machine > 1) {
            return -2;
        }
        if (k < 0 || k > 5) {
            return -3;
        }
        int taken = 0;
        for (List<Letter> w : allWords(k, machines[machine].symbols)) {
            taken += takes(machines[machine], w) ? 1 : 0;
        }
        return taken;
    }

    int share(int machine, int k) {
        int taken = many(machine, k);
        if (taken < 0) {
            return taken;
        }
        return Float.floatToIntBits((float) taken / (float) allWords(k, machines[machine].symbols).size());
    }

    // ---- two held against one another

    /** The WORD that is told otherwise (null: none), and how many couples were come to. */
    record Told(List<Letter> word, int couples) { }

    static Told compare(Goer a, Goer b, int symbols) {
        return compare(a, b, symbols, 20);
    }

    /** As told, but by WORDS of so many LETTERS at most. */
    static Told compare(Goer a, Goer b, int symbols, int letters) {
        Set<String> seen = new HashSet<>();
        List<List<Letter>> row = new ArrayList<>();
        row.add(List.of());
        seen.add(coupleOf(a, b, List.of()));
        if (takes(a, List.of()) != takes(b, List.of())) {
            return new Told(List.of(), 1);
        }
        for (int i = 0; i < row.size(); i++) {
            List<Letter> beginning = row.get(i);
            if (beginning.size() == letters) {
                continue;
            }
            LinkedHashSet<Integer> names = new LinkedHashSet<>();
            names.addAll(behindWord(a, beginning, beginning.size()).registers);
            names.addAll(behindWord(b, beginning, beginning.size()).registers);
            names.remove(NONE);
            names.add(namesOf(beginning).size());
            for (int s = 0; s < symbols; s++) {
                for (int n : names) {
                    List<Letter> longer = with(beginning, new Letter(s, n));
                    if (!seen.add(coupleOf(a, b, longer))) {
                        continue;
                    }
                    row.add(longer);
                    if (takes(a, longer) != takes(b, longer)) {
                        return new Told(longer, seen.size());
                    }
                }
            }
        }
        return new Told(null, seen.size());
    }

    private static String coupleOf(Goer a, Goer b, List<Letter> w) {
        Spot one = behindWord(a, w, w.size());
        Spot other = behindWord(b, w, w.size());
        List<Integer> all = new ArrayList<>(one.registers);
        all.addAll(other.registers);
        Map<Integer, Integer> renamed = new HashMap<>();
        StringBuilder couple = new StringBuilder(one.state + "/" + other.state);
        for (int name : all) {
            if (name != NONE) {
                renamed.putIfAbsent(name, renamed.size());
            }
            couple.append('/').append(name == NONE ? "-" : "" + renamed.get(name));
        }
        return couple.toString();
    }

    private Told comparison() {
        return compare(machines[0], machines[1], Math.max(machines[0].symbols, machines[1].symbols));
    }

    int differ() {
        Told told = comparison();
        return told.word == null ? NONE : told.word.size();
    }

    int differs(int k, int what) {
        Told told = comparison();
        return told.word == null ? -2 : letterOf(told.word, k, what);
    }

    int couples() {
        return comparison().couples;
    }

    private static int letterOf(List<Letter> w, int k, int what) {
        if (k < 0 || k >= w.size() || what < 0 || what > 1) {
            return -2;
        }
        return what == 0 ? w.get(k).symbol : w.get(k).name;
    }

    private static int sizeOrLetter(List<Letter> w, int k, int what) {
        if (k == NONE) {
            return what == 0 ? w.size() : -2;
        }
        return letterOf(w, k, what);
    }

    int letter(int k, int what) {
        if (what == 2) {
            return k < 0 ? -2 : letterOf(least(word), k, 1);
        }
        return sizeOrLetter(word, k, what);
    }

    // ---- the learner

    /** All INSTANCES of a TEST at a WORD in their row: for each NAME of the TEST the NAME that it is. */
    static List<List<Integer>> instances(List<Letter> test, List<Letter> w) {
        List<List<Integer>> all = List.of(List.of());
        int names = namesOf(test).size();
        for (int i = 0; i < names; i++) {
            List<List<Integer>> longer = new ArrayList<>();
            for (List<Integer> named : all) {
                List<Integer> fresh = new ArrayList<>(named);
                fresh.add(500 + i);
                longer.add(fresh);
                for (int name : namesOf(w)) {
                    if (!named.contains(name)) {
                        List<Integer> more = new ArrayList<>(named);
                        more.add(name);
                        longer.add(more);
                    }
                }
            }
            all = longer;
        }
        return all;
    }

    boolean answer(List<Letter> w, List<Letter> test, List<Integer> named) {
        List<Letter> whole = new ArrayList<>(w);
        for (Letter letter : test) {
            whole.add(new Letter(letter.symbol, named.get(letter.name)));
        }
        return takes(machines[0], whole);
    }

    /** REMEMBERED NAMES of a WORD in LEAST form, each with what SHOWS it. */
    TreeMap<Integer, Shown> rememberedOf(List<Letter> w) {
        TreeMap<Integer, Shown> known = rememberedKnown.get(w);
        if (known != null) {
            return known;
        }
        TreeMap<Integer, Shown> found = new TreeMap<>();
        for (int name : namesOf(w)) {
            for (int t = 0; t < tests.size() && !found.containsKey(name); t++) {
                for (List<Integer> named : instances(tests.get(t), w)) {
                    if (!named.contains(name)) {
                        continue;
                    }
                    List<Integer> other = new ArrayList<>(named);
                    other.set(named.indexOf(name), 900);
                    if (answer(w, tests.get(t), named) != answer(w, tests.get(t), other)) {
                        found.put(name, new Shown(t, named));
                        break;
                    }
                }
            }
        }
        rememberedKnown.put(w, found);
        return found;
    }

    /** The first way by which the first is ALIKE to the other: for its REMEMBERED NAMES rising those of the other. */
    List<Integer> way(List<Letter> first, List<Letter> other) {
        List<Integer> from = new ArrayList<>(rememberedOf(first).keySet());
        List<Integer> to = new ArrayList<>(rememberedOf(other).keySet());
        if (from.size() != to.size()) {
            return null;
        }
        for (List<Integer> set : orders(to)) {
            if (isAlikeBy(first, other, from, set)) {
                return set;
            }
        }
        return null;
    }

    private static List<List<Integer>> orders(List<Integer> items) {
        if (items.isEmpty()) {
            return List.of(List.of());
        }
        List<List<Integer>> all = new ArrayList<>();
        for (int item : items) {
            List<Integer> rest = new ArrayList<>(items);
            rest.remove((Integer) item);
            for (List<Integer> order : orders(rest)) {
                List<Integer> one = new ArrayList<>();
                one.add(item);
                one.addAll(order);
                all.add(one);
            }
        }
        return all;
    }

    private boolean isAlikeBy(List<Letter> first, List<Letter> other, List<Integer> from, List<Integer> set) {
        for (List<Letter> test : tests) {
            for (List<Integer> named : instances(test, first)) {
                List<Integer> mapped = new ArrayList<>();
                boolean rememberedAlone = true;
                for (int name : named) {
                    if (name >= 500) {
                        mapped.add(name);
                    } else if (from.contains(name)) {
                        mapped.add(set.get(from.indexOf(name)));
                    } else {
                        rememberedAlone = false;
                    }
                }
                if (rememberedAlone && answer(first, test, named) != answer(other, test, mapped)) {
                    return false;
                }
            }
        }
        return true;
    }

    int firstAlike(List<Letter> w) {
        for (int u = 0; u < shorts.size(); u++) {
            if (way(w, shorts.get(u)) != null) {
                return u;
            }
        }
        return NONE;
    }

    List<List<Letter>> longWords(List<Letter> u) {
        List<List<Letter>> all = new ArrayList<>();
        for (int s = 0; s < machines[0].symbols; s++) {
            for (int name : rememberedOf(u).keySet()) {
                all.add(with(u, new Letter(s, name)));
            }
            all.add(with(u, new Letter(s, namesOf(u).size())));
        }
        return all;
    }

    final class Hypothesis implements Goer {
        public Spot begin() {
            return new Spot(0, List.of(NONE, NONE));
        }

        public Spot by(Spot spot, Letter letter) {
            if (spot.state == NONE) {
                return spot;
            }
            if (letter.symbol >= machines[0].symbols) {
                return new Spot(NONE, List.of(NONE, NONE));
            }
            List<Letter> u = shorts.get(spot.state);
            List<Integer> registers = new ArrayList<>(rememberedOf(u).keySet());
            Map<Integer, Integer> standsFor = new HashMap<>();
            int goesAs = namesOf(u).size();
            for (int i = 0; i < registers.size(); i++) {
                standsFor.put(registers.get(i), spot.registers.get(i));
                if (spot.registers.get(i) == letter.name) {
                    goesAs = registers.get(i);
                }
            }
            standsFor.put(goesAs, letter.name);
            List<Letter> longer = with(u, new Letter(letter.symbol, goesAs));
            int v = firstAlike(longer);
            List<Integer> set = way(longer, shorts.get(v));
            List<Integer> from = new ArrayList<>(rememberedOf(longer).keySet());
            List<Integer> to = new ArrayList<>(rememberedOf(shorts.get(v)).keySet());
            List<Integer> held = new ArrayList<>(List.of(NONE, NONE));
            for (int i = 0; i < from.size(); i++) {
                held.set(to.indexOf(set.get(i)), standsFor.get(from.get(i)));
            }
            return new Spot(v, held);
        }

        public boolean accepts(Spot spot) {
            return spot.state != NONE && takes(machines[0], shorts.get(spot.state));
        }
    }

    final class Decision {
        int kind = 0;
        List<Letter> made = null;
        List<Letter> refuting = null;
        int split = NONE;

        boolean stands() {
            return kind == 0 || kind == 3;
        }

        boolean stuck() {
            if (kind == 0) {
                return false;
            }
            boolean tooBig = made.size() > 6 || namesOf(made).size() > 3;
            return tooBig || (kind == 2 ? shorts.size() == 10 : tests.size() == 10 || tests.contains(made));
        }
    }

    Decision decide() {
        if (known == null) {
            known = new Decision();
            if (!decideOne(known) && !decideTwo(known)) {
                decideThree(known);
            }
        }
        return known;
    }

    private boolean decideOne(Decision d) {
        for (List<Letter> u : shorts) {
            for (List<Letter> longer : longWords(u)) {
                for (Map.Entry<Integer, Shown> one : rememberedOf(longer).entrySet()) {
                    if (!namesOf(u).contains(one.getKey()) || rememberedOf(u).containsKey(one.getKey())) {
                        continue;
                    }
                    d.kind = 1;
                    List<Letter> made = new ArrayList<>();
                    made.add(longer.get(longer.size() - 1));
                    for (Letter letter : tests.get(one.getValue().test)) {
                        made.add(new Letter(letter.symbol, one.getValue().names.get(letter.name)));
                    }
                    d.made = least(made);
                    return true;
                }
            }
        }
        return false;
    }

    private boolean decideTwo(Decision d) {
        for (List<Letter> u : shorts) {
            for (List<Letter> longer : longWords(u)) {
                if (firstAlike(longer) == NONE) {
                    d.kind = 2;
                    d.made = longer;
                    return true;
                }
            }
        }
        return false;
    }

    private void decideThree(Decision d) {
        List<Letter> w = compare(machines[0], new Hypothesis(), machines[0].symbols).word;
        if (w == null) {
            return;
        }
        d.kind = 3;
        d.refuting = w;
        int i = 0;
        while (takes(machines[0], mixed(w, i)) == takes(machines[0], mixed(w, i + 1))) {
            i++;
        }
        d.split = i;
        d.made = least(w.subList(i + 1, w.size()));
    }

    private List<Letter> mixed(List<Letter> w, int i) {
        Spot spot = behindWord(new Hypothesis(), w, i);
        List<Letter> u = shorts.get(spot.state);
        List<Integer> registers = new ArrayList<>(rememberedOf(u).keySet());
        List<Letter> all = new ArrayList<>();
        for (Letter letter : u) {
            int place = registers.indexOf(letter.name);
            all.add(new Letter(letter.symbol, place < 0 ? 700 + letter.name : spot.registers.get(place)));
        }
        all.addAll(w.subList(i, w.size()));
        return all;
    }

    private void forget() {
        known = null;
        rememberedKnown.clear();
    }

    private static int bits(Set<Integer> names) {
        int all = 0;
        for (int name : names) {
            all |= 1 << name;
        }
        return all;
    }

    private boolean tooMuch() {
        return word.size() > 6 || namesOf(word).size() > 4;
    }

    int remembered() {
        return tooMuch() ? -4 : bits(rememberedOf(least(word)).keySet());
    }

    int alike(int u) {
        if (u < 0 || u >= shorts.size()) {
            return -2;
        }
        if (tooMuch()) {
            return -4;
        }
        List<Integer> set = way(least(word), shorts.get(u));
        if (set == null) {
            return NONE;
        }
        List<Integer> to = new ArrayList<>(rememberedOf(shorts.get(u)).keySet());
        int told = 0;
        for (int name : set) {
            told = 10 * told + to.indexOf(name) + 1;
        }
        return told;
    }

    int begin() {
        int had = shorts.size() + tests.size();
        shorts.clear();
        tests.clear();
        shorts.add(List.of());
        tests.add(List.of());
        forget();
        return had;
    }

    int step() {
        Decision d = decide();
        if (d.stuck()) {
            return -4;
        }
        if (d.kind == 2) {
            shorts.add(d.made);
            forget();
        } else if (d.kind != 0) {
            tests.add(d.made);
            forget();
        }
        return d.kind;
    }

    int learn() {
        for (int made = 0; made < 40; made++) {
            int kind = step();
            if (kind == -4) {
                return -4;
            }
            if (kind == 0) {
                return made;
            }
        }
        return 40;
    }

    int brief(int u, int k, int what) {
        return u < 0 || u >= shorts.size() ? -2 : sizeOrLetter(shorts.get(u), k, what);
    }

    int test(int t, int k, int what) {
        return t < 0 || t >= tests.size() ? -2 : sizeOrLetter(tests.get(t), k, what);
    }

    int registers(int u) {
        return u < 0 || u >= shorts.size() ? -2 : bits(rememberedOf(shorts.get(u)).keySet());
    }

    int goes(int u, int symbol, int n) {
        if (u < 0 || u >= shorts.size() || symbol < 0 || symbol >= machines[0].symbols) {
            return -2;
        }
        if (n < 0 || n > namesOf(shorts.get(u)).size()) {
            return -3;
        }
        return firstAlike(with(shorts.get(u), new Letter(symbol, n)));
    }

    int stands() {
        Decision d = decide();
        return d.stands() ? (d.kind == 3 ? 1 : 2) : 0;
    }

    int guess() {
        return !decide().stands() ? -5 : takes(new Hypothesis(), word) ? 1 : 0;
    }

    int guessed(int i, int what) {
        if (i < 0 || i > word.size()) {
            return -3;
        }
        if (what < 0 || what > 2) {
            return -2;
        }
        if (!decide().stands()) {
            return -5;
        }
        Spot spot = behindWord(new Hypothesis(), word, i);
        return what == 0 ? spot.state : spot.registers.get(what - 1);
    }

    int refutes(int k, int what) {
        Decision d = decide();
        if (!d.stands()) {
            return -5;
        }
        if (d.refuting == null) {
            return k == NONE && what == 0 ? NONE : -2;
        }
        return sizeOrLetter(d.refuting, k, what);
    }

    int splits() {
        return decide().stands() ? decide().split : -5;
    }

    int spare() {
        if (!decide().stands()) {
            return -5;
        }
        int most = 0;
        for (List<Letter> u : shorts) {
            most = Math.max(most, rememberedOf(u).size());
        }
        return machines[0].registers - most;
    }

    int count(int what) {
        int sum = 0;
        switch (what) {
            case 0:
                return shorts.size();
            case 1:
                return tests.size();
            case 2:
                for (List<Letter> u : shorts) {
                    sum += u.size();
                }
                return sum;
            case 3:
                for (List<Letter> t : tests) {
                    sum += t.size();
                }
                return sum;
            case 4:
                for (List<Letter> u : shorts) {
                    sum += longWords(u).size();
                }
                return sum;
            case 5:
                return tape.length();
            case 6:
                for (List<Letter> u : shorts) {
                    sum += takes(machines[0], u) ? 1 : 0;
                }
                return sum;
            default:
                return NONE;
        }
    }
}
