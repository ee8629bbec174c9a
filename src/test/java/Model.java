import java.util.ArrayList;
import java.util.Arrays;
import java.util.Collections;
import java.util.HashMap;
import java.util.List;
import java.util.Map;

/**
 * The document once more, as slow and plain as can be and made in other ways than the program: circuits are
 * lists of words, all is told by whole matrices. A call that throws answers one of the numbers below.
 */
final class Model {
    static final long ILLEGAL_ARGUMENT = Long.MIN_VALUE + 1;
    static final long ILLEGAL_STATE = Long.MIN_VALUE + 2;
    static final long OUT_OF_BOUNDS = Long.MIN_VALUE + 3;

    private static final String LETTERS = "hstxzcdwo";
    private static final List<String> WORDS = shortestWords();

    int wires = 1;
    List<List<String>> slots = new ArrayList<>();
    List<Num> state = null;
    StringBuilder text = new StringBuilder();
    int phase = 0;
    int place = -1;

    Model() {
        empty();
    }

    private void empty() {
        slots = new ArrayList<>(List.of(new ArrayList<>(), new ArrayList<>(), new ArrayList<>()));
    }

    private static boolean noSlot(int slot) {
        return slot < 0 || slot > 2;
    }

    private boolean noWire(int wire) {
        return wire < 0 || wire >= wires;
    }

    long wires(int n) {
        if (n < 1 || n > 4) {
            return ILLEGAL_ARGUMENT;
        }
        empty();
        state = null;
        text.setLength(0);
        wires = n;
        return 0;
    }

    long gate(int slot, int kind, int a, int b, int c) {
        if (noSlot(slot) || kind < 1 || kind > 9) {
            return ILLEGAL_ARGUMENT;
        }
        List<Integer> needed = List.of(a, b, c).subList(0, needs(kind));
        if (needed.stream().anyMatch(this::noWire) || needed.stream().distinct().count() < needed.size()) {
            return ILLEGAL_ARGUMENT;
        }
        if (slots.get(slot).size() == 64) {
            return ILLEGAL_STATE;
        }
        String word = "" + LETTERS.charAt(kind - 1);
        for (int wire : needed) {
            word += wire;
        }
        slots.get(slot).add(word);
        return slots.get(slot).size();
    }

    private static int needs(int kind) {
        return kind < 6 ? 1 : kind == 9 ? 3 : 2;
    }

    long size(int slot) {
        return noSlot(slot) ? -1 : slots.get(slot).size();
    }

    long gateAt(int slot, int i) {
        if (noSlot(slot) || i < 0 || i >= slots.get(slot).size()) {
            return -1;
        }
        String word = slots.get(slot).get(i);
        String digits = new StringBuilder(word.substring(1)).reverse().toString();
        return Long.parseLong(digits + (LETTERS.indexOf(word.charAt(0)) + 1));
    }

    long clear(int slot) {
        if (noSlot(slot)) {
            return ILLEGAL_ARGUMENT;
        }
        slots.set(slot, new ArrayList<>());
        return 0;
    }

    private long become(int slot, List<String> circuit) {
        if (circuit.size() > 64) {
            return ILLEGAL_STATE;
        }
        slots.set(slot, circuit);
        return circuit.size();
    }

    long append(int slot, int other) {
        if (noSlot(slot) || noSlot(other)) {
            return ILLEGAL_ARGUMENT;
        }
        List<String> circuit = new ArrayList<>(slots.get(slot));
        circuit.addAll(slots.get(other));
        return become(slot, circuit);
    }

    long inverse(int slot) {
        if (noSlot(slot)) {
            return ILLEGAL_ARGUMENT;
        }
        List<String> inverted = new ArrayList<>(slots.get(slot));
        Collections.reverse(inverted);
        return become(slot, replaced(inverted, Map.of("s", "sa za", "t", "ta sa za")));
    }

    long expand(int slot) {
        if (noSlot(slot)) {
            return ILLEGAL_ARGUMENT;
        }
        String back = "tc sc zc";
        String parts = "hc cbc " + back + " cac tc cbc " + back + " cac tb tc hc cab ta tb sb zb cab";
        return become(slot, replaced(slots.get(slot), Map.of("o", parts)));
    }

    /** Each word whose letter is known becomes others, in which a, b and c behind the letter are its wires. */
    private static List<String> replaced(List<String> circuit, Map<String, String> known) {
        List<String> result = new ArrayList<>();
        for (String word : circuit) {
            String parts = known.get(word.substring(0, 1));
            if (parts == null) {
                result.add(word);
                continue;
            }
            for (String part : parts.split(" ")) {
                String made = part.substring(0, 1);
                for (char wire : part.substring(1).toCharArray()) {
                    made += word.charAt(1 + wire - 'a');
                }
                result.add(made);
            }
        }
        return result;
    }

    long optimise(int slot) {
        if (noSlot(slot)) {
            return ILLEGAL_ARGUMENT;
        }
        List<String> circuit = slots.get(slot);
        while (rewrite(circuit)) {
            continue;
        }
        return circuit.size();
    }

    private static boolean rewrite(List<String> circuit) {
        for (int i = 0; i < circuit.size(); i++) {
            for (int j = i + 1; j < circuit.size(); j++) {
                String place = together(circuit.get(i), circuit.get(j));
                if (place != null) {
                    circuit.remove(j);
                    circuit.remove(i);
                    if (!place.isEmpty()) {
                        circuit.add(i, place);
                    }
                    return true;
                }
                if (!passes(circuit.get(i), circuit.get(j))) {
                    break;
                }
            }
        }
        return false;
    }

    private static int turns(String word) {
        return switch (word.charAt(0)) {
            case 't' -> 1;
            case 's' -> 2;
            case 'z' -> 4;
            default -> 0;
        };
    }

    /** What comes in place of two gates, or null where they do not meet. */
    private static String together(String one, String two) {
        if (turns(one) > 0 && turns(two) > 0) {
            String wire = one.substring(1);
            if (!wire.equals(two.substring(1))) {
                return null;
            }
            return switch (turns(one) + turns(two)) {
                case 2 -> "s" + wire;
                case 4 -> "z" + wire;
                case 8 -> "";
                default -> null;
            };
        }
        return spelt(one).equals(spelt(two)) && turns(one) == 0 ? "" : null;
    }

    /** The word with wires that may change places in their order. */
    private static String spelt(String word) {
        char letter = word.charAt(0);
        if ((letter == 'd' || letter == 'w' || letter == 'o') && word.charAt(1) > word.charAt(2)) {
            return "" + letter + word.charAt(2) + word.charAt(1) + word.substring(3);
        }
        return word;
    }

    private static boolean passes(String one, String two) {
        boolean common = one.substring(1).chars().anyMatch(wire -> two.indexOf(wire, 1) > 0);
        boolean diagonal = (turns(one) > 0 || one.charAt(0) == 'd') && (turns(two) > 0 || two.charAt(0) == 'd');
        return !common || diagonal || slips(one, two) || slips(two, one);
    }

    private static boolean slips(String small, String large) {
        if (large.charAt(0) != 'c' && large.charAt(0) != 'o') {
            return false;
        }
        String controls = large.substring(1, large.length() - 1);
        String changed = large.substring(large.length() - 1);
        String wire = small.substring(1);
        return turns(small) > 0 && controls.contains(wire) || small.charAt(0) == 'x' && changed.equals(wire);
    }

    /** The first word in the order of letters, and of the shortest, for each of the 24 kinds of rotation. */
    private static List<String> shortestWords() {
        List<String> words = new ArrayList<>(List.of(""));
        List<Num[][]> found = new ArrayList<>();
        found.add(Matrices.one(2));
        for (int i = 0; i < words.size(); i++) {
            for (String letter : List.of("h", "s")) {
                String word = words.get(i) + letter;
                Num[][] m = Matrices.of(spread(word), 1);
                if (found.stream().noneMatch(known -> Matrices.turn(known, m) >= 0)) {
                    words.add(word);
                    found.add(m);
                }
            }
        }
        return words;
    }

    /** Letters as words on wire 0. */
    private static List<String> spread(String letters) {
        List<String> words = new ArrayList<>();
        for (char letter : letters.toCharArray()) {
            words.add(letter + "0");
        }
        return words;
    }

    long least(int slot) {
        if (noSlot(slot)) {
            return ILLEGAL_ARGUMENT;
        }
        List<String> circuit = slots.get(slot);
        for (String word : circuit) {
            if (word.length() != 2 || word.charAt(1) != circuit.get(0).charAt(1)) {
                return ILLEGAL_ARGUMENT;
            }
        }
        StringBuilder letters = new StringBuilder();
        for (String word : circuit) {
            letters.append(word.charAt(0));
        }
        Num[][] m = Matrices.of(spread(letters.toString()), 1);
        String form = leastForm(m);
        if (form.length() > 64) {
            return ILLEGAL_STATE;
        }
        List<String> made = new ArrayList<>();
        for (char letter : form.toCharArray()) {
            made.add("" + letter + circuit.get(0).charAt(1));
        }
        slots.set(slot, made);
        phase = Matrices.turn(m, Matrices.of(spread(form), 1));
        return form.chars().filter(letter -> letter == 't').count();
    }

    /** Takes from the end, again and again, those gates that leave one T less to be needed. */
    private static String leastForm(Num[][] matrix) {
        Num[][] m = matrix;
        String form = "";
        int most = Matrices.countT(m);
        for (int left = most; left > 0; left--) {
            String taken = null;
            for (String end : left == most ? List.of("t", "th", "ths") : List.of("th", "ths")) {
                Num[][] rest = Matrices.times(Matrices.back(Matrices.of(spread(end), 1)), m);
                if (taken == null && Matrices.countT(rest) == left - 1) {
                    taken = end;
                }
            }
            m = Matrices.times(Matrices.back(Matrices.of(spread(taken), 1)), m);
            form = taken + form;
        }
        for (String word : WORDS) {
            if (Matrices.turn(m, Matrices.of(spread(word), 1)) >= 0) {
                return word + form;
            }
        }
        throw new AssertionError("no word");
    }

    private Num[][] matrix(int slot) {
        return Matrices.of(slots.get(slot), wires);
    }

    long equal(int slot, int other) {
        if (noSlot(slot) || noSlot(other)) {
            return ILLEGAL_ARGUMENT;
        }
        int turn = Matrices.turn(matrix(slot), matrix(other));
        if (turn < 0) {
            return 0;
        }
        phase = turn;
        return turn == 0 ? 1 : 2;
    }

    long differ(int slot, int other) {
        if (noSlot(slot) || noSlot(other)) {
            return ILLEGAL_ARGUMENT;
        }
        return Matrices.differ(matrix(slot), matrix(other));
    }

    long state(int slot) {
        if (noSlot(slot)) {
            return ILLEGAL_ARGUMENT;
        }
        Num[][] m = matrix(slot);
        state = new ArrayList<>();
        for (Num[] line : m) {
            state.add(line[0]);
        }
        return scale();
    }

    long scale() {
        return state == null ? -1 : state.stream().mapToInt(Num::k).max().orElseThrow();
    }

    private Num held(int basis) {
        return state.get(basis).withScale((int) scale());
    }

    long amplitude(int basis, int part) {
        if (state == null) {
            return ILLEGAL_STATE;
        }
        if (basis < 0 || basis >= state.size() || part < 0 || part > 3) {
            return OUT_OF_BOUNDS;
        }
        return held(basis).parts()[part];
    }

    long weight(int wire, int value, int part) {
        if (state == null) {
            return ILLEGAL_STATE;
        }
        if (noWire(wire) || value < 0 || value > 1 || part < 0 || part > 1) {
            return OUT_OF_BOUNDS;
        }
        Num sum = Num.ZERO;
        for (int basis = 0; basis < state.size(); basis++) {
            if (basis / (1 << wire) % 2 == value) {
                sum = sum.plus(state.get(basis).times(state.get(basis).conjugate()));
            }
        }
        // p + q times the root of two over 2^scale, and 2^scale is the root to twice as much.
        return sum.withScale(2 * (int) scale()).parts()[part];
    }

    long measure(int wire, int value) {
        if (state == null) {
            return ILLEGAL_STATE;
        }
        if (noWire(wire) || value < 0 || value > 1) {
            return OUT_OF_BOUNDS;
        }
        List<Num> left = new ArrayList<>();
        for (int basis = 0; basis < state.size(); basis++) {
            left.add(basis / (1 << wire) % 2 == value ? state.get(basis) : Num.ZERO);
        }
        if (left.stream().allMatch(Num::isZero)) {
            return 0;
        }
        state = left;
        return 1;
    }

    long row(int slot, int wire) {
        if (noSlot(slot) || noWire(wire)) {
            return ILLEGAL_ARGUMENT;
        }
        if (slots.get(slot).stream().anyMatch(word -> "to".indexOf(word.charAt(0)) >= 0)) {
            return ILLEGAL_STATE;
        }
        Num[][] m = matrix(slot);
        Num[][] due = Matrices.times(Matrices.times(m, Matrices.ofGate("z" + wire, wires)), Matrices.back(m));
        return rows(wires).get(Arrays.deepToString(due));
    }

    private static final Map<Integer, Map<String, Integer>> ROWS = new HashMap<>();

    /** All products of signs on so many wires, by their matrices. */
    private static Map<String, Integer> rows(int wires) {
        if (!ROWS.containsKey(wires)) {
            Map<String, Integer> rows = new HashMap<>();
            for (int told = 0; told < 512; told++) {
                if (told % 256 < 1 << 2 * wires) {
                    rows.put(Arrays.deepToString(Matrices.ofSigns(told, wires)), told);
                }
            }
            ROWS.put(wires, rows);
        }
        return ROWS.get(wires);
    }

    long type(long characters, int n) {
        if (n < 1 || n > 8 || text.length() + n > 320) {
            return -1;
        }
        String hex = String.format("%016x", characters).substring(16 - 2 * n);
        StringBuilder typed = new StringBuilder();
        for (int i = 0; i < n; i++) {
            int sign = Integer.parseInt(hex.substring(2 * i, 2 * i + 2), 16);
            if (sign < 32 || sign > 126) {
                return -1;
            }
            typed.append((char) sign);
        }
        text.append(typed);
        return text.length();
    }

    long print(int slot) {
        if (noSlot(slot)) {
            return ILLEGAL_ARGUMENT;
        }
        text = new StringBuilder(String.join(" ", slots.get(slot)));
        return text.length();
    }

    long character(int i) {
        return i < 0 || i >= text.length() ? -1 : text.charAt(i);
    }

    long read(int slot) {
        if (noSlot(slot)) {
            return ILLEGAL_ARGUMENT;
        }
        int wrong = wrongPlace();
        if (wrong >= 0) {
            place = wrong;
            return ILLEGAL_ARGUMENT;
        }
        List<String> circuit = new ArrayList<>();
        if (text.length() > 0) {
            circuit.addAll(List.of(text.toString().split(" ")));
        }
        slots.set(slot, circuit);
        text.setLength(0);
        return circuit.size();
    }

    /** Goes by characters: what may stand next is told by the word that is being written. */
    private int wrongPlace() {
        if (text.length() == 0) {
            return -1;
        }
        String word = "";
        int words = 0;
        for (int i = 0; i < text.length(); i++) {
            char sign = text.charAt(i);
            boolean whole = isWhole(word);
            if (whole ? sign != ' ' : word.isEmpty() ? words == 64 || LETTERS.indexOf(sign) < 0
                    : noWire(sign - '0') || word.indexOf(sign) > 0) {
                return i;
            }
            words += whole ? 1 : 0;
            word = whole ? "" : word + sign;
        }
        return isWhole(word) ? -1 : text.length();
    }

    private static boolean isWhole(String word) {
        return !word.isEmpty() && word.length() == 1 + needs(LETTERS.indexOf(word.charAt(0)) + 1);
    }
}
