import java.util.ArrayList;
import java.util.List;

/** The edges that the terms of the document name, a test for each sentence. */
public final class TermsEdgesTest {
    private static final int SLOTS = 3;

    public static void main(String[] args) {
        calls();
        numbers();
        wiresAndSlots();
        circuits();
        state();
        text();
        meetings();
        passes();
        optimising();
        inverseAndExpanding();
        leastForm();
        words();
        orderOfExceptions();
        whatThrows();
        Check.end();
    }

    private static void calls() {
        Sentences at = new Sentences("What it is");
        at.test("An object is used for at most 512 calls after it has been made", () -> {
            RingCircuits lab = Lab.of(4, "h0 t1 o012");
            for (int call = 6; call < 512; call++) {
                Check.due("call " + call, lab.append(1, 2), 0);
            }
            Check.due("call 512", lab.gate(0, 9, 3, 2, 1), 4);
        });
    }

    private static void numbers() {
        Sentences at = new Sentences("Terms");
        at.test("w^4 = -1", () -> {
            String[] powers = {"1 0 0 0", "0 1 0 0", "0 0 1 0", "0 0 0 1", "-1 0 0 0", "0 -1 0 0", "0 0 -1 0",
                "0 0 0 -1", "1 0 0 0"};
            RingCircuits lab = Lab.of(1, "x0");
            for (int k = 0; k < powers.length; k++) {
                lab.state(0);
                Check.due("w^" + k, Lab.amplitude(lab, 1), powers[k]);
                lab.gate(0, 3, 0, 0, 0);
            }
        });
        at.test("The root of two is w - w^3", () -> {
            // 1 + w^2 is the root of two times w, and 1 - w^2 the root of two times - w^3.
            RingCircuits lab = Lab.of(1, "h0 s0 h0");
            Check.due("scale of what could be divided", lab.state(0), 1);
            Check.due("1 + w^2", Lab.amplitude(lab, 0), "0 1 0 0");
            Check.due("1 - w^2", Lab.amplitude(lab, 1), "0 0 0 -1");
        });
        at.test("no part, p or q leaves a long here", () -> {
            for (String step : new String[] {"h0 t0", "h0 t0 h1 t1", "h0 h1 c01 t1", "h0 h1 h2 o012", "h3 t3 h2 t3"}) {
                RingCircuits lab = Lab.of(4, Lab.repeated(step, step.length() < 6 ? 32 : 16));
                int scale = lab.state(0);
                for (int wire = 0; wire < 4; wire++) {
                    Check.due("p of " + step, lab.weight(wire, 0, 0) + lab.weight(wire, 1, 0), 1L << scale);
                    Check.due("q of " + step, lab.weight(wire, 0, 1) + lab.weight(wire, 1, 1), 0);
                }
            }
        });
    }

    private static void wiresAndSlots() {
        Sentences at = new Sentences("Terms");
        at.test("WIRES 0 .. n - 1 (n 1 .. 4)", () -> {
            for (int n = 1; n <= 4; n++) {
                int none = n;
                RingCircuits lab = Lab.of(n);
                lab.state(0);
                Check.due("gate on the highest", lab.gate(0, 4, n - 1, 0, 0), 1);
                Check.due("row on the highest", lab.row(0, n - 1), 256 + (3 << 2 * (n - 1)));
                Check.due("weight of the highest", lab.weight(n - 1, 0, 0), 1);
                Check.due("measure of the highest", lab.measure(n - 1, 0), true);
                Check.argument("gate on wire " + n, () -> lab.gate(0, 4, none, 0, 0));
                Check.argument("row on wire " + n, () -> lab.row(0, none));
                Check.bounds("weight of wire " + n, () -> lab.weight(none, 0, 0));
                Check.bounds("measure of wire " + n, () -> lab.measure(none, 0));
            }
            Check.argument("no wire", () -> new RingCircuits().wires(0));
            Check.argument("five wires", () -> new RingCircuits().wires(5));
        });
        at.test("wire 0 the lowest", () -> {
            for (int wire = 0; wire < 4; wire++) {
                RingCircuits lab = Lab.of(4, "x" + wire);
                lab.state(0);
                Check.due("X on " + wire, lab.amplitude(1 << wire, 0), 1);
                Lab.set(lab, 0, "z" + wire);
                Check.due("Z on " + wire, lab.differ(0, 1), 17 << wire);
            }
        });
        at.test("There are SLOTS 0 .. 2, each with a CIRCUIT", () -> {
            RingCircuits lab = Lab.of(1);
            for (int slot = 0; slot < SLOTS; slot++) {
                Lab.set(lab, slot, Lab.repeated("h0", slot + 1));
            }
            for (int slot = 0; slot < SLOTS; slot++) {
                Check.due("size(" + slot + ")", lab.size(slot), slot + 1);
            }
            Check.due("size(-1)", lab.size(-1), RingCircuits.NONE);
            Check.due("size(3)", lab.size(3), RingCircuits.NONE);
        });
    }

    private static void circuits() {
        Sentences at = new Sentences("Terms");
        at.test("at most 64 GATES", () -> {
            RingCircuits lab = Lab.of(1, Lab.repeated("x0", 32));
            Check.due("append to 64", lab.append(0, 0), 64);
            Check.state("gate 65", () -> lab.gate(0, 4, 0, 0, 0));
            Lab.set(lab, 1, "x0");
            Check.state("append to 65", () -> lab.append(0, 1));
            lab.print(0);
            Lab.type(lab, " x0");
            Check.argument("read of 65", () -> lab.read(2));
            Check.due("size of what was read", lab.size(2), 0);
            Check.due("size still", lab.size(0), 64);
            RingCircuits inverted = Lab.of(1, Lab.repeated("x0", 63) + " s0");
            Check.state("inverse of 65", () -> inverted.inverse(0));
            RingCircuits expanded = Lab.of(3, Lab.repeated("x0", 44) + " o012");
            Check.state("expand to 65", () -> expanded.expand(0));
        });
        at.test("has wires that are not the same", () -> {
            RingCircuits lab = Lab.of(4);
            for (int kind = 6; kind <= 9; kind++) {
                for (int wires = 0; wires < 64; wires++) {
                    int k = kind;
                    int a = wires & 3;
                    int b = wires >> 2 & 3;
                    int c = wires >> 4;
                    lab.clear(0);
                    if (a == b || kind == 9 && (a == c || b == c)) {
                        RingCircuits other = Lab.of(4);
                        Check.argument("kind " + k + " on " + a + b + c, () -> other.gate(0, k, a, b, c));
                    } else {
                        Check.due("kind " + k + " on " + a + b + c, lab.gate(0, k, a, b, c), 1);
                    }
                }
            }
        });
        at.test("CLIFFORD circuits have no gates 3 and 9", () -> {
            for (int kind = 1; kind <= 9; kind++) {
                RingCircuits lab = Lab.of(4);
                lab.gate(0, kind, 0, 1, 2);
                if (kind == 3 || kind == 9) {
                    Check.state("row with kind " + kind, () -> lab.row(0, 3));
                } else {
                    Check.due("row with kind " + kind, lab.row(0, 3), 192);
                }
            }
        });
    }

    private static void state() {
        Sentences at = new Sentences("Terms");
        at.test("as low as can be, but not below 0", () -> {
            for (int pairs = 0; pairs <= 32; pairs++) {
                RingCircuits lab = Lab.of(2, Lab.repeated("h1", 2 * pairs).trim());
                Check.due("scale of " + 2 * pairs + " H", lab.state(0), 0);
                Check.due("part 0 of " + 2 * pairs + " H", Lab.amplitude(lab, 0), "1 0 0 0");
            }
        });
        at.test("not each amplitude can be divided by the root of two", () -> {
            // The root of two and 0 on one side, 1 and 1 on the other: the scale stays for these.
            RingCircuits lab = Lab.of(2, "h0 s1 h1 t1 c01 t1 s1 z1 h1 s1 z1");
            Check.due("scale", lab.state(0), 2);
            Check.due("one that can be divided", Lab.amplitude(lab, 0), "0 1 0 -1");
            Check.due("one that can't", Lab.amplitude(lab, 1), "1 0 0 0");
        });
    }

    private static void text() {
        Sentences at = new Sentences("Terms");
        at.test("gates in words with single blanks between them", () -> {
            for (int many = 0; many <= 64; many++) {
                RingCircuits lab = Lab.of(1, Lab.repeated("h0", many));
                Check.due("print of " + many, lab.print(0), many == 0 ? 0 : 3 * many - 1);
                Check.due("the first one", lab.character(0), many == 0 ? -1 : 'h');
                Check.due("the last one", lab.character(3 * many - 2), many == 0 ? -1 : '0');
                Check.due("behind the last one", lab.character(3 * many - 1), -1);
            }
        });
        at.test("and its wires as digits, in their order", () -> {
            RingCircuits lab = Lab.of(4, "h3 s0 t1 x2 z3 c30 d20 w31 o302 o203");
            lab.print(0);
            Check.due("the text", Lab.text(lab), "h3 s0 t1 x2 z3 c30 d20 w31 o302 o203");
        });
    }

    private static void optimised(String circuit, String due) {
        RingCircuits lab = Lab.of(4, circuit);
        lab.optimise(0);
        Check.due("optimised " + circuit, Lab.told(lab, 0), due);
    }

    private static void meetings() {
        Sentences at = new Sentences("Terms");
        at.test("If both have turns, on one wire, and these are 2, 4 or 8 together", () -> {
            String[] kinds = {"t", "s", "z"};
            String[] made = {"s1", "z1", ""};
            for (int i = 0; i < 3; i++) {
                for (int j = 0; j < 3; j++) {
                    String pair = kinds[i] + "1 " + kinds[j] + "1";
                    optimised(pair, i == j ? made[i] : pair);
                    String apart = kinds[i] + "1 " + kinds[j] + "2";
                    optimised(apart, apart);
                }
            }
        });
        at.test("in place of the first comes S or Z (nothing for 8)", () -> {
            optimised("t0 h1 t0 h2", "s0 h1 h2");
            optimised("s0 h1 s0 h2", "z0 h1 h2");
            optimised("z0 h1 z0 h2", "h1 h2");
            String[] turns = {"", "t0", "s0", "s0 t0", "z0", "z0 t0", "z0 s0", "z0 s0 t0"};
            for (int many = 1; many <= 64; many++) {
                optimised(Lab.repeated("t0", many), turns[many % 8]);
            }
        });
        at.test("both CCX with one c and the same a and b in any order", () -> {
            optimised("o012 o012", "");
            optimised("o012 o102", "");
            for (String other : new String[] {"o021", "o120", "o201", "o210", "o013", "o032"}) {
                optimised("o012 " + other, "o012 " + other);
            }
        });
    }

    /** All CX and CCX of four wires. */
    private static List<String> controlled() {
        return Lab.allGates().stream().filter(gate -> gate.startsWith("c") || gate.startsWith("o")).toList();
    }

    private static boolean shareWires(String one, String two) {
        return one.substring(1).chars().anyMatch(wire -> two.indexOf(wire) > 0);
    }

    private static void passes() {
        Sentences at = new Sentences("Terms");
        at.test("(so two of CX, CCX only if they have no wire in common)", () -> {
            Check.due("CX and CCX of four wires", controlled().size(), 12 + 24);
            for (String outer : controlled()) {
                for (String inner : controlled()) {
                    RingCircuits lab = Lab.of(4, outer + " " + inner);
                    if (lab.optimise(0) == 2) {
                        String around = outer + " " + inner + " " + outer;
                        optimised(around, shareWires(outer, inner) ? around : inner);
                    }
                }
            }
        });
        at.test("one of them has turns and its wire is a control (a, or b of CCX) of the other", () -> {
            for (String kind : new String[] {"t", "s", "z"}) {
                String twice = kind.equals("t") ? "s" : "z";
                for (int wire = 0; wire < 3; wire++) {
                    String turn = kind + wire;
                    String made = kind.equals("z") ? "" : twice + wire + " ";
                    String cx = turn + " c02 " + turn;
                    String ccx = turn + " o012 " + turn;
                    optimised(cx, wire == 2 ? cx : made + "c02");
                    optimised(ccx, wire == 2 ? ccx : made + "o012");
                    optimised("c02 " + turn + " c02", wire == 2 ? "c02 " + turn + " c02" : turn);
                    optimised("o012 " + turn + " o012", wire == 2 ? "o012 " + turn + " o012" : turn);
                }
            }
        });
        at.test("one of them is X and its wire is what the other one, CX or CCX, changes", () -> {
            for (int wire = 0; wire < 3; wire++) {
                String x = "x" + wire;
                optimised(x + " o012 " + x, wire == 2 ? "o012" : x + " o012 " + x);
                optimised("o012 " + x + " o012", wire == 2 ? x : "o012 " + x + " o012");
                optimised(x + " c02 " + x, wire == 0 ? x + " c02 " + x : "c02");
                optimised("c02 " + x + " c02", wire == 0 ? "c02 " + x + " c02" : x);
            }
        });
    }

    private static void optimising() {
        Sentences at = new Sentences("Terms");
        at.test("if the two meet, that is done and all begins anew", () -> {
            // Only when H H has gone, the T before them meets the T behind them.
            optimised("t0 h0 h0 t0", "s0");
            optimised("x0 h0 t0 t0 t0 t0 z0 h0 x0", "");
            // The first one takes the second one, not the second the third.
            optimised("t0 t0 t0", "s0 t0");
            optimised("s0 t0 s0 t0", "z0 s0");
        });
        at.test("otherwise, if it does not pass it, the next gate's turn has come", () -> {
            optimised("h0 t0 h0", "h0 t0 h0");
            optimised("h0 t0 t1 h0 t1", "h0 t0 s1 h0");
        });
        at.test("It ends when no two meet", () -> {
            optimised("", "");
            optimised("h0", "h0");
            optimised(Lab.repeated("h0", 64), "");
            optimised(Lab.repeated("h0", 32) + " " + Lab.repeated("x0", 32), "");
            optimised(Lab.repeated("h0 t0", 32), Lab.repeated("h0 t0", 32));
            optimised(Lab.repeated("t0 h0 h0", 21), "z0 t0");
        });
    }

    private static void inverseAndExpanding() {
        Sentences at = new Sentences("Terms");
        at.test("from the last gate to the first, each as it is, but S as S, Z, and T as T, S, Z", () -> {
            RingCircuits lab = Lab.of(3, "h0 s0 t0 x0 z0 c10 d10 w10 o210");
            lab.inverse(0);
            Check.due("inverted", Lab.told(lab, 0), "o210 w10 d10 c10 z0 x0 t0 s0 z0 s0 z0 h0");
            lab.append(1, 0);
            lab.inverse(0);
            lab.append(1, 0);
            Check.due("both together", lab.equal(1, 2), 1);
        });
        at.test("where T' is T, S, Z", () -> {
            for (String gate : controlled()) {
                RingCircuits lab = Lab.of(4, gate);
                Lab.set(lab, 1, gate);
                Check.due("expand of " + gate, lab.expand(0), gate.startsWith("o") ? 21 : 1);
                Check.due("equal behind expand of " + gate, lab.equal(0, 1), 1);
            }
        });
    }

    private static void least(String circuit, String due) {
        RingCircuits lab = Lab.of(1, circuit);
        lab.least(0);
        Check.due("least form of " + circuit, Lab.told(lab, 0), due);
    }

    private static void leastForm() {
        Sentences at = new Sentences("Terms");
        at.test("any number of ROUNDS T, H or T, H, S, then perhaps T", () -> {
            for (int rounds = 0; rounds <= 21; rounds++) {
                for (String end : new String[] {"", " t0"}) {
                    String th = (Lab.repeated("t0 h0", rounds) + end).trim();
                    String ths = (Lab.repeated("t0 h0 s0", rounds) + end).trim();
                    least(th, th);
                    least(ths, ths);
                }
            }
        });
        at.test("It has the fewest T that can be", () -> {
            least("t0 t0", "s0");
            least("t0 x0 t0", "h0 s0 s0 h0");
            least("t0 s0 t0 h0 t0 t0", "s0 s0 h0 s0");
            least("t0 h0 t0", "t0 h0 t0");
            // H Z is X H, and T X is X T S' but for a phase, S' X is X S: in time S, X, T, H, T.
            least("t0 h0 z0 t0", "s0 h0 s0 s0 h0 t0 h0 t0");
        });
    }

    /** The letters of a word of H and S, as a circuit. */
    private static String word(int number, int letters) {
        StringBuilder word = new StringBuilder();
        for (int i = letters - 1; i >= 0; i--) {
            word.append((number >> i & 1) == 0 ? " h0" : " s0");
        }
        return word.toString().trim();
    }

    private static boolean sameButForPhase(String one, String two) {
        RingCircuits lab = Lab.of(1, one);
        Lab.set(lab, 1, two);
        return lab.equal(0, 1) > 0;
    }

    private static void words() {
        Sentences at = new Sentences("Terms");
        at.test("whose word is the shortest, and of these the first one in the order of letters (H before S)", () -> {
            List<String> first = new ArrayList<>();
            for (int letters = 0; letters <= 7; letters++) {
                for (int number = 0; number < 1 << letters; number++) {
                    String word = word(number, letters);
                    String due = word;
                    for (String other : first) {
                        due = sameButForPhase(word, other) ? other : due;
                    }
                    if (due.equals(word)) {
                        first.add(word);
                    }
                    least(word, due);
                }
            }
            Check.due("so many words", first.size(), 24);
        });
    }

    private static void orderOfExceptions() {
        Sentences at = new Sentences("Terms");
        at.test("The exceptions are tested in the order in which they are named", () -> {
            RingCircuits full = Lab.of(3, Lab.repeated("t0", 64));
            Check.argument("no kind, and 64 gates", () -> full.gate(0, 10, 0, 1, 2));
            Check.argument("no wire, and 64 gates", () -> full.gate(0, 1, 3, 1, 2));
            Check.argument("a wire twice, and 64 gates", () -> full.gate(0, 9, 0, 1, 1));
            Check.argument("no slot, and 64 gates", () -> full.append(0, 3));
            Check.argument("no slot before 64 gates", () -> full.append(3, 0));
            Check.argument("no wire, and no Clifford circuit", () -> full.row(0, 3));
            RingCircuits empty = Lab.of(1);
            Check.state("no state, and no basis state", () -> empty.amplitude(2, 0));
            Check.state("no state, and no part of an amplitude", () -> empty.amplitude(0, 4));
            Check.state("no state, and no wire that weighs", () -> empty.weight(1, 0, 0));
            Check.state("no state, and no value that weighs", () -> empty.weight(0, 2, 0));
            Check.state("no state, and no part of a weight", () -> empty.weight(0, 0, 2));
            Check.state("no state, and no wire to measure", () -> empty.measure(1, 0));
            Check.state("no state, and no value to measure", () -> empty.measure(0, 2));
            RingCircuits mixed = Lab.of(2, "x0 z0 " + Lab.repeated("t0 h0", 30) + " t0");
            Check.state("too long a form", () -> mixed.least(0));
            Lab.add(mixed, 0, "h1");
            Check.argument("two wires, and too long a form", () -> mixed.least(0));
        });
    }

    private static void whatThrows() {
        Sentences at = new Sentences("Terms");
        at.test("what throws leaves everything as it was (but the place, by read())", () -> {
            Refused.argument("wires(5)", lab -> lab.wires(5));
            Refused.argument("gate", lab -> lab.gate(0, 9, 0, 1, 3));
            Refused.argument("clear", lab -> lab.clear(3));
            Refused.argument("append", lab -> lab.append(0, 3));
            Refused.argument("inverse", lab -> lab.inverse(3));
            Refused.argument("expand", lab -> lab.expand(3));
            Refused.argument("optimise", lab -> lab.optimise(3));
            Refused.argument("least", lab -> lab.least(0));
            Refused.argument("equal", lab -> lab.equal(0, 3));
            Refused.argument("differ", lab -> lab.differ(0, 3));
            Refused.argument("state", lab -> lab.state(3));
            Refused.bounds("amplitude", lab -> lab.amplitude(8, 0));
            Refused.bounds("weight", lab -> lab.weight(0, 2, 0));
            Refused.bounds("measure", lab -> lab.measure(0, 2));
            Refused.state(Lab.busy(), "row", lab -> lab.row(0, 0));
            Refused.argument("print", lab -> lab.print(3));
            RingCircuits lab = Lab.busy();
            lab.print(1);
            Lab.type(lab, " q");
            String before = Refused.seen(lab);
            Check.argument("read of another wrong text", () -> lab.read(1));
            Check.due("place() of another wrong text", lab.place(), 6);
            Check.due("all but the place", Refused.seen(lab), before.replace("place 3", "place 6"));
        });
    }
}
