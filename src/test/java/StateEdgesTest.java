/** The edges that promises 15 to 20 name, a test for each sentence. */
public final class StateEdgesTest {
    private static final int LEAST = Integer.MIN_VALUE;
    private static final int MOST = Integer.MAX_VALUE;
    private static final String NO = "0 0 0 0";
    private static final String ONE = "1 0 0 0";

    public static void main(String[] args) {
        state();
        amplitude();
        scale();
        weight();
        weightRefusals();
        measure();
        measureRefusals();
        row();
        rowRefusals();
        Check.end();
    }

    /** The state that a circuit makes. */
    private static RingCircuits stateOf(int wires, String circuit) {
        RingCircuits lab = Lab.of(wires, circuit);
        lab.state(0);
        return lab;
    }

    /** Gates in all slots, a text, but no state. */
    private static RingCircuits stateless() {
        RingCircuits lab = Lab.of(3, "h0 t0 h0 c01 h2");
        Lab.set(lab, 1, "t1 h1");
        Lab.set(lab, 2, "s0 x1 o012");
        Lab.type(lab, "h0 q");
        return lab;
    }

    private static void state() {
        Sentences at = new Sentences("Promise 15: state");
        at.test("The state becomes what a circuit makes of basis state 0", () -> {
            for (int wires = 1; wires <= 4; wires++) {
                RingCircuits lab = stateOf(wires, "");
                Check.due("amplitude 0 of none", Lab.amplitude(lab, 0), ONE);
                for (int basis = 1; basis < 1 << wires; basis++) {
                    Check.due("amplitude " + basis + " of none", Lab.amplitude(lab, basis), NO);
                }
            }
            RingCircuits lab = Lab.busy();
            lab.state(2);
            Check.due("nothing is left of the state before", Lab.amplitude(lab, 0), NO);
            Check.due("the new one", Lab.amplitude(lab, 2), ONE);
        });
        at.test("its scale", () -> {
            Check.due("state of none", Lab.of(4).state(0), 0);
            Check.due("state of 64 H that go", Lab.of(4, Lab.repeated("h0", 64)).state(0), 0);
            Check.due("state of 63 of them", Lab.of(4, Lab.repeated("h0", 63)).state(0), 1);
            Check.due("state of H on all wires", Lab.of(4, "h0 h1 h2 h3").state(0), 4);
        });
        at.test("IllegalArgumentException when there is no such slot", () -> {
            for (int slot : Refused.NO_SLOTS) {
                Refused.argument("state(" + slot + ")", lab -> lab.state(slot));
                Refused.argument(stateless(), "state(" + slot + ") before any", lab -> lab.state(slot));
            }
        });
    }

    private static void amplitude() {
        Sentences at = new Sentences("Promise 16: amplitude");
        at.test("Part 0 .. 3 of the amplitude of a basis state", () -> {
            RingCircuits lab = stateOf(4, "x0 x1 x2 x3");
            for (int part = 0; part < 4; part++) {
                Check.due("part " + part + " of the last one", lab.amplitude(15, part), part == 0 ? 1 : 0);
                Check.due("part " + part + " of the first one", lab.amplitude(0, part), 0);
            }
            RingCircuits last = stateOf(4, "x0 x1 x2 x3 t0 s0");
            Check.due("the last part of the last one", last.amplitude(15, 3), 1);
        });
        at.test("IllegalStateException when there is no state", () ->
                Refused.state(stateless(), "amplitude of no state", lab -> lab.amplitude(0, 0)));
        at.test("IndexOutOfBoundsException when there is no such basis state or part", () -> {
            for (int basis : new int[] {8, -1, 16, 1 << 30, LEAST, MOST}) {
                Refused.bounds("amplitude(" + basis + ", 0)", lab -> lab.amplitude(basis, 0));
            }
            for (int part : new int[] {4, -1, LEAST, MOST}) {
                Refused.bounds("amplitude(0, " + part + ")", lab -> lab.amplitude(0, part));
                Refused.bounds("amplitude(7, " + part + ")", lab -> lab.amplitude(7, part));
            }
            for (int wires = 1; wires <= 4; wires++) {
                RingCircuits lab = stateOf(wires, "");
                int none = 1 << wires;
                Check.bounds("basis state " + none + " of " + wires + " wires", () -> lab.amplitude(none, 0));
            }
        });
    }

    private static void scale() {
        Sentences at = new Sentences("Promise 17: scale");
        at.test("NONE when there is no state", () -> {
            RingCircuits lab = stateless();
            Check.due("scale() before any", lab.scale(), RingCircuits.NONE);
            lab.state(0);
            Check.due("scale() of one", lab.scale(), 3);
            lab.state(2);
            Check.due("scale() of a basis state", lab.scale(), 0);
            lab.wires(3);
            Check.due("scale() behind wires", lab.scale(), RingCircuits.NONE);
        });
    }

    private static void weighs(RingCircuits lab, int wire, int value, long p, long q) {
        String call = "weight(" + wire + ", " + value + ", ";
        Check.due(call + "0)", lab.weight(wire, value, 0), p);
        Check.due(call + "1)", lab.weight(wire, value, 1), q);
    }

    private static void weight() {
        Sentences at = new Sentences("Promise 18: weight");
        at.test("What the basis states weigh in which a wire is 0 or 1", () -> {
            for (int wire = 0; wire < 4; wire++) {
                RingCircuits lab = stateOf(4, "x" + wire);
                for (int other = 0; other < 4; other++) {
                    weighs(lab, other, 0, other == wire ? 0 : 1, 0);
                    weighs(lab, other, 1, other == wire ? 1 : 0, 0);
                }
            }
        });
        at.test("part 0 is p, part 1 is q, over 2^scale", () -> {
            // 1 + w and 1 - w over 2: q is 1 and -1.
            RingCircuits lab = stateOf(1, "h0 t0 h0");
            weighs(lab, 0, 0, 2, 1);
            weighs(lab, 0, 1, 2, -1);
            // w + w^2 and w - w^2, and with one T more w^2 + w^3 and w^2 - w^3.
            RingCircuits turned = stateOf(2, "x1 t1 h0 t0 h0");
            weighs(turned, 0, 0, 2, 1);
            weighs(turned, 0, 1, 2, -1);
            RingCircuits more = stateOf(2, "x1 t1 t1 h0 t0 h0");
            weighs(more, 0, 0, 2, 1);
            weighs(more, 0, 1, 2, -1);
            // w^3 + w^4, that is w^3 - 1: here - da counts.
            RingCircuits round = stateOf(2, "x1 t1 t1 t1 h0 t0 h0");
            weighs(round, 0, 0, 2, 1);
            weighs(round, 0, 1, 2, -1);
        });
    }

    private static void weightRefusals() {
        Sentences at = new Sentences("Promise 18: weight");
        at.test("IllegalStateException when there is no state", () ->
                Refused.state(stateless(), "weight of no state", lab -> lab.weight(0, 0, 0)));
        at.test("IndexOutOfBoundsException when there is no such wire, value or part", () -> {
            for (int wire : new int[] {3, -1, 4, 32, LEAST, MOST}) {
                Refused.bounds("weight of wire " + wire, lab -> lab.weight(wire, 0, 0));
            }
            for (int none : new int[] {2, -1, LEAST, MOST}) {
                Refused.bounds("weight of value " + none, lab -> lab.weight(2, none, 0));
                Refused.bounds("weight of part " + none, lab -> lab.weight(2, 1, none));
            }
        });
    }

    private static void measure() {
        Sentences at = new Sentences("Promise 19: measure");
        at.test("the amplitudes of all basis states in which it has not this value become 0", () -> {
            for (int wire = 0; wire < 4; wire++) {
                for (int value = 0; value < 2; value++) {
                    RingCircuits lab = stateOf(4, "h0 h1 h2 h3");
                    Check.due("measure(" + wire + ", " + value + ")", lab.measure(wire, value), true);
                    for (int basis = 0; basis < 16; basis++) {
                        boolean stays = (basis >> wire) % 2 == value;
                        Check.due("amplitude " + basis, Lab.amplitude(lab, basis), stays ? ONE : NO);
                    }
                }
            }
        });
        at.test("(others stay as they are, but the scale becomes as low as can be)", () -> {
            // H on wire 1 where wire 0 is 1: the other half needs one root of two less.
            String half = "h0 s1 h1 t1 c01 t1 s1 z1 h1 s1 z1";
            RingCircuits lowered = stateOf(2, half);
            Check.due("scale() of both halves", lowered.scale(), 2);
            lowered.measure(0, 0);
            Check.due("scale() of the half without H", lowered.scale(), 1);
            Check.due("its amplitude", Lab.amplitude(lowered, 0), ONE);
            RingCircuits held = stateOf(2, half);
            held.measure(0, 1);
            Check.due("scale() of the half with H", held.scale(), 2);
            RingCircuits low = stateOf(1, "x0");
            Check.due("measure of a basis state", low.measure(0, 1), true);
            Check.due("scale() of a basis state", low.scale(), 0);
        });
        at.test("false, and nothing is done, when those that would stay are all 0", () -> {
            for (int wire = 0; wire < 4; wire++) {
                int one = wire;
                // The last part of one amplitude is all that there is.
                RingCircuits lab = stateOf(4, "x" + one + " t" + one + " s" + one);
                Refused.stays(lab, "measure of 0", seen -> Check.due("where 1 is", seen.measure(one, 0), false));
                Refused.stays(lab, "measure of 1", seen -> Check.due("where 1 is", seen.measure(one, 1), true));
            }
            RingCircuits lab = stateOf(2, "h0 c01");
            lab.measure(0, 1);
            Refused.stays(lab, "the other value", seen -> Check.due("wire 1 as wire 0", seen.measure(1, 0), false));
        });
    }

    private static void measureRefusals() {
        Sentences at = new Sentences("Promise 19: measure");
        at.test("IllegalStateException when there is no state", () ->
                Refused.state(stateless(), "measure of no state", lab -> lab.measure(0, 0)));
        at.test("IndexOutOfBoundsException when there is no such wire or value", () -> {
            for (int wire : new int[] {3, -1, 4, 32, LEAST, MOST}) {
                Refused.bounds("measure of wire " + wire, lab -> lab.measure(wire, 0));
            }
            for (int value : new int[] {2, -1, LEAST, MOST}) {
                Refused.bounds("measure of value " + value, lab -> lab.measure(2, value));
            }
        });
    }

    private static void row() {
        Sentences at = new Sentences("Promise 20: row");
        at.test("from the lowest digit on, for each wire 0 (nothing), 1 (X), 2 (Y = iXZ) or 3 (Z), in base 4", () -> {
            for (int wire = 0; wire < 4; wire++) {
                int digit = 1 << 2 * wire;
                Check.due("row of none", Lab.of(4).row(0, wire), 3 * digit);
                Check.due("row of H", Lab.of(4, "h" + wire).row(0, wire), digit);
                Check.due("row of H S", Lab.of(4, "h" + wire + " s" + wire).row(0, wire), 2 * digit);
            }
            Check.due("Z on all wires", Lab.of(4, "c03 c13 c23").row(0, 3), 255);
        });
        at.test("and 256 more when it is with -1", () -> {
            Check.due("row of X", Lab.of(1, "x0").row(0, 0), 256 + 3);
            Check.due("row of X X", Lab.of(1, "x0 x0").row(0, 0), 3);
            Check.due("row of X X X", Lab.of(1, "x0 x0 x0").row(0, 0), 256 + 3);
            Check.due("Z on all wires, and -1", Lab.of(4, "x3 c03 c13 c23").row(0, 3), 256 + 255);
            Check.due("-1 from two wires", Lab.of(4, "c03 c13 c23 x0 x1").row(0, 3), 255);
        });
    }

    private static void rowRefusals() {
        Sentences at = new Sentences("Promise 20: row");
        at.test("IllegalArgumentException when there is no such slot or wire", () -> {
            for (int slot : Refused.NO_SLOTS) {
                Refused.argument("row of slot " + slot, lab -> lab.row(slot, 0));
            }
            for (int wire : new int[] {3, -1, 4, 32, LEAST, MOST}) {
                Refused.argument("row of wire " + wire, lab -> lab.row(1, wire));
            }
            Check.argument("row of wire 1 of one", () -> Lab.of(1).row(0, 1));
            Check.due("row of wire 3 of four", Lab.of(4).row(0, 3), 192);
        });
        at.test("IllegalStateException when it is no Clifford circuit", () -> {
            Refused.state(Lab.busy(), "row with T", lab -> lab.row(0, 2));
            Refused.state(Lab.busy(), "row with CCX", lab -> lab.row(2, 0));
            Refused.state(Lab.of(1, Lab.repeated("h0", 63) + " t0"), "row with T at the end", lab -> lab.row(0, 0));
            Refused.state(Lab.of(1, "t0 t0"), "row of two T", lab -> lab.row(0, 0));
            Check.due("all other kinds", Lab.of(2, "h0 s0 x0 z0 c01 d01 w01").row(0, 1), 15);
        });
    }
}
