/** Promises 15 to 19: states, what they weigh, measurements. */
public final class StatesTest {
    public static void main(String[] args) {
        state();
        stateIsHeld();
        lowestScale();
        amplitude();
        scale();
        weight();
        measure();
        measureLowers();
        noState();
        manyGates();
        Check.end();
    }

    private static RingCircuits stateOf(int wires, String circuit, int scale, String... amplitudes) {
        RingCircuits lab = Lab.of(wires, circuit);
        Check.due("state(0) of " + circuit, lab.state(0), scale);
        seen(lab, circuit, scale, amplitudes);
        return lab;
    }

    private static void seen(RingCircuits lab, String what, int scale, String... amplitudes) {
        Check.due("scale() of " + what, lab.scale(), scale);
        for (int basis = 0; basis < amplitudes.length; basis++) {
            Check.due("amplitude " + basis + " of " + what, Lab.amplitude(lab, basis), amplitudes[basis]);
        }
    }

    private static final String NO = "0 0 0 0";
    private static final String ONE = "1 0 0 0";
    private static final String MINUS = "-1 0 0 0";

    /** Promise 15. */
    private static void state() {
        stateOf(1, "", 0, ONE, NO);
        stateOf(1, "h0", 1, ONE, ONE);
        stateOf(1, "x0 h0", 1, ONE, MINUS);
        stateOf(1, "x0", 0, NO, ONE);
        stateOf(1, "x0 s0", 0, NO, "0 0 1 0");
        stateOf(1, "x0 t0", 0, NO, "0 1 0 0");
        stateOf(1, "x0 t0 s0", 0, NO, "0 0 0 1");
        stateOf(1, "x0 z0", 0, NO, MINUS);
        stateOf(1, "x0 t0 z0", 0, NO, "0 -1 0 0");
        stateOf(1, "x0 t0 s0 z0", 0, NO, "0 0 0 -1");
        stateOf(1, "t0 s0 z0", 0, ONE, NO);
        stateOf(2, "h0 c01", 1, ONE, NO, NO, ONE);
        stateOf(2, "x0 c01", 0, NO, NO, NO, ONE);
        stateOf(2, "x1 c01", 0, NO, NO, ONE, NO);
        stateOf(2, "x0 w01", 0, NO, NO, ONE, NO);
        stateOf(3, "x2 w21", 0, NO, NO, ONE, NO, NO, NO, NO, NO);
        stateOf(4, "x2 w23", 0, NO, NO, NO, NO, NO, NO, NO, NO, ONE);
        stateOf(2, "h0 h1 d01", 2, ONE, ONE, ONE, MINUS);
        stateOf(3, "x0 x1 o012", 0, NO, NO, NO, NO, NO, NO, NO, ONE);
        stateOf(3, "x0 x2 o012", 0, NO, NO, NO, NO, NO, ONE, NO, NO);
        stateOf(3, "x1 o210", 0, NO, NO, ONE, NO, NO, NO, NO, NO);
        stateOf(4, "x3 h0 c30", 1, NO, NO, NO, NO, NO, NO, NO, NO, ONE, ONE);
        RingCircuits lab = Lab.of(1, "h0");
        lab.state(0);
        Check.argument("state(3)", () -> lab.state(3));
        Check.argument("state(-1)", () -> lab.state(-1));
        seen(lab, "h0 behind what throws", 1, ONE, ONE);
    }

    private static void stateIsHeld() {
        RingCircuits lab = Lab.of(2, "h0");
        Lab.set(lab, 1, "x1");
        lab.state(0);
        lab.gate(0, 1, 0, 0, 0);
        lab.equal(0, 1);
        lab.differ(0, 1);
        lab.clear(0);
        seen(lab, "h0 held", 1, ONE, ONE, NO, NO);
        Check.due("state(1)", lab.state(1), 0);
        seen(lab, "x1", 0, NO, NO, ONE, NO);
    }

    private static void lowestScale() {
        stateOf(1, "h0 h0", 0, ONE, NO);
        stateOf(1, "h0 s0 h0", 1, "0 1 0 0", "0 0 0 -1");
        stateOf(1, "h0 z0 h0", 0, NO, ONE);
        stateOf(1, "h0 t0 h0", 2, "1 1 0 0", "1 -1 0 0");
        stateOf(2, "h0 h1 h0", 1, ONE, NO, ONE, NO);
        // 1 + 2 w - w^2 and 1 + w^2 can both be divided by the root of two.
        stateOf(1, "h0 t0 h0 t0 h0", 2, "1 0 1 -1", "0 1 0 0");
    }

    /** Promise 16. */
    private static void amplitude() {
        RingCircuits lab = Lab.of(2, "h0 t0 h0");
        lab.state(0);
        Check.due("amplitude(1, 1)", lab.amplitude(1, 1), -1);
        Check.due("amplitude(3, 3)", lab.amplitude(3, 3), 0);
        int[][] wrong = {{4, 0}, {-1, 0}, {0, 4}, {0, -1}, {16, 0}, {Integer.MAX_VALUE, 0}, {0, Integer.MIN_VALUE}};
        for (int[] w : wrong) {
            Check.bounds("amplitude(" + w[0] + ", " + w[1] + ")", () -> lab.amplitude(w[0], w[1]));
        }
    }

    /** Promise 17. */
    private static void scale() {
        RingCircuits lab = Lab.of(4, "h0 h1 h2 h3");
        Check.due("scale() of none", lab.scale(), -1);
        lab.state(1);
        Check.due("scale() of basis state 0", lab.scale(), 0);
        lab.state(0);
        Check.due("scale() of 4 H", lab.scale(), 4);
        lab.wires(4);
        Check.due("scale() behind wires", lab.scale(), -1);
    }

    /** Promise 18. */
    private static void weight() {
        RingCircuits lab = Lab.of(2, "h0 t0 h0 c01");
        lab.state(0);
        long[][] due = {{2, 1}, {2, -1}};
        for (int wire = 0; wire < 2; wire++) {
            for (int value = 0; value < 2; value++) {
                for (int part = 0; part < 2; part++) {
                    String call = "weight(" + wire + ", " + value + ", " + part + ")";
                    Check.due(call, lab.weight(wire, value, part), due[value][part]);
                }
            }
        }
        int[][] wrong = {{2, 0, 0}, {-1, 0, 0}, {0, 2, 0}, {0, -1, 0}, {0, 0, 2}, {0, 0, -1}, {4, 0, 0}};
        for (int[] w : wrong) {
            Check.bounds("weight(" + w[0] + ", " + w[1] + ", " + w[2] + ")", () -> lab.weight(w[0], w[1], w[2]));
        }
        lab.measure(1, 1);
        Check.due("weight(0, 0, 0) when measured", lab.weight(0, 0, 0), 0);
        Check.due("weight(0, 1, 0) when measured", lab.weight(0, 1, 0), 2);
        Check.due("weight(0, 1, 1) when measured", lab.weight(0, 1, 1), -1);
        Lab.set(lab, 0, "h0 t0 h0 t0 h0 h1");
        lab.state(0);
        // 1 + w^2 - w^3 and w, each twice.
        Check.due("weight(0, 0, 0)", lab.weight(0, 0, 0), 6);
        Check.due("weight(0, 0, 1)", lab.weight(0, 0, 1), 0);
        Check.due("weight(0, 1, 0)", lab.weight(0, 1, 0), 2);
        Check.due("weight(0, 1, 1)", lab.weight(0, 1, 1), 0);
        Check.due("weight(1, 1, 0)", lab.weight(1, 1, 0), 4);
        Lab.set(lab, 0, "h0 t0 h0 t0 h0 t0 h0 t0 h0");
        lab.state(0);
        Check.due("both together", lab.weight(0, 0, 0) + lab.weight(0, 1, 0), 1L << lab.scale());
        Check.due("both roots together", lab.weight(0, 0, 1) + lab.weight(0, 1, 1), 0);
    }

    /** Promise 19. */
    private static void measure() {
        RingCircuits lab = Lab.of(3, "h0 c01 h2");
        lab.state(0);
        Check.due("measure(0, 1)", lab.measure(0, 1), true);
        seen(lab, "measured", 2, NO, NO, NO, ONE, NO, NO, NO, ONE);
        Check.due("measure(1, 0)", lab.measure(1, 0), false);
        seen(lab, "not measured", 2, NO, NO, NO, ONE, NO, NO, NO, ONE);
        Check.due("measure(1, 1)", lab.measure(1, 1), true);
        Check.due("measure(2, 0)", lab.measure(2, 0), true);
        seen(lab, "measured twice", 2, NO, NO, NO, ONE, NO, NO, NO, NO);
        Check.due("measure(2, 1)", lab.measure(2, 1), false);
        RingCircuits alone = Lab.of(1);
        alone.state(0);
        Check.due("measure(0, 1) of basis state 0", alone.measure(0, 1), false);
        Check.due("measure(0, 0) of basis state 0", alone.measure(0, 0), true);
        RingCircuits widest = Lab.of(4, "x3");
        widest.state(0);
        Check.due("measure(3, 0) of basis state 8", widest.measure(3, 0), false);
        Check.due("measure(0, 1) of basis state 8", widest.measure(0, 1), false);
        Check.due("measure(3, 1) of basis state 8", widest.measure(3, 1), true);
        Check.due("amplitude(8, 0)", widest.amplitude(8, 0), 1);
        int[][] wrong = {{3, 0}, {-1, 0}, {0, 2}, {0, -1}, {4, 0}, {Integer.MAX_VALUE, 1}, {0, Integer.MIN_VALUE}};
        for (int[] w : wrong) {
            Check.bounds("measure(" + w[0] + ", " + w[1] + ")", () -> lab.measure(w[0], w[1]));
        }
        seen(lab, "as before", 2, NO, NO, NO, ONE, NO, NO, NO, NO);
        Check.due("the circuit stays", lab.size(0), 3);
        lab.state(0);
        Check.due("a new state", Lab.amplitude(lab, 4), ONE);
    }

    private static void measureLowers() {
        // H on wire 1 where wire 0 is 1: the other half needs one root of two less.
        String half = "h0 s1 h1 t1 c01 t1 s1 z1 h1 s1 z1";
        RingCircuits lab = stateOf(2, half, 2, "0 1 0 -1", ONE, NO, ONE);
        Check.due("measure(0, 0)", lab.measure(0, 0), true);
        seen(lab, "lowered", 1, ONE, NO, NO, NO);
        RingCircuits stays = stateOf(2, half, 2, "0 1 0 -1", ONE, NO, ONE);
        Check.due("measure(0, 1)", stays.measure(0, 1), true);
        seen(stays, "not lowered", 2, NO, ONE, NO, ONE);
    }

    private static void noState() {
        RingCircuits lab = Lab.of(1, "h0");
        Check.state("amplitude(0, 0) of none", () -> lab.amplitude(0, 0));
        Check.state("amplitude(9, 9) of none", () -> lab.amplitude(9, 9));
        Check.state("weight(0, 0, 0) of none", () -> lab.weight(0, 0, 0));
        Check.state("weight(9, 9, 9) of none", () -> lab.weight(9, 9, 9));
        Check.state("measure(0, 0) of none", () -> lab.measure(0, 0));
        Check.state("measure(9, 9) of none", () -> lab.measure(9, 9));
    }

    private static void manyGates() {
        RingCircuits lab = Lab.of(4, Lab.repeated("h0 h1 h2 h3", 16));
        Check.due("state of 64 H", lab.state(0), 0);
        seen(lab, "64 H", 0, ONE, NO);
        Lab.set(lab, 0, Lab.repeated("h2 t2", 32));
        int scale = lab.state(0);
        for (int wire = 0; wire < 4; wire++) {
            Check.due("all weigh 1", lab.weight(wire, 0, 0) + lab.weight(wire, 1, 0), 1L << scale);
            Check.due("without a root", lab.weight(wire, 0, 1) + lab.weight(wire, 1, 1), 0);
        }
    }
}
