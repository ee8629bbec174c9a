/** Promises 1 to 9: new objects, and what puts circuits together. */
public final class CircuitsTest {
    private static final String FULL = Lab.repeated("h0", 64);

    public static void main(String[] args) {
        newObject();
        wires();
        gate();
        gateRefusals();
        size();
        gateAt();
        clear();
        append();
        inverse();
        expand();
        Check.end();
    }

    /** Promise 1. */
    private static void newObject() {
        RingCircuits lab = new RingCircuits();
        Check.due("NONE", RingCircuits.NONE, -1);
        for (int slot = 0; slot < 3; slot++) {
            Check.due("new size", lab.size(slot), 0);
        }
        Check.due("new scale()", lab.scale(), -1);
        Check.due("new character(0)", lab.character(0), -1);
        Check.due("new phase()", lab.phase(), 0);
        Check.due("new place()", lab.place(), -1);
        Check.state("new amplitude(0, 0)", () -> lab.amplitude(0, 0));
        Check.due("new gate on wire 0", lab.gate(0, 1, 0, 0, 0), 1);
        Check.argument("new gate on wire 1", () -> lab.gate(0, 1, 1, 0, 0));
        Check.due("new read(0)", lab.read(0), 0);
    }

    /** Promise 2. */
    private static void wires() {
        RingCircuits lab = Lab.of(4, "o012 t3");
        Lab.set(lab, 1, "h3");
        Lab.set(lab, 2, "t3");
        lab.state(1);
        lab.equal(2, 2);
        Lab.set(lab, 0, "x0 z0 x0 z0");
        Lab.set(lab, 2, "");
        Check.due("equal(0, 2)", lab.equal(0, 2), 2);
        Lab.type(lab, "h0?");
        Check.argument("read(1)", () -> lab.read(1));
        for (int n : new int[] {0, 5, -1, Integer.MIN_VALUE, Integer.MAX_VALUE}) {
            Check.argument("wires(" + n + ")", () -> lab.wires(n));
        }
        Check.due("size(0) as before", lab.size(0), 4);
        Check.due("size(1) as before", lab.size(1), 1);
        Check.due("scale() as before", lab.scale(), 1);
        Check.due("text as before", Lab.text(lab), "h0?");
        Check.due("wire 3 as before", lab.gate(2, 3, 3, 0, 0), 1);
        lab.wires(3);
        for (int slot = 0; slot < 3; slot++) {
            Check.due("size after wires", lab.size(slot), 0);
        }
        Check.due("scale() after wires", lab.scale(), -1);
        Check.state("amplitude after wires", () -> lab.amplitude(0, 0));
        Check.due("text after wires", Lab.text(lab), "");
        Check.due("phase() after wires", lab.phase(), 4);
        Check.due("place() after wires", lab.place(), 2);
        Check.argument("gate on wire 3 of 3", () -> lab.gate(0, 1, 3, 0, 0));
        Check.due("gate on wire 2 of 3", lab.gate(0, 1, 2, 0, 0), 1);
        lab.state(0);
        lab.wires(3);
        Check.due("the same number empties too", lab.size(0) + 10 * lab.scale(), -10);
        lab.wires(1);
        Check.argument("gate on wire 1 of 1", () -> lab.gate(0, 1, 1, 0, 0));
    }

    /** Promise 3. */
    private static void gate() {
        RingCircuits lab = Lab.of(4);
        for (int kind = 1; kind <= 9; kind++) {
            Check.due("gate of kind " + kind, lab.gate(2, kind, 3, 0, 2), kind);
        }
        Check.due("all kinds", Lab.told(lab, 2), "h3 s3 t3 x3 z3 c30 d30 w30 o302");
        Check.due("other slots stay", lab.size(0) + lab.size(1), 0);
        Check.due("b and c not needed", lab.gate(0, 5, 1, -9, 99), 1);
        Check.due("b and c not needed, as a", lab.gate(0, 5, 1, 1, 1), 2);
        Check.due("c not needed", lab.gate(0, 6, 1, 2, 99), 3);
        Check.due("c not needed, as a", lab.gate(0, 8, 1, 2, 1), 4);
        Check.due("c not needed, as b", lab.gate(0, 7, 1, 2, 2), 5);
        Check.due("they leave nothing", Lab.told(lab, 0), "z1 z1 c12 w12 d12");
        Check.due("gateAt of one", lab.gateAt(0, 0), 15);
        Check.due("gateAt of two", lab.gateAt(0, 2), 216);
        Lab.set(lab, 1, Lab.repeated("t1", 63));
        Check.due("gate 64", lab.gate(1, 9, 0, 1, 2), 64);
        Check.state("gate 65", () -> lab.gate(1, 9, 0, 1, 2));
        Check.argument("gate 65, no such kind", () -> lab.gate(1, 10, 0, 1, 2));
        Check.argument("gate 65, wire twice", () -> lab.gate(1, 9, 0, 1, 1));
        Check.due("still 64", lab.size(1), 64);
    }

    private static void gateRefusals() {
        RingCircuits lab = Lab.of(3);
        int[][] wrong = {
            {3, 1, 0, 0, 0}, {-1, 1, 0, 0, 0}, {0, 0, 0, 1, 2}, {0, -1, 0, 1, 2}, {0, 10, 0, 1, 2},
            {0, Integer.MAX_VALUE, 0, 1, 2}, {Integer.MIN_VALUE, 1, 0, 1, 2}, {0, 1, 3, 0, 0}, {0, 1, -1, 0, 0},
            {0, 1, Integer.MIN_VALUE, 0, 0}, {0, 6, 3, 0, 0}, {0, 6, 0, 3, 0}, {0, 6, -1, 0, 0}, {0, 6, 0, -1, 0},
            {0, 6, 1, 1, 0}, {0, 7, 2, 2, 0}, {0, 8, 0, 0, 1}, {0, 8, 0, Integer.MAX_VALUE, 1}, {0, 9, 3, 1, 2},
            {0, 9, 0, 3, 2}, {0, 9, 0, 1, 3}, {0, 9, 0, 1, -1}, {0, 9, 0, 0, 1}, {0, 9, 0, 1, 0}, {0, 9, 1, 0, 0},
        };
        for (int[] w : wrong) {
            String call = "gate(" + w[0] + ", " + w[1] + ", " + w[2] + ", " + w[3] + ", " + w[4] + ")";
            Check.argument(call, () -> lab.gate(w[0], w[1], w[2], w[3], w[4]));
        }
        Check.due("nothing came in", lab.size(0), 0);
    }

    /** Promise 4. */
    private static void size() {
        RingCircuits lab = Lab.of(2, "h0 c01");
        Lab.set(lab, 2, "x1");
        Check.due("size(0)", lab.size(0), 2);
        Check.due("size(1)", lab.size(1), 0);
        Check.due("size(2)", lab.size(2), 1);
        for (int slot : new int[] {-1, 3, Integer.MIN_VALUE, Integer.MAX_VALUE}) {
            Check.due("size(" + slot + ")", lab.size(slot), -1);
        }
    }

    /** Promise 5. */
    private static void gateAt() {
        RingCircuits lab = Lab.of(4, "o321 c30 h2");
        Check.due("gateAt(0, 0)", lab.gateAt(0, 0), 1239);
        Check.due("gateAt(0, 1)", lab.gateAt(0, 1), 36);
        Check.due("gateAt(0, 2)", lab.gateAt(0, 2), 21);
        for (int i : new int[] {-1, 3, 64, Integer.MIN_VALUE, Integer.MAX_VALUE}) {
            Check.due("gateAt(0, " + i + ")", lab.gateAt(0, i), -1);
        }
        Check.due("gateAt(1, 0)", lab.gateAt(1, 0), -1);
        Check.due("gateAt(3, 0)", lab.gateAt(3, 0), -1);
        Check.due("gateAt(-1, 0)", lab.gateAt(-1, 0), -1);
        lab.clear(0);
        Check.due("gateAt(0, 0) of none left", lab.gateAt(0, 0), -1);
    }

    /** Promise 6. */
    private static void clear() {
        RingCircuits lab = Lab.of(1, "h0");
        Lab.set(lab, 1, "s0");
        Lab.set(lab, 2, "t0");
        lab.state(0);
        Lab.type(lab, "x");
        Check.argument("clear(3)", () -> lab.clear(3));
        Check.argument("clear(-1)", () -> lab.clear(-1));
        Check.due("all stay", lab.size(0) + lab.size(1) + lab.size(2), 3);
        lab.clear(1);
        Check.due("size(0)", lab.size(0), 1);
        Check.due("size(1)", lab.size(1), 0);
        Check.due("size(2)", lab.size(2), 1);
        lab.clear(1);
        lab.clear(0);
        Check.due("size(0) then", lab.size(0), 0);
        Check.due("the state stays", lab.scale(), 1);
        Check.due("the text stays", Lab.text(lab), "x");
    }

    /** Promise 7. */
    private static void append() {
        RingCircuits lab = Lab.of(2, "h0 c01");
        Lab.set(lab, 1, "s1 t0 x1");
        Check.due("append(0, 1)", lab.append(0, 1), 5);
        Check.due("slot", Lab.told(lab, 0), "h0 c01 s1 t0 x1");
        Check.due("other", Lab.told(lab, 1), "s1 t0 x1");
        Check.due("append(1, 1)", lab.append(1, 1), 6);
        Check.due("itself", Lab.told(lab, 1), "s1 t0 x1 s1 t0 x1");
        Check.due("append(2, 0)", lab.append(2, 0), 5);
        Lab.set(lab, 2, "");
        Check.due("append(0, 2)", lab.append(0, 2), 5);
        Check.argument("append(3, 0)", () -> lab.append(3, 0));
        Check.argument("append(0, 3)", () -> lab.append(0, 3));
        Check.argument("append(-1, 0)", () -> lab.append(-1, 0));
        Check.argument("append(0, -1)", () -> lab.append(0, -1));
        Lab.set(lab, 0, Lab.repeated("h0", 32));
        Check.due("append to 64", lab.append(0, 0), 64);
        Check.due("append none to 64", lab.append(0, 2), 64);
        Check.due("append 64 to none", lab.append(2, 0), 64);
        Check.state("append 64 to 64", () -> lab.append(0, 0));
        Lab.set(lab, 1, "x0");
        Check.state("append 64 to 1", () -> lab.append(1, 0));
        Check.state("append 1 to 64", () -> lab.append(0, 1));
        Check.argument("append(0, 3) when full", () -> lab.append(0, 3));
        Check.due("as before", Lab.told(lab, 0), FULL);
        Check.due("as before too", Lab.told(lab, 1), "x0");
    }

    /** Promise 8. */
    private static void inverse() {
        RingCircuits lab = Lab.of(3, "h0 s1 t2 x0 z1 c01 d12 w02 o120");
        Check.due("inverse(0)", lab.inverse(0), 12);
        Check.due("inverted", Lab.told(lab, 0), "o120 w02 d12 c01 z1 x0 t2 s2 z2 s1 z1 h0");
        Check.due("inverse(1) of none", lab.inverse(1), 0);
        Check.argument("inverse(3)", () -> lab.inverse(3));
        Check.argument("inverse(-1)", () -> lab.inverse(-1));
        Lab.set(lab, 0, Lab.repeated("s0", 32));
        Check.due("inverse of 32 S", lab.inverse(0), 64);
        Check.due("inverse of 32 S", Lab.told(lab, 0), Lab.repeated("s0 z0", 32));
        Check.state("inverse of 32 S and 32 Z", () -> lab.inverse(0));
        Check.due("as before", Lab.told(lab, 0), Lab.repeated("s0 z0", 32));
        Lab.set(lab, 0, Lab.repeated("t1", 21) + " x0");
        Check.due("inverse of 21 T and X", lab.inverse(0), 64);
        Lab.set(lab, 0, Lab.repeated("t1", 21) + " s0");
        Check.state("inverse of 21 T and S", () -> lab.inverse(0));
        Check.due("as before too", Lab.told(lab, 0), Lab.repeated("t1", 21) + " s0");
        Lab.set(lab, 0, FULL);
        Check.due("inverse of 64 H", lab.inverse(0), 64);
    }

    /** Promise 9. */
    private static void expand() {
        RingCircuits lab = Lab.of(4, "h3 o201 x0");
        Check.due("expand(0)", lab.expand(0), 23);
        Check.due("expanded", Lab.told(lab, 0),
                "h3 h1 c01 t1 s1 z1 c21 t1 c01 t1 s1 z1 c21 t0 t1 h1 c20 t2 t0 s0 z0 c20 x0");
        Check.due("expand(0) again", lab.expand(0), 23);
        Check.due("expand(1) of none", lab.expand(1), 0);
        Check.argument("expand(3)", () -> lab.expand(3));
        Check.argument("expand(-1)", () -> lab.expand(-1));
        Lab.set(lab, 0, "o012 o123 o230 t0");
        Check.due("expand to 64", lab.expand(0), 64);
        Lab.set(lab, 0, "o012 o123 o230 t0 t1");
        Check.state("expand to 65", () -> lab.expand(0));
        Check.due("as before", Lab.told(lab, 0), "o012 o123 o230 t0 t1");
        Lab.set(lab, 0, Lab.repeated("o012", 64));
        Check.state("expand 64", () -> lab.expand(0));
        Lab.set(lab, 0, FULL);
        Check.due("expand of 64 H", lab.expand(0), 64);
        Lab.set(lab, 0, "o012 o321");
        Lab.set(lab, 1, "o012 o321");
        lab.expand(0);
        Check.due("the matrix is the same", lab.equal(0, 1), 1);
    }
}
