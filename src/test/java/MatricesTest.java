/** Promises 12 to 14: equality of circuits, with a phase and without, and where they differ. */
public final class MatricesTest {
    public static void main(String[] args) {
        equal();
        equalRefusals();
        phase();
        phases();
        differ();
        identities();
        manyGates();
        Check.end();
    }

    private static void compared(int wires, String one, String two, int equal, int phase, int differ) {
        RingCircuits lab = Lab.of(wires, one);
        Lab.set(lab, 1, two);
        String pair = "'" + one + "' and '" + two + "'";
        Check.due("equal of " + pair, lab.equal(0, 1), equal);
        Check.due("phase of " + pair, lab.phase(), phase);
        Check.due("differ of " + pair, lab.differ(0, 1), differ);
        Check.due("the circuits stay, " + pair, Lab.told(lab, 0) + "|" + Lab.told(lab, 1), one + "|" + two);
    }

    /** Promise 12. */
    private static void equal() {
        compared(2, "", "", 1, 0, -1);
        compared(1, "h0 h0", "", 1, 0, -1);
        compared(1, "t0 t0", "s0", 1, 0, -1);
        compared(1, "z0", "s0", 0, 0, 17);
        // X Z is -1 Z X, and S X S X is w^2.
        compared(1, "x0 z0", "z0 x0", 2, 4, 1);
        compared(1, "s0 x0 s0 x0", "", 2, 2, 0);
        compared(1, "", "s0 x0 s0 x0", 2, 6, 0);
        compared(2, "c01", "c10", 0, 0, 17);
        compared(2, "h1 d01 h1", "c01", 1, 0, -1);
        compared(3, "w02", "c02 c20 c02", 1, 0, -1);
        compared(3, "o012", "o102", 1, 0, -1);
        compared(4, "h3", "", 0, 0, 0);
        RingCircuits lab = Lab.of(1, "t0");
        Check.due("equal to itself", lab.equal(0, 0), 1);
        // The columns of basis state 0 are alike: only the later ones tell.
        compared(2, "t0", "", 0, 0, 17);
        compared(4, "o012", "", 0, 0, 51);
        compared(4, "d23", "", 0, 0, 204);
        compared(4, "x3 x2 x1 x0 d01 x0 x1 x2 x3", "z0", 0, 0, 0);
        // Here the first column has a phase that the others have not.
        compared(1, "x0 z0 x0", "", 0, 0, 0);
    }

    private static void equalRefusals() {
        RingCircuits lab = Lab.of(1, "x0 z0 x0 z0");
        lab.equal(0, 1);
        Check.argument("equal(3, 0)", () -> lab.equal(3, 0));
        Check.argument("equal(0, 3)", () -> lab.equal(0, 3));
        Check.argument("equal(-1, 0)", () -> lab.equal(-1, 0));
        Check.argument("equal(0, -1)", () -> lab.equal(0, -1));
        Check.due("phase() as before", lab.phase(), 4);
        Check.argument("differ(3, 0)", () -> lab.differ(3, 0));
        Check.argument("differ(0, 3)", () -> lab.differ(0, 3));
        Check.argument("differ(-1, 0)", () -> lab.differ(-1, 0));
        Check.argument("differ(0, -1)", () -> lab.differ(0, -1));
    }

    /** Promise 13. */
    private static void phase() {
        RingCircuits lab = Lab.of(1, "t0 x0 t0 x0");
        Check.due("phase() at first", lab.phase(), 0);
        lab.equal(0, 1);
        Check.due("phase() of w", lab.phase(), 1);
        lab.equal(1, 0);
        Check.due("phase() the other way", lab.phase(), 7);
        Lab.set(lab, 2, "h0");
        Check.due("equal(2, 0)", lab.equal(2, 0), 0);
        Check.due("phase() stays where they are not equal", lab.phase(), 7);
        lab.differ(0, 1);
        Check.due("phase() stays with differ", lab.phase(), 7);
        Lab.set(lab, 2, "s0 h0 s0 h0 s0 h0");
        Check.due("equal(2, 0)", lab.equal(2, 0), 1);
        Check.due("phase() of the same", lab.phase(), 0);
        lab.equal(0, 1);
        lab.least(2);
        Check.due("phase() of least", lab.phase(), 1);
        lab.wires(2);
        Check.due("phase() stays with wires", lab.phase(), 1);
    }

    private static void phases() {
        RingCircuits lab = Lab.of(4);
        for (int k = 0; k < 8; k++) {
            Check.due("equal with " + k, lab.equal(0, 1), k == 0 ? 1 : 2);
            Check.due("phase() with " + k, lab.phase(), k);
            Check.due("equal the other way with " + k, lab.equal(1, 0), k == 0 ? 1 : 2);
            Check.due("phase() the other way with " + k, lab.phase(), (8 - k) % 8);
            Lab.add(lab, 0, "t3 x3 t3 x3");
        }
        Check.due("equal with 8", lab.equal(0, 1), 1);
    }

    /** Promise 14. */
    private static void differ() {
        compared(4, "z3", "", 0, 0, 16 * 8 + 8);
        compared(4, "c32", "", 0, 0, 16 * 8 + 8);
        compared(4, "c32", "c32 z0", 0, 0, 17);
        // Column 1 of X is 0, but row 0 comes before row 1, where SX has 0 too.
        compared(1, "x0", "x0 s0", 0, 0, 1);
        compared(2, "h0", "h0 z1", 0, 0, 34);
        compared(2, "h0 h1", "h0 h1 s0", 0, 0, 1);
        compared(2, "w01", "", 0, 0, 17);
        // One has scale 2, the other 0; the first entries that are alike have another form in each.
        compared(2, "h0 h1 h1", "h0 t0 s0 z0 t0", 1, 0, -1);
        compared(2, "h0 t0 h0 h0 s0 z0 t0 h0", "t1", 0, 0, 34);
    }

    private static void identities() {
        compared(2, "h0 h1 c01 h0 h1", "c10", 1, 0, -1);
        compared(3, "h2 o012 h2", "h1 o021 h1", 1, 0, -1);
        compared(4, "c01 c12 c01 c12", "c02", 1, 0, -1);
        compared(1, "h0 s0 s0 h0", "x0", 1, 0, -1);
        compared(1, "h0 s0 h0", "s0 s0 s0 h0 s0 s0 s0", 2, 1, 0);
    }

    /** 64 H and T by turns, the highest scales that there are. */
    private static void manyGates() {
        String half = Lab.repeated("h3 t3", 16);
        RingCircuits lab = Lab.of(4, half);
        Lab.set(lab, 1, "");
        lab.append(0, 0);
        Check.due("equal(0, 1)", lab.equal(0, 1), 0);
        Lab.set(lab, 1, Lab.repeated("h3 t3", 31) + " h3");
        Lab.set(lab, 2, "t3");
        lab.append(1, 2);
        Check.due("equal(0, 1) of the same", lab.equal(0, 1), 1);
        Lab.set(lab, 2, Lab.repeated("h0", 64));
        Lab.set(lab, 1, "");
        Check.due("64 H", lab.equal(2, 1), 1);
        Check.due("64 H against H", lab.differ(2, 1), -1);
        Lab.set(lab, 1, "h1");
        Check.due("64 H against one", lab.differ(2, 1), 0);
    }
}
