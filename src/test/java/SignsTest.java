/** Promise 20: rows of signs. */
public final class SignsTest {
    private static final int MINUS = 256;

    public static void main(String[] args) {
        singleGates();
        twoWires();
        allKinds();
        refusals();
        Check.end();
    }

    /** The digits of a product, wire 0 first: 0, X, Y, Z. */
    private static int product(String signs) {
        int number = 0;
        for (int wire = 0; wire < signs.length(); wire++) {
            number += "0XYZ".indexOf(signs.charAt(wire)) << 2 * wire;
        }
        return number;
    }

    private static void row(String circuit, int wire, int due) {
        RingCircuits lab = Lab.of(4, circuit);
        Check.due("row of '" + circuit + "' on " + wire, lab.row(0, wire), due);
        Check.due("the circuit stays", Lab.told(lab, 0), circuit);
    }

    private static void singleGates() {
        row("", 0, product("Z"));
        row("", 3, product("000Z"));
        row("h0", 0, product("X"));
        row("h0", 1, product("0Z"));
        row("s0", 0, product("Z"));
        row("h0 s0", 0, product("Y"));
        row("h0 s0 s0", 0, product("X") + MINUS);
        row("h0 s0 s0 s0", 0, product("Y") + MINUS);
        row("h0 s0 h0", 0, product("Y") + MINUS);
        row("x0", 0, product("Z") + MINUS);
        row("z0", 0, product("Z"));
        row("h0 x0", 0, product("X"));
        row("h0 z0", 0, product("X") + MINUS);
        row("h0 s0 x0", 0, product("Y") + MINUS);
        row("h0 s0 z0", 0, product("Y") + MINUS);
        row("h3 s3", 3, product("000Y"));
        row("h0 s0 s0 s0 s0", 0, product("X"));
        row("h0 z0 z0", 0, product("X"));
        row("h0 z0 h0 x0", 0, product("Z"));
        row("x0 x0", 0, product("Z"));
    }

    private static void twoWires() {
        row("c01", 0, product("Z"));
        row("c01", 1, product("ZZ"));
        row("h0 c01", 0, product("XX"));
        row("h1 c01", 1, product("0X"));
        row("h0 s0 c01", 0, product("YX"));
        row("h1 s1 c01", 1, product("ZY"));
        // X Z becomes -Y Y, and Y Y becomes -X Z.
        row("h0 d01 c01", 0, product("YY") + MINUS);
        row("h0 c01 s0 s1 c01", 0, product("XZ") + MINUS);
        row("d01", 0, product("Z"));
        row("h0 d01", 0, product("XZ"));
        row("h1 d01", 1, product("ZX"));
        row("h0 c01 d01", 0, product("YY"));
        row("h0 c01 s0 d01", 0, product("XY") + MINUS);
        row("h0 s0 w02", 0, product("00Y"));
        row("x1 w13", 1, product("000Z") + MINUS);
        row("w13", 3, product("0Z"));
        row("w13", 2, product("00Z"));
        row("c01 w01", 1, product("ZZ"));
        row("h0 c01 w01", 0, product("XX"));
        // The sign of X Z comes twice.
        row("h0 d01 c01 c01", 0, product("XZ"));
        RingCircuits lab = Lab.of(2, "x0");
        Check.due("with a sign", lab.row(0, 0), product("Z") + MINUS);
        Check.due("without one behind it", lab.row(0, 1), product("0Z"));
    }

    private static void allKinds() {
        RingCircuits lab = Lab.of(3, "c01 h0 s2 w12 d02");
        Check.due("row(0, 0)", lab.row(0, 0), 49);
        Check.due("row(0, 1)", lab.row(0, 1), 1);
        Check.due("row(0, 2)", lab.row(0, 2), 12);
        row("h0 h1 h2 h3 s0 s1 s2 s3 d01 d12 d23 c30", 0, product("YZ0Z"));
        row("h0 c01 c12 c23", 0, product("XXXX"));
        row("h0 c01 c12 c23", 3, product("00ZZ"));
        row("h0 c01 c12 c23 z2", 0, product("XXXX") + MINUS);
        row(Lab.repeated("h0 s0 c01 h1", 16), 2, product("00Z"));
    }

    private static void refusals() {
        RingCircuits lab = Lab.of(3, "h0 t1");
        Lab.set(lab, 1, "o012");
        Lab.set(lab, 2, "h2");
        Check.state("row with T", () -> lab.row(0, 0));
        Check.state("row with CCX", () -> lab.row(1, 0));
        Check.argument("row(0, 3)", () -> lab.row(0, 3));
        Check.argument("row(2, 3)", () -> lab.row(2, 3));
        Check.argument("row(2, -1)", () -> lab.row(2, -1));
        Check.argument("row(3, 0)", () -> lab.row(3, 0));
        Check.argument("row(-1, 0)", () -> lab.row(-1, 0));
        Check.due("row(2, 2)", lab.row(2, 2), product("00X"));
    }
}
