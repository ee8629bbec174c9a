/** The edges that promises 10 to 14 name, a test for each sentence. */
public final class MatrixEdgesTest {
    public static void main(String[] args) {
        optimise();
        least();
        leastRefusals();
        leastOfNone();
        equal();
        phase();
        differ();
        Check.end();
    }

    private static void optimise() {
        Sentences at = new Sentences("Promise 10: optimise");
        at.test("A circuit is optimised: how many gates it has", () -> {
            Check.due("optimise of none", Lab.of(1).optimise(0), 0);
            Check.due("optimise of 64 that go", Lab.of(1, Lab.repeated("h0", 64)).optimise(0), 0);
            Check.due("optimise of 63 of them", Lab.of(1, Lab.repeated("h0", 63)).optimise(0), 1);
            RingCircuits lab = Lab.of(1, Lab.repeated("h0 t0", 32));
            Refused.stays(lab, "optimise of 64 that stay", full -> Check.due("64 stay", full.optimise(0), 64));
        });
        at.test("IllegalArgumentException when there is no such slot", () -> {
            for (int slot : Refused.NO_SLOTS) {
                Refused.argument("optimise(" + slot + ")", lab -> lab.optimise(slot));
            }
        });
    }

    private static void least() {
        Sentences at = new Sentences("Promise 11: least");
        at.test("A circuit becomes its least form: how many T it has", () -> {
            for (int wire = 0; wire < 4; wire++) {
                RingCircuits lab = Lab.of(4, "t" + wire);
                Check.due("least of one T on " + wire, lab.least(0), 1);
                Check.due("it stays", lab.gateAt(0, 0), 3 + 10 * wire);
            }
            Check.due("least of two T", Lab.of(1, "t0 t0").least(0), 0);
            Check.due("least of 63 T", Lab.of(1, Lab.repeated("t0", 63)).least(0), 1);
            Check.due("least of 64 T", Lab.of(1, Lab.repeated("t0", 64)).least(0), 0);
        });
        at.test("the phase is the k, 0 .. 7, by which the old matrix is w^k times the new one", () -> {
            RingCircuits lab = Lab.of(1);
            for (int k = 1; k <= 9; k++) {
                Lab.add(lab, 1, "t0 x0 t0 x0");
                lab.clear(0);
                lab.append(0, 1);
                Check.due("least of w^" + k, lab.least(0), 0);
                Check.due("gates of w^" + k, lab.size(0), 0);
                Check.due("phase() of w^" + k, lab.phase(), k % 8);
            }
        });
    }

    private static void leastRefusals() {
        Sentences at = new Sentences("Promise 11: least");
        at.test("IllegalArgumentException when there is no such slot", () -> {
            for (int slot : Refused.NO_SLOTS) {
                Refused.argument("least(" + slot + ")", lab -> lab.least(slot));
            }
        });
        at.test("or a gate of it is not 1 .. 5", () -> {
            for (String other : new String[] {"c01", "d01", "w01", "o012"}) {
                Refused.argument(Lab.of(3, other), "least of " + other, lab -> lab.least(0));
                Refused.argument(Lab.of(3, "h0 " + other), "least of h0 " + other, lab -> lab.least(0));
                Refused.argument(Lab.of(3, other + " h0"), "least of " + other + " h0", lab -> lab.least(0));
            }
            for (String kind : new String[] {"h2", "s2", "t2", "x2", "z2"}) {
                RingCircuits lab = Lab.of(3, kind);
                Check.due("least of " + kind, lab.least(0), kind.equals("t2") ? 1 : 0);
            }
        });
        at.test("or not on the wire of the first one", () -> {
            Refused.argument(Lab.of(2, "h0 h1"), "least of h0 h1", lab -> lab.least(0));
            Refused.argument(Lab.of(2, "h1 h0"), "least of h1 h0", lab -> lab.least(0));
            Refused.argument(Lab.of(2, Lab.repeated("t1", 63) + " t0"), "least of 64", lab -> lab.least(0));
        });
        at.test("IllegalStateException when the form has more than 64 gates", () -> {
            // The word of X Z is H S S H S S: four gates more than there were.
            RingCircuits most = Lab.of(1, "x0 z0 " + Lab.repeated("t0 h0", 29));
            Check.due("least of a form of 64 gates", most.least(0), 29);
            Check.due("size of a form of 64 gates", most.size(0), 64);
            RingCircuits more = Lab.of(1, "x0 z0 " + Lab.repeated("t0 h0", 29) + " t0");
            Refused.state(more, "least of a form of 65 gates", lab -> lab.least(0));
            RingCircuits same = Lab.of(1, Lab.repeated("t0 h0", 32));
            Check.due("least of a form that is the circuit", same.least(0), 32);
            Check.due("its size", same.size(0), 64);
        });
    }

    private static void leastOfNone() {
        Sentences at = new Sentences("Promise 11: least");
        at.test("An empty circuit stays so, 0, with phase 0.", () -> {
            RingCircuits lab = Lab.busy();
            lab.clear(1);
            Check.due("phase() before", lab.phase(), 4);
            Check.due("least of none", lab.least(1), 0);
            Check.due("size of none", lab.size(1), 0);
            Check.due("phase() of none", lab.phase(), 0);
        });
    }

    private static void equal() {
        Sentences at = new Sentences("Promise 12: equal");
        at.test("1, the phase is 0 then", () -> {
            RingCircuits lab = Lab.busy();
            Check.due("phase() before", lab.phase(), 4);
            Check.due("a circuit and itself", lab.equal(2, 2), 1);
            Check.due("phase() of the same", lab.phase(), 0);
            Check.due("two empty ones", Lab.of(4).equal(0, 2), 1);
        });
        at.test("2 when slot's is w^k times other's, with 1 .. 7 for k, the phase", () -> {
            RingCircuits lab = Lab.of(4);
            for (int k = 1; k <= 7; k++) {
                Lab.add(lab, 0, "t2 x2 t2 x2");
                Check.due("equal with w^" + k, lab.equal(0, 1), 2);
                Check.due("phase() of w^" + k, lab.phase(), k);
                Check.due("equal the other way", lab.equal(1, 0), 2);
                Check.due("phase() the other way", lab.phase(), 8 - k);
            }
            Lab.add(lab, 0, "t2 x2 t2 x2");
            Check.due("equal with w^8", lab.equal(0, 1), 1);
            Check.due("phase() of w^8", lab.phase(), 0);
        });
        at.test("otherwise 0, and the phase stays", () -> {
            Refused.stays(Lab.busy(), "equal(0, 1)", lab -> Check.due("equal(0, 1)", lab.equal(0, 1), 0));
            // Of these only the last columns tell that there is no phase for all of them.
            RingCircuits last = Lab.of(3, "t2 x2 t2 x2 h2 o012 h2");
            Refused.stays(last, "equal", lab -> Check.due("but for one column", lab.equal(0, 1), 0));
            RingCircuits sign = Lab.of(4, "x3 z3 x3");
            Refused.stays(sign, "equal", lab -> Check.due("but for half the signs", lab.equal(0, 1), 0));
        });
        at.test("IllegalArgumentException when there is no such slot", () -> {
            for (int slot : Refused.NO_SLOTS) {
                Refused.argument("equal(" + slot + ", 0)", lab -> lab.equal(slot, 0));
                Refused.argument("equal(0, " + slot + ")", lab -> lab.equal(0, slot));
                Refused.argument("equal of twice " + slot, lab -> lab.equal(slot, slot));
            }
        });
    }

    private static void phase() {
        Sentences at = new Sentences("Promise 13: phase");
        at.test("The phase; 0 at first", () -> {
            Check.due("new phase()", new RingCircuits().phase(), 0);
            RingCircuits lab = Lab.of(1, "h0");
            lab.equal(0, 1);
            Check.due("phase() when there was none", lab.phase(), 0);
        });
    }

    private static void differs(int wires, String one, String two, int due) {
        RingCircuits lab = Lab.of(wires, one);
        Lab.set(lab, 1, two);
        String pair = " of '" + one + "' and '" + two + "'";
        Check.due("differ" + pair, lab.differ(0, 1), due);
        Check.due("differ the other way" + pair, lab.differ(1, 0), due);
    }

    private static void differ() {
        Sentences at = new Sentences("Promise 14: differ");
        at.test("column by column, in each by rows: 16 * column + row", () -> {
            differs(1, "h0", "", 0);
            differs(1, "z0", "", 17);
            differs(1, "h0 z0", "h0", 1);
            differs(1, "z0 h0", "h0", 16);
            differs(1, "z0 x0", "x0", 16);
            differs(2, "d01", "", 51);
            differs(3, "h2 o012 h2", "", 119);
            // The last columns of four wires: those in which wires 1, 2 and 3 are 1.
            differs(4, "h3 o123 h3", "", 16 * 14 + 14);
            differs(4, "h3 o123 h3 x0", "x0", 16 * 14 + 15);
            differs(4, "x0 x1 x2 x3 z3", "x0 x1 x2 x3", 15);
        });
        at.test("NONE when there is none", () -> {
            differs(4, "", "", RingCircuits.NONE);
            differs(4, "h3 h3", "", RingCircuits.NONE);
            RingCircuits lab = Lab.of(4, "h0 t1 o123");
            Check.due("differ(0, 0)", lab.differ(0, 0), RingCircuits.NONE);
            // One that has a phase is another matrix.
            differs(1, "t0 x0 t0 x0", "", 0);
        });
        at.test("IllegalArgumentException when there is no such slot", () -> {
            for (int slot : Refused.NO_SLOTS) {
                Refused.argument("differ(" + slot + ", 0)", lab -> lab.differ(slot, 0));
                Refused.argument("differ(0, " + slot + ")", lab -> lab.differ(0, slot));
                Refused.argument("differ of twice " + slot, lab -> lab.differ(slot, slot));
            }
        });
    }
}
