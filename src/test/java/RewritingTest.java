/** Promises 10 and 11: what rewrites circuits without changing their matrices. */
public final class RewritingTest {
    public static void main(String[] args) {
        meetings();
        noMeetings();
        passes();
        noPasses();
        order();
        changesNoMatrix();
        optimise();
        words();
        rounds();
        leastPhases();
        leastRefusals();
        leastTooLong();
        Check.end();
    }

    private static void optimised(String circuit, String due) {
        RingCircuits lab = Lab.of(4, circuit);
        int most = lab.optimise(0);
        Check.due("optimised " + circuit, Lab.told(lab, 0), due);
        Check.due("optimise(0) of " + circuit, most, lab.size(0));
    }

    private static void stays(String circuit) {
        optimised(circuit, circuit);
    }

    /** Promise 10. */
    private static void meetings() {
        optimised("h3 h3", "");
        optimised("x0 x0", "");
        optimised("c02 c02", "");
        optimised("d02 d02", "");
        optimised("d02 d20", "");
        optimised("w13 w13", "");
        optimised("w13 w31", "");
        optimised("o012 o012", "");
        optimised("o012 o102", "");
        optimised("t2 t2", "s2");
        optimised("s2 s2", "z2");
        optimised("z2 z2", "");
        optimised(Lab.repeated("t1", 4), "z1");
        optimised(Lab.repeated("t1", 7), "z1 s1 t1");
        optimised(Lab.repeated("t1", 8), "");
        optimised(Lab.repeated("t1", 64), "");
        optimised(Lab.repeated("h1", 63), "h1");
    }

    private static void noMeetings() {
        stays("h0 h1");
        stays("x0 x1");
        stays("h0 x0");
        stays("c01 c10");
        stays("c01 c02");
        stays("d01 d02");
        stays("w01 w12");
        stays("c01 d01");
        stays("c01 w01");
        stays("o012 o021");
        stays("o012 o120");
        stays("o012 o013");
        stays("t0 t1");
        stays("z0 z1");
        stays("t0 s0");
        stays("s0 t0");
        stays("t0 z0");
        stays("s0 z0");
    }

    private static void passes() {
        optimised("h0 x1 c23 h0", "x1 c23");
        optimised("o012 h3 o012", "h3");
        optimised("c01 c23 c01", "c23");
        optimised("t0 s0 t0", "z0");
        optimised("s0 z0 t0 s0", "t0");
        optimised("t0 d01 t0", "s0 d01");
        optimised("t1 d01 t1", "s1 d01");
        optimised("d01 t0 s1 d10", "t0 s1");
        optimised("d01 d12 d01", "d12");
        optimised("z0 c01 z0", "c01");
        optimised("c01 s0 c01", "s0");
        optimised("t0 o012 t0", "s0 o012");
        optimised("t1 o012 t1", "s1 o012");
        optimised("o012 t0 z1 o102", "t0 z1");
        optimised("x1 c01 x1", "c01");
        optimised("c01 x1 c01", "x1");
        optimised("x2 o012 x2", "o012");
        optimised("o012 x2 o012", "x2");
    }

    private static void noPasses() {
        stays("h0 t0 h0");
        stays("t0 h0 t0");
        stays("t0 x0 t0");
        stays("x0 t0 x0");
        stays("h0 x0 h0");
        stays("h0 d01 h0");
        stays("h0 c01 h0");
        stays("h1 c01 h1");
        stays("t1 c01 t1");
        stays("t2 o012 t2");
        stays("x0 c01 x0");
        stays("x0 o012 x0");
        stays("x1 o012 x1");
        stays("x0 d01 x0");
        stays("x0 w01 x0");
        stays("t0 w01 t0");
        stays("w01 t1 w01");
        stays("w01 w12 w01");
        stays("d01 c02 d01");
        stays("c01 d02 c01");
        stays("d01 w02 d01");
        stays("d01 o013 d01");
        stays("c01 c02 c01");
        stays("c01 c21 c01");
        stays("c01 c12 c01");
        stays("o012 c01 o012");
        stays("o012 o013 o012");
        stays("c02 o012 c02");
    }

    private static void order() {
        optimised("t0 t0 t0", "s0 t0");
        optimised("t0 h1 t0 h2", "s0 h1 h2");
        optimised("t0 h1 h1 t0 s0", "z0");
        optimised("h0 x0 x0 h0", "");
        optimised("x1 h0 x1 h0", "");
        optimised("t0 t1 t0 t1", "s0 s1");
        optimised("s0 t0 s0 t0", "z0 s0");
        optimised("t0 s0 h0 t0 t0 h0 t0", "t0 s0 h0 s0 h0 t0");
        optimised("h0 c01 t0 x1 c01 t0 h0 h0", "h0 s0 x1");
        optimised("c01 h0 h0 x1 c01 x1", "");
    }

    /** Each gate between two others that meet, be they as they were or gone. */
    private static void changesNoMatrix() {
        for (String outer : Lab.allGates()) {
            for (String inner : Lab.allGates()) {
                RingCircuits lab = Lab.of(4, outer + " " + inner + " " + outer);
                lab.append(1, 0);
                lab.optimise(0);
                Check.due("matrix of " + Lab.told(lab, 1) + " optimised", lab.equal(0, 1), 1);
            }
        }
    }

    private static void optimise() {
        RingCircuits lab = Lab.of(2);
        Check.due("optimise(1) of none", lab.optimise(1), 0);
        Check.argument("optimise(3)", () -> lab.optimise(3));
        Check.argument("optimise(-1)", () -> lab.optimise(-1));
        Lab.set(lab, 0, "h0 h0");
        Lab.set(lab, 1, "h0 h0");
        lab.state(0);
        Check.due("optimise(1)", lab.optimise(1), 0);
        Check.due("other slots stay", lab.size(0), 2);
        Check.due("the state stays", lab.scale(), 0);
    }

    private static void least(String circuit, String due, int count, int phase) {
        RingCircuits lab = Lab.of(4, circuit);
        Lab.set(lab, 1, circuit);
        Check.due("least(0) of " + circuit, lab.least(0), count);
        Check.due("least form of " + circuit, Lab.told(lab, 0), due);
        Check.due("phase() of " + circuit, lab.phase(), phase);
        Check.due("equal(1, 0) of " + circuit, lab.equal(1, 0), phase == 0 ? 1 : 2);
        Check.due("phase() of equal of " + circuit, lab.phase(), phase);
        Check.due("least again of " + circuit, lab.least(0), count);
        Check.due("least again of " + circuit, Lab.told(lab, 0), due);
        Check.due("phase() again of " + circuit, lab.phase(), 0);
    }

    /** Promise 11: forms without T are the 24 shortest words. */
    private static void words() {
        least("", "", 0, 0);
        least("h2", "h2", 0, 0);
        least("s2", "s2", 0, 0);
        least("h0 h0", "", 0, 0);
        least("z1", "s1 s1", 0, 0);
        least("s1 z1", "s1 s1 s1", 0, 0);
        least("x3", "h3 s3 s3 h3", 0, 0);
        // Z X is -1 X Z: the first one in the order of letters begins with H.
        least("z0 x0", "h0 s0 s0 h0 s0 s0", 0, 4);
        least("x0 z0", "h0 s0 s0 h0 s0 s0", 0, 0);
        // H S H is S' H S' but for a phase, where S' is S, S, S: three letters are less than seven.
        least("s0 z0 h0 s0 z0", "h0 s0 h0", 0, 7);
        // S H S is H S' H but for a phase.
        least("h0 s0 s0 s0 h0", "s0 h0 s0", 0, 7);
        least("s0 x0 s0 x0", "", 0, 2);
    }

    private static void rounds() {
        least("t0", "t0", 1, 0);
        least("t0 t0", "s0", 0, 0);
        least("t0 s0 z0", "s0 s0 s0 t0", 1, 0);
        least("h0 t0", "h0 t0", 1, 0);
        least("t0 h0", "t0 h0", 1, 0);
        least("t0 h0 s0", "t0 h0 s0", 1, 0);
        least("t1 h1 s1 t1 h1 t1", "t1 h1 s1 t1 h1 t1", 3, 0);
        least("t0 s0 h0", "s0 t0 h0", 1, 0);
        // Z H T is H X T, that is w H T S' X, and S' X is w^6 X S: in time S, X (as H S S H), T, H.
        least("t0 h0 z0", "s0 h0 s0 s0 h0 t0 h0", 1, 7);
        least("t0 h0 t0 t0 h0 t0", "h0 s0 s0 h0 t0 h0 s0 t0", 2, 0);
        least("t0 x0 t0 x0", "", 0, 1);
        least("h0 t0 h0 h0 t0 h0 h0 t0 t0", "h0 s0 s0", 0, 0);
    }

    private static void leastPhases() {
        least("x0 z0 x0 z0", "", 0, 4);
        least("s0 h0 s0 h0 s0 h0", "", 0, 1);
        RingCircuits lab = Lab.of(1, "x0 z0 x0 z0");
        lab.least(0);
        Check.due("phase()", lab.phase(), 4);
        Check.due("least(1) of none", lab.least(1), 0);
        Check.due("size(1)", lab.size(1), 0);
        Check.due("phase() of none", lab.phase(), 0);
    }

    private static void leastRefusals() {
        RingCircuits lab = Lab.of(3, "x0 z0 x0 z0");
        lab.least(0);
        Check.argument("least(3)", () -> lab.least(3));
        Check.argument("least(-1)", () -> lab.least(-1));
        for (String wrong : new String[] {"h0 h1", "t1 s1 z0", "c01", "h0 d01", "w01 h0", "o012", "h2 h2 x1"}) {
            Lab.set(lab, 1, wrong);
            Check.argument("least(1) of " + wrong, () -> lab.least(1));
            Check.due("as before", Lab.told(lab, 1), wrong);
        }
        Check.due("phase() as before", lab.phase(), 4);
    }

    private static void leastTooLong() {
        tooLong(Lab.repeated("t0 h0", 31) + " x0");
        // With H at the end the form has 64 gates, without it one H more.
        String most = Lab.repeated("t0 h0", 23) + " x0";
        tooLong(most);
        String form = Lab.told(longest(most + " h0", 23), 0);
        Check.due("the form", form, "s0 h0 s0 s0 h0 " + Lab.repeated("t0 h0 t0 h0 s0 t0 h0 s0", 7) + " t0 h0 t0");
        String headed = Lab.repeated("t0 h0", 22) + " s0 x0";
        longest(headed, 22);
        tooLong(headed + " t0");
        String behindS = Lab.repeated("t0 h0", 23) + " s0 x0";
        longest(behindS, 23);
        tooLong(behindS + " t0");
        String least = Lab.repeated("t0 h0", 32);
        Check.due("the same", Lab.told(longest(least, 32), 0), least);
    }

    private static void tooLong(String circuit) {
        RingCircuits lab = Lab.of(1, "x0 z0 x0 z0");
        lab.least(0);
        Lab.set(lab, 1, circuit);
        Check.state("least(1) of " + circuit, () -> lab.least(1));
        Check.due("as before", Lab.told(lab, 1), circuit);
        Check.due("phase() as before", lab.phase(), 4);
    }

    /** A form of just 64 gates. */
    private static RingCircuits longest(String circuit, int count) {
        RingCircuits lab = Lab.of(1, circuit);
        lab.append(1, 0);
        Check.due("least(0) of " + circuit, lab.least(0), count);
        Check.due("size(0) of " + circuit, lab.size(0), 64);
        Check.due("equal but for a phase, " + circuit, lab.equal(1, 0) > 0, true);
        return lab;
    }
}
