/** The edges that promises 1 to 9 name, a test for each sentence. */
public final class CircuitEdgesTest {
    private static final int LEAST = Integer.MIN_VALUE;
    private static final int MOST = Integer.MAX_VALUE;

    public static void main(String[] args) {
        newObject();
        wires();
        gate();
        gateNeeds();
        size();
        gateAt();
        clear();
        append();
        appendRefusals();
        inverse();
        expand();
        Check.end();
    }

    /** A circuit of so many gates in slot 0 of one wire, T behind H by turns. */
    private static RingCircuits filled(int gates) {
        RingCircuits lab = Lab.of(1);
        for (int i = 0; i < gates; i++) {
            lab.gate(0, i % 2 == 0 ? 1 : 3, 0, 0, 0);
        }
        return lab;
    }

    private static void newObject() {
        Sentences at = new Sentences("Promise 1: A new object");
        at.test("One wire", () -> {
            RingCircuits lab = new RingCircuits();
            Check.argument("new gate on wire 1", () -> lab.gate(0, 1, 1, 0, 0));
            Check.argument("new CX 0 1", () -> lab.gate(0, 6, 0, 1, 0));
            Check.argument("new row(0, 1)", () -> lab.row(0, 1));
            Check.due("new row(0, 0)", lab.row(0, 0), 3);
            Check.due("new gate on wire 0", lab.gate(0, 1, 0, 0, 0), 1);
            lab.state(1);
            Check.due("amplitude(1, 0) of one wire", lab.amplitude(1, 0), 0);
            Check.bounds("amplitude(2, 0) of one wire", () -> lab.amplitude(2, 0));
        });
        at.test("empty circuits", () -> {
            RingCircuits lab = new RingCircuits();
            for (int slot = 0; slot < 3; slot++) {
                Check.due("new size(" + slot + ")", lab.size(slot), 0);
                Check.due("new gateAt(" + slot + ", 0)", lab.gateAt(slot, 0), RingCircuits.NONE);
            }
        });
        at.test("no state", () -> {
            RingCircuits lab = new RingCircuits();
            Check.due("new scale()", lab.scale(), RingCircuits.NONE);
            Check.state("new amplitude(0, 0)", () -> lab.amplitude(0, 0));
            Check.state("new weight(0, 0, 0)", () -> lab.weight(0, 0, 0));
            Check.state("new measure(0, 0)", () -> lab.measure(0, 0));
        });
        at.test("no text", () -> {
            RingCircuits lab = new RingCircuits();
            Check.due("new character(0)", lab.character(0), RingCircuits.NONE);
            Check.due("first type", lab.type('h', 1), 1);
        });
    }

    private static void wires() {
        Sentences at = new Sentences("Promise 2: wires");
        at.test("All circuits are empty", () -> {
            for (int n = 1; n <= 4; n++) {
                RingCircuits lab = Lab.busy();
                lab.wires(n);
                for (int slot = 0; slot < 3; slot++) {
                    Check.due("size(" + slot + ") behind wires(" + n + ")", lab.size(slot), 0);
                }
            }
        });
        at.test("there is no state and no text", () -> {
            for (int n = 1; n <= 4; n++) {
                RingCircuits lab = Lab.busy();
                lab.wires(n);
                Check.due("scale() behind wires(" + n + ")", lab.scale(), RingCircuits.NONE);
                Check.state("amplitude behind wires(" + n + ")", () -> lab.amplitude(0, 0));
                Check.due("character(0) behind wires(" + n + ")", lab.character(0), RingCircuits.NONE);
                Check.due("type behind wires(" + n + ")", lab.type('h', 1), 1);
            }
        });
        at.test("so many wires", () -> {
            for (int n = 1; n <= 4; n++) {
                RingCircuits lab = Lab.busy();
                lab.wires(n);
                int none = n;
                Check.due("the highest of " + n + " wires", lab.gate(0, 1, n - 1, 0, 0), 1);
                Check.argument("wire " + n + " of " + n, () -> lab.gate(0, 1, none, 0, 0));
            }
        });
        at.test("(phase and place stay)", () -> {
            RingCircuits lab = Lab.busy();
            lab.wires(1);
            Check.due("phase() behind wires", lab.phase(), 4);
            Check.due("place() behind wires", lab.place(), 3);
        });
        at.test("IllegalArgumentException when n is not 1 .. 4", () -> {
            for (int n : new int[] {0, 5, -1, LEAST, MOST}) {
                Refused.argument("wires(" + n + ")", lab -> lab.wires(n));
            }
        });
    }

    private static void gate() {
        Sentences at = new Sentences("Promise 3: gate");
        at.test("how many there are", () -> {
            RingCircuits lab = Lab.of(1);
            for (int i = 1; i <= 64; i++) {
                Check.due("gate " + i, lab.gate(1, 1, 0, 0, 0), i);
            }
            Check.due("the first one of another slot", lab.gate(0, 1, 0, 0, 0), 1);
        });
        at.test("(what a kind needs not is not looked at)", () -> {
            RingCircuits lab = Lab.of(2);
            int many = 0;
            for (int other : new int[] {0, 1, 2, -1, LEAST, MOST}) {
                for (int kind = 1; kind <= 5; kind++) {
                    Check.due("kind " + kind + " with " + other, lab.gate(0, kind, 1, other, other), ++many);
                    Check.due("what is kept of it", lab.gateAt(0, many - 1), kind + 10);
                }
                for (int kind = 6; kind <= 8; kind++) {
                    Check.due("kind " + kind + " with " + other, lab.gate(0, kind, 1, 0, other), ++many);
                    Check.due("what is kept of it", lab.gateAt(0, many - 1), kind + 10);
                }
            }
        });
        at.test("IllegalArgumentException when there is no such slot", () -> {
            for (int slot : Refused.NO_SLOTS) {
                Refused.argument("gate in slot " + slot, lab -> lab.gate(slot, 1, 0, 0, 0));
            }
        });
        at.test("no such slot or kind", () -> {
            for (int kind : new int[] {0, 10, -1, 11, LEAST, MOST}) {
                Refused.argument("gate of kind " + kind, lab -> lab.gate(0, kind, 0, 1, 2));
            }
            RingCircuits lab = Lab.of(3);
            Check.due("gate of kind 1", lab.gate(0, 1, 0, 1, 2), 1);
            Check.due("gate of kind 9", lab.gate(0, 9, 0, 1, 2), 2);
        });
        at.test("IllegalStateException when there are 64", () -> {
            RingCircuits lab = filled(63);
            Check.due("gate 64", lab.gate(0, 5, 0, 0, 0), 64);
            Refused.state(lab, "gate 65", full -> full.gate(0, 5, 0, 0, 0));
        });
    }

    private static void gateNeeds() {
        Sentences at = new Sentences("Promise 3: gate");
        at.test("a wire that it needs is none", () -> {
            for (int none : new int[] {3, -1, LEAST, MOST}) {
                for (int kind = 1; kind <= 9; kind++) {
                    int k = kind;
                    Refused.argument("kind " + k + " on a " + none, lab -> lab.gate(0, k, none, 1, 2));
                }
                for (int kind = 6; kind <= 9; kind++) {
                    int k = kind;
                    Refused.argument("kind " + k + " on b " + none, lab -> lab.gate(0, k, 0, none, 2));
                }
                Refused.argument("CCX on c " + none, lab -> lab.gate(0, 9, 0, 1, none));
            }
        });
        at.test("or comes twice", () -> {
            for (int wire = 0; wire < 3; wire++) {
                int twice = wire;
                int once = (wire + 1) % 3;
                for (int kind = 6; kind <= 9; kind++) {
                    int k = kind;
                    Refused.argument("kind " + k + ", a as b", lab -> lab.gate(0, k, twice, twice, once));
                }
                Refused.argument("CCX, a as c", lab -> lab.gate(0, 9, twice, once, twice));
                Refused.argument("CCX, b as c", lab -> lab.gate(0, 9, once, twice, twice));
                Refused.argument("CCX, one wire alone", lab -> lab.gate(0, 9, twice, twice, twice));
            }
        });
    }

    private static void size() {
        Sentences at = new Sentences("Promise 4: size");
        at.test("How many gates a slot has", () -> {
            RingCircuits lab = filled(64);
            Check.due("size of a full circuit", lab.size(0), 64);
            Check.due("size of an empty circuit", lab.size(2), 0);
        });
        at.test("NONE when there is no such slot", () -> {
            RingCircuits lab = Lab.busy();
            for (int slot : Refused.NO_SLOTS) {
                Check.due("size(" + slot + ")", lab.size(slot), RingCircuits.NONE);
            }
        });
    }

    private static void gateAt() {
        Sentences at = new Sentences("Promise 5: gateAt");
        at.test("Of gate i of a slot (from 0)", () -> {
            RingCircuits lab = filled(63);
            lab.gate(0, 5, 0, 0, 0);
            Check.due("gateAt(0, 0)", lab.gateAt(0, 0), 1);
            Check.due("gateAt(0, 63)", lab.gateAt(0, 63), 5);
        });
        at.test("(those that it has)", () -> {
            RingCircuits lab = Lab.of(4);
            lab.gate(0, 5, 3, 3, 3);
            lab.gate(0, 8, 3, 2, 1);
            lab.gate(0, 9, 1, 2, 3);
            lab.gate(0, 9, 3, 2, 0);
            Check.due("gateAt of one wire", lab.gateAt(0, 0), 35);
            Check.due("gateAt of two wires", lab.gateAt(0, 1), 238);
            Check.due("gateAt of three wires", lab.gateAt(0, 2), 3219);
            Check.due("gateAt of three wires, c is 0", lab.gateAt(0, 3), 239);
        });
        at.test("NONE when there is none", () -> {
            RingCircuits lab = Lab.of(1, "h0 t0");
            for (int i : new int[] {2, -1, 3, 63, 64, LEAST, MOST}) {
                Check.due("gateAt(0, " + i + ") of two", lab.gateAt(0, i), RingCircuits.NONE);
            }
            Check.due("gateAt(1, 0) of none", lab.gateAt(1, 0), RingCircuits.NONE);
            for (int slot : Refused.NO_SLOTS) {
                Check.due("gateAt(" + slot + ", 0)", lab.gateAt(slot, 0), RingCircuits.NONE);
            }
            RingCircuits full = filled(64);
            Check.due("gateAt(0, 64) of 64", full.gateAt(0, 64), RingCircuits.NONE);
            full.clear(0);
            Check.due("gateAt(0, 0) behind clear", full.gateAt(0, 0), RingCircuits.NONE);
        });
    }

    private static void clear() {
        Sentences at = new Sentences("Promise 6: clear");
        at.test("A circuit becomes empty", () -> {
            RingCircuits lab = filled(64);
            lab.clear(0);
            Check.due("a full one", lab.size(0), 0);
            lab.clear(0);
            Check.due("an empty one", lab.size(0), 0);
            Check.due("gate behind clear", lab.gate(0, 1, 0, 0, 0), 1);
        });
        at.test("IllegalArgumentException when there is no such slot", () -> {
            for (int slot : Refused.NO_SLOTS) {
                Refused.argument("clear(" + slot + ")", lab -> lab.clear(slot));
            }
        });
    }

    private static void append() {
        Sentences at = new Sentences("Promise 7: append");
        at.test("(which may be the same one)", () -> {
            RingCircuits lab = Lab.of(1, "h0 t0 x0");
            Check.due("append(0, 0) of 3", lab.append(0, 0), 6);
            Check.due("twice", Lab.told(lab, 0), "h0 t0 x0 h0 t0 x0");
            Check.due("append(1, 1) of none", lab.append(1, 1), 0);
            Check.due("append(0, 0) of 32", filled(32).append(0, 0), 64);
        });
        at.test("how many slot has then", () -> {
            RingCircuits lab = filled(63);
            Check.due("append none to 63", lab.append(0, 1), 63);
            lab.gate(1, 5, 0, 0, 0);
            Check.due("append 1 to 63", lab.append(0, 1), 64);
            Check.due("the last one", lab.gateAt(0, 63), 5);
            Check.due("append none to 64", lab.append(0, 2), 64);
            Check.due("append 64 to none", lab.append(2, 0), 64);
            Check.due("the other one stays", lab.size(0), 64);
        });
        at.test("IllegalArgumentException when there is no such slot", () -> {
            for (int slot : Refused.NO_SLOTS) {
                Refused.argument("append(" + slot + ", 0)", lab -> lab.append(slot, 0));
                Refused.argument("append(0, " + slot + ")", lab -> lab.append(0, slot));
                Refused.argument("append of twice " + slot, lab -> lab.append(slot, slot));
            }
        });
    }

    private static void appendRefusals() {
        Sentences at = new Sentences("Promise 7: append");
        at.test("IllegalStateException when these would be more than 64", () -> {
            Refused.state(filled(33), "append 33 to themselves", lab -> lab.append(0, 0));
            Refused.state(filled(64), "append 64 to themselves", lab -> lab.append(0, 0));
            RingCircuits full = filled(64);
            full.gate(1, 4, 0, 0, 0);
            Refused.state(full, "append 1 to 64", lab -> lab.append(0, 1));
            RingCircuits one = filled(64);
            one.gate(2, 4, 0, 0, 0);
            Refused.state(one, "append 64 to 1", lab -> lab.append(2, 0));
        });
    }

    /** So many X on wire 0, and other gates behind them. */
    private static RingCircuits behindX(int many, String others) {
        return Lab.of(3, (Lab.repeated("x0", many) + " " + others).trim());
    }

    private static void inverse() {
        Sentences at = new Sentences("Promise 8: inverse");
        at.test("A circuit becomes its inverse", () -> {
            Check.due("inverse of none", Lab.of(1).inverse(0), 0);
            RingCircuits lab = behindX(63, "h0");
            Check.due("inverse of 64", lab.inverse(0), 64);
            Check.due("the last one comes first", lab.gateAt(0, 0), 1);
            Check.due("and the first one last", lab.gateAt(0, 63), 4);
        });
        at.test("IllegalArgumentException and IllegalStateException as for append", () -> {
            for (int slot : Refused.NO_SLOTS) {
                Refused.argument("inverse(" + slot + ")", lab -> lab.inverse(slot));
            }
            Check.due("62 and S", behindX(62, "s0").inverse(0), 64);
            Check.due("61 and T", behindX(61, "t0").inverse(0), 64);
            Check.due("59 and S and T", behindX(59, "s0 t0").inverse(0), 64);
            Refused.state(behindX(63, "s0"), "inverse of 63 and S", lab -> lab.inverse(0));
            Refused.state(behindX(62, "t0"), "inverse of 62 and T", lab -> lab.inverse(0));
            Refused.state(behindX(60, "s0 t0"), "inverse of 60 and S and T", lab -> lab.inverse(0));
            Refused.state(filled(64), "inverse of 64, half of them T", lab -> lab.inverse(0));
        });
    }

    private static void expand() {
        Sentences at = new Sentences("Promise 9: expand");
        at.test("A circuit is expanded: how many gates it has", () -> {
            Check.due("expand of none", Lab.of(1).expand(0), 0);
            Check.due("expand of 64 without CCX", behindX(64, "").expand(0), 64);
            Check.due("expand of one CCX", Lab.of(3, "o012").expand(0), 21);
        });
        at.test("IllegalArgumentException and IllegalStateException as for append", () -> {
            for (int slot : Refused.NO_SLOTS) {
                Refused.argument("expand(" + slot + ")", lab -> lab.expand(slot));
            }
            Check.due("expand to 64, one CCX", behindX(43, "o012").expand(0), 64);
            Check.due("expand to 64, three CCX", behindX(1, "o012 o120 o201").expand(0), 64);
            Refused.state(behindX(44, "o012"), "expand to 65, one CCX", lab -> lab.expand(0));
            Refused.state(behindX(2, "o012 o120 o201"), "expand to 65, three CCX", lab -> lab.expand(0));
            Refused.state(behindX(0, "o012 o120 o201 o012"), "expand to 84", lab -> lab.expand(0));
            Refused.state(behindX(63, "o012"), "expand of 64 with CCX", lab -> lab.expand(0));
        });
    }
}
