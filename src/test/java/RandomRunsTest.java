import java.util.function.LongSupplier;

/** Long runs of calls of all kinds, wrong ones too, on the program and on the model: each answer is compared. */
public final class RandomRunsTest {
    private static final int RUNS = 400;
    private static final int CALLS = 500;

    private final RingCircuits lab = new RingCircuits();
    private final Model model = new Model();
    private final int run;
    private long seed;

    private RandomRunsTest(int run) {
        this.run = run;
        seed = 77777L * run + 5;
    }

    public static void main(String[] args) {
        int runs = args.length > 0 ? Integer.parseInt(args[0]) : RUNS;
        for (int run = 0; run < runs; run++) {
            new RandomRunsTest(run).go();
        }
        Check.end();
    }

    /** The same numbers in each run of the test. */
    private int below(int bound) {
        seed = seed * 6364136223846793005L + 1442695040888963407L;
        return (int) ((seed >>> 33) % bound);
    }

    private void compare(String call, LongSupplier program, long want) {
        long got;
        try {
            got = program.getAsLong();
        } catch (IllegalArgumentException e) {
            got = Model.ILLEGAL_ARGUMENT;
        } catch (IllegalStateException e) {
            got = Model.ILLEGAL_STATE;
        } catch (IndexOutOfBoundsException e) {
            got = Model.OUT_OF_BOUNDS;
        }
        Check.due("run " + run + ": " + call, got, want);
    }

    private void go() {
        int wires = 1 + below(4);
        compare("wires", () -> {
            lab.wires(wires);
            return 0;
        }, model.wires(wires));
        // The calls that look() makes count too.
        int left = CALLS;
        while (left > 100) {
            left -= run % 4 == 0 ? oneWire() : anything();
            left -= look();
        }
    }

    /** Mostly a slot that there is. */
    private int slot() {
        return below(25) == 0 ? (below(2) == 0 ? -1 : 3) : below(3);
    }

    private int wire() {
        return below(30) == 0 ? (below(2) == 0 ? -1 : model.wires) : below(model.wires);
    }

    /** T and H by turns, now and then another gate: what the least forms are long of. */
    private int oneWire() {
        int slot = slot();
        int other = slot();
        int wire = below(model.wires);
        int rare = 2 + below(60);
        int calls = 4;
        clear(slot);
        for (int many = below(3) == 0 ? 58 + below(8) : below(40); many > 0; many--) {
            int kind = below(rare) == 0 ? 1 + below(5) : 3 - 2 * (many % 2);
            compare("gate", () -> lab.gate(slot, kind, wire, 0, 0), model.gate(slot, kind, wire, 0, 0));
            calls++;
        }
        clear(other);
        compare("append", () -> lab.append(other, slot), model.append(other, slot));
        if (below(3) > 0) {
            compare("least(" + slot + ")", () -> lab.least(slot), model.least(slot));
        } else {
            compare("optimise", () -> lab.optimise(slot), model.optimise(slot));
        }
        compare("equal", () -> lab.equal(slot, other), model.equal(slot, other));
        return calls + anything();
    }

    private void clear(int slot) {
        compare("clear", () -> {
            lab.clear(slot);
            return 0;
        }, model.clear(slot));
    }

    private int anything() {
        switch (below(8)) {
            case 0, 1 -> {
                return gates();
            }
            case 2, 3 -> slots();
            case 4 -> matrices();
            case 5, 6 -> states();
            default -> texts();
        }
        return 2;
    }

    private int gates() {
        int slot = slot();
        int most = 1 + below(12);
        int kinds = below(2) == 0 ? 9 : 8;
        for (int many = most; many > 0; many--) {
            int kind = below(40) == 0 ? 10 * below(2) : 1 + below(kinds);
            int a = wire();
            int b = wire();
            int c = wire();
            compare("gate", () -> lab.gate(slot, kind, a, b, c), model.gate(slot, kind, a, b, c));
        }
        return most;
    }

    private void slots() {
        int slot = slot();
        int other = slot();
        switch (below(7)) {
            case 0 -> compare("append", () -> lab.append(slot, other), model.append(slot, other));
            case 1 -> compare("inverse", () -> lab.inverse(slot), model.inverse(slot));
            case 2 -> compare("expand", () -> lab.expand(slot), model.expand(slot));
            case 3, 4 -> compare("optimise", () -> lab.optimise(slot), model.optimise(slot));
            case 5 -> compare("least", () -> lab.least(slot), model.least(slot));
            default -> clear(slot);
        }
    }

    private void matrices() {
        int slot = slot();
        int other = slot();
        int wire = wire();
        switch (below(4)) {
            case 0 -> compare("equal", () -> lab.equal(slot, other), model.equal(slot, other));
            case 1 -> compare("differ", () -> lab.differ(slot, other), model.differ(slot, other));
            default -> compare("row(" + slot + ", " + wire + ")", () -> lab.row(slot, wire), model.row(slot, wire));
        }
    }

    private void states() {
        int slot = slot();
        int wire = wire();
        int value = below(30) == 0 ? -1 + 3 * below(2) : below(2);
        int part = below(30) == 0 ? -1 + 3 * below(2) : below(2);
        switch (below(4)) {
            case 0, 1 -> compare("state", () -> lab.state(slot), model.state(slot));
            case 2 -> compare("measure", () -> lab.measure(wire, value) ? 1 : 0, model.measure(wire, value));
            default -> compare("weight", () -> lab.weight(wire, value, part), model.weight(wire, value, part));
        }
    }

    private void texts() {
        int slot = slot();
        switch (below(5)) {
            case 0, 1 -> compare("read", () -> lab.read(slot), model.read(slot));
            case 2 -> compare("print", () -> lab.print(slot), model.print(slot));
            case 3 -> {
                String gate = "" + "hstxzcdwo".charAt(below(9)) + below(4) + below(4) + below(4) + "  ";
                String typed = (below(4) == 0 ? "" : " ") + gate.substring(0, 1 + below(5));
                long packed = 0;
                for (char sign : typed.toCharArray()) {
                    packed = packed << 8 | sign;
                }
                long characters = packed;
                compare("type", () -> lab.type(characters, typed.length()), model.type(characters, typed.length()));
            }
            default -> {
                long characters = (long) below(1 << 30) << 33 | below(1 << 30);
                int n = -1 + below(11);
                compare("type", () -> lab.type(characters, n), model.type(characters, n));
            }
        }
    }

    /** Some of what can be seen. */
    private int look() {
        int slot = slot();
        int i = below(64) - 1;
        int basis = below(18) - 1;
        int part = below(30) == 0 ? -1 + 5 * below(2) : below(4);
        compare("size", () -> lab.size(slot), model.size(slot));
        compare("gateAt(" + slot + ", " + i + ")", () -> lab.gateAt(slot, i), model.gateAt(slot, i));
        compare("scale", lab::scale, model.scale());
        compare("amplitude", () -> lab.amplitude(basis, part), model.amplitude(basis, part));
        compare("character", () -> lab.character(i), model.character(i));
        compare("phase", lab::phase, model.phase);
        compare("place", lab::place, model.place);
        return 7;
    }
}
