/** Calls that must throw, or answer that nothing is done: all that can be seen must stay as it was. */
final class Refused {
    static final int[] NO_SLOTS = {-1, 3, Integer.MIN_VALUE, Integer.MAX_VALUE};

    private Refused() {
    }

    /** Some calls of one object. */
    interface Use {
        void on(RingCircuits lab);
    }

    static void argument(String call, Use use) {
        argument(Lab.busy(), call, use);
    }

    static void argument(RingCircuits lab, String call, Use use) {
        stays(lab, call, seen -> Check.argument(call, () -> use.on(seen)));
    }

    static void state(RingCircuits lab, String call, Use use) {
        stays(lab, call, seen -> Check.state(call, () -> use.on(seen)));
    }

    static void bounds(String call, Use use) {
        stays(Lab.busy(), call, seen -> Check.bounds(call, () -> use.on(seen)));
    }

    static void stays(RingCircuits lab, String call, Use use) {
        String before = seen(lab);
        use.on(lab);
        Check.due("all that is seen behind " + call, seen(lab), before);
    }

    /** All that can be seen of an object by calls that change nothing. */
    static String seen(RingCircuits lab) {
        int wires = wires(lab);
        StringBuilder all = new StringBuilder();
        all.append(wires).append(" wires, phase ").append(lab.phase()).append(", place ").append(lab.place());
        all.append(", text '").append(Lab.text(lab)).append("', scale ").append(lab.scale());
        for (int slot = 0; slot < 3; slot++) {
            all.append(", slot ").append(slot).append(": ").append(Lab.told(lab, slot));
        }
        for (int basis = 0; lab.scale() >= 0 && basis < 1 << wires; basis++) {
            all.append(", ").append(basis).append(": ").append(Lab.amplitude(lab, basis));
        }
        return all.toString();
    }

    /** By row(), since it looks at the wire before the gates and changes nothing. */
    private static int wires(RingCircuits lab) {
        int wires = 0;
        while (wires < 5 && isWire(lab, wires)) {
            wires++;
        }
        return wires;
    }

    private static boolean isWire(RingCircuits lab, int wire) {
        try {
            lab.row(0, wire);
        } catch (IllegalArgumentException e) {
            return false;
        } catch (IllegalStateException e) {
            return true;
        }
        return true;
    }
}
