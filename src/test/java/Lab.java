import java.util.ArrayList;
import java.util.List;

/** Shorter ways to say what the tests say often. */
final class Lab {
    private Lab() {
    }

    static RingCircuits of(int wires) {
        RingCircuits lab = new RingCircuits();
        lab.wires(wires);
        return lab;
    }

    /** A laboratory with a circuit in slot 0. */
    static RingCircuits of(int wires, String circuit) {
        RingCircuits lab = of(wires);
        set(lab, 0, circuit);
        return lab;
    }

    /** Three wires, and nothing as it is at first: gates in all slots, a state, a text, a phase and a place. */
    static RingCircuits busy() {
        RingCircuits lab = of(3, "x0 z0 x0 z0");
        lab.equal(0, 1);
        type(lab, "h0 q");
        try {
            lab.read(0);
        } catch (IllegalArgumentException e) {
            Check.due("place() of a busy object", lab.place(), 3);
        }
        set(lab, 0, "h0 t0 h0 c01 h2");
        lab.state(0);
        set(lab, 1, "t1 h1");
        set(lab, 2, "s0 x1 o012");
        return lab;
    }

    static void set(RingCircuits lab, int slot, String circuit) {
        lab.clear(slot);
        add(lab, slot, circuit);
    }

    /** Adds gates by gate() alone, so that no test of it depends on the reading of texts. */
    static void add(RingCircuits lab, int slot, String circuit) {
        if (circuit.isEmpty()) {
            return;
        }
        for (String word : circuit.split(" ")) {
            int kind = "hstxzcdwo".indexOf(word.charAt(0)) + 1;
            int a = word.charAt(1) - '0';
            int b = word.length() > 2 ? word.charAt(2) - '0' : -7;
            int c = word.length() > 3 ? word.charAt(3) - '0' : -7;
            lab.gate(slot, kind, a, b, c);
        }
    }

    static String repeated(String word, int times) {
        StringBuilder text = new StringBuilder();
        for (int i = 0; i < times; i++) {
            text.append(i == 0 ? "" : " ").append(word);
        }
        return text.toString();
    }

    /** All gates that can stand on four wires. */
    static List<String> allGates() {
        List<String> gates = new ArrayList<>();
        for (String kind : "h s t x z c1 d1 w1 o12".split(" ")) {
            addAllGates(gates, kind.charAt(0) + "", kind.length());
        }
        return gates;
    }

    private static void addAllGates(List<String> gates, String begun, int wires) {
        for (char wire = '0'; wire < '4'; wire++) {
            if (begun.indexOf(wire) < 0 && wires == 1) {
                gates.add(begun + wire);
            } else if (begun.indexOf(wire) < 0) {
                addAllGates(gates, begun + wire, wires - 1);
            }
        }
    }

    /** A circuit as gateAt tells it. */
    static String told(RingCircuits lab, int slot) {
        StringBuilder text = new StringBuilder();
        int many = lab.size(slot);
        for (int i = 0; i < many; i++) {
            int gate = lab.gateAt(slot, i);
            int kind = gate % 10;
            text.append(i == 0 ? "" : " ").append("hstxzcdwo".charAt(kind - 1));
            int wires = kind < 6 ? 1 : kind < 9 ? 2 : 3;
            for (int rest = gate / 10; wires > 0; wires--) {
                text.append(rest % 10);
                rest /= 10;
            }
        }
        return text.toString();
    }

    /** Eight at a time, since an object is good for no more than 512 calls. */
    static void type(RingCircuits lab, String text) {
        long packed = 0;
        for (int i = 0; i < text.length(); i++) {
            packed = packed << 8 | text.charAt(i);
            if (i % 8 == 7 || i == text.length() - 1) {
                lab.type(packed, i % 8 + 1);
            }
        }
    }

    static String text(RingCircuits lab) {
        StringBuilder text = new StringBuilder();
        for (int sign = lab.character(0); sign != RingCircuits.NONE; sign = lab.character(text.length())) {
            text.append((char) sign);
        }
        return text.toString();
    }

    /** The amplitude of a basis state, its four parts. */
    static String amplitude(RingCircuits lab, int basis) {
        return lab.amplitude(basis, 0) + " " + lab.amplitude(basis, 1) + " " + lab.amplitude(basis, 2) + " "
                + lab.amplitude(basis, 3);
    }
}
