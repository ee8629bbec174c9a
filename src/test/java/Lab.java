/** Shorter ways to say what the tests say often. */
final class Lab {
    private Lab() {
    }

    static RingCircuits of(int wires) {
        RingCircuits lab = new RingCircuits();
        lab.wires(wires);
        return lab;
    }

    /** A laboratory with a circuit in slot 0. */
    static RingCircuits of(int wires, String circuit) {
        RingCircuits lab = of(wires);
        set(lab, 0, circuit);
        return lab;
    }

    static void set(RingCircuits lab, int slot, String circuit) {
        lab.clear(slot);
        add(lab, slot, circuit);
    }

    /** Adds gates by gate() alone, so that no test of it depends on the reading of texts. */
    static void add(RingCircuits lab, int slot, String circuit) {
        if (circuit.isEmpty()) {
            return;
        }
        for (String word : circuit.split(" ")) {
            int kind = "hstxzcdwo".indexOf(word.charAt(0)) + 1;
            int a = word.charAt(1) - '0';
            int b = word.length() > 2 ? word.charAt(2) - '0' : -7;
            int c = word.length() > 3 ? word.charAt(3) - '0' : -7;
            lab.gate(slot, kind, a, b, c);
        }
    }

    static String repeated(String word, int times) {
        StringBuilder text = new StringBuilder();
        for (int i = 0; i < times; i++) {
            text.append(i == 0 ? "" : " ").append(word);
        }
        return text.toString();
    }

    /** A circuit as gateAt tells it. */
    static String told(RingCircuits lab, int slot) {
        StringBuilder text = new StringBuilder();
        for (int i = 0; i < lab.size(slot); i++) {
            int gate = lab.gateAt(slot, i);
            int kind = gate % 10;
            text.append(i == 0 ? "" : " ").append("hstxzcdwo".charAt(kind - 1));
            int wires = kind < 6 ? 1 : kind < 9 ? 2 : 3;
            for (int rest = gate / 10; wires > 0; wires--) {
                text.append(rest % 10);
                rest /= 10;
            }
        }
        return text.toString();
    }

    static void type(RingCircuits lab, String text) {
        for (int i = 0; i < text.length(); i++) {
            lab.type(text.charAt(i), 1);
        }
    }

    static String text(RingCircuits lab) {
        StringBuilder text = new StringBuilder();
        for (int i = 0; lab.character(i) != RingCircuits.NONE; i++) {
            text.append((char) lab.character(i));
        }
        return text.toString();
    }

    /** The amplitude of a basis state, its four parts. */
    static String amplitude(RingCircuits lab, int basis) {
        return lab.amplitude(basis, 0) + " " + lab.amplitude(basis, 1) + " " + lab.amplitude(basis, 2) + " "
                + lab.amplitude(basis, 3);
    }
}
