/** Promises 21 to 25: texts typed, printed and read. */
public final class TextsTest {
    public static void main(String[] args) {
        type();
        typeRefusals();
        typeFull();
        print();
        printLongest();
        character();
        read();
        readLeavesAll();
        places();
        sixtyFourGates();
        place();
        Check.end();
    }

    /** Promise 21. */
    private static void type() {
        RingCircuits lab = Lab.of(1);
        Check.due("type of one", lab.type('h', 1), 1);
        Check.due("type of two", lab.type('0' << 8 | ' ', 2), 3);
        Check.due("the highest first", Lab.text(lab), "h0 ");
        Check.due("type of eight", lab.type(0x6162636465666768L, 8), 11);
        Check.due("the highest of eight first", Lab.text(lab), "h0 abcdefgh");
        // Only the lowest n bytes are looked at.
        Check.due("bytes above", lab.type(0xFF00007F1F414243L, 3), 14);
        Check.due("bytes above are left", Lab.text(lab), "h0 abcdefghABC");
        Check.due("the lowest sign", lab.type(32, 1), 15);
        Check.due("the highest sign", lab.type(126, 1), 16);
        Check.due("both signs", Lab.text(lab), "h0 abcdefghABC ~");
    }

    private static void typeRefusals() {
        RingCircuits lab = Lab.of(1);
        lab.type('x', 1);
        for (int n : new int[] {0, 9, -1, Integer.MIN_VALUE, Integer.MAX_VALUE}) {
            Check.due("type(.., " + n + ")", lab.type(0x6161616161616161L, n), -1);
        }
        for (long sign : new long[] {31, 127, 0, 128, 255, 161}) {
            Check.due("type(" + sign + ", 1)", lab.type(sign, 1), -1);
            Check.due("behind another one", lab.type(0x6100 + sign, 2), -1);
            Check.due("before another one", lab.type(sign << 8 | 0x61, 2), -1);
            Check.due("before seven others", lab.type(sign << 56 | 0x61616161616161L, 8), -1);
        }
        Check.due("nothing came in", Lab.text(lab), "x");
    }

    private static void typeFull() {
        RingCircuits lab = Lab.of(1);
        for (int i = 0; i < 39; i++) {
            lab.type(0x6161616161616161L, 8);
        }
        Check.due("to 319", lab.type(0x61616161616161L, 7), 319);
        Check.due("to 321", lab.type(0x6161, 2), -1);
        Check.due("to 327", lab.type(0x6161616161616161L, 8), -1);
        Check.due("to 320", lab.type('b', 1), 320);
        Check.due("to 321 by one", lab.type('b', 1), -1);
        Check.due("character(318)", lab.character(318), 'a');
        Check.due("character(319)", lab.character(319), 'b');
        Check.due("character(320)", lab.character(320), -1);
    }

    /** Promise 22. */
    private static void print() {
        String all = "h0 s1 t2 x3 z0 c12 d20 w31 o302";
        RingCircuits lab = Lab.of(4, all);
        lab.type('?', 1);
        Check.due("print(0)", lab.print(0), all.length());
        Check.due("the text", Lab.text(lab), all);
        Check.due("the circuit stays", Lab.told(lab, 0), all);
        Check.argument("print(3)", () -> lab.print(3));
        Check.argument("print(-1)", () -> lab.print(-1));
        Check.due("the text as before", Lab.text(lab), all);
        Check.due("type behind it", lab.type(' ', 1), all.length() + 1);
        Check.due("print(1) of none", lab.print(1), 0);
        Check.due("no text", Lab.text(lab), "");
    }

    private static void printLongest() {
        String all = Lab.repeated("o312", 64);
        RingCircuits lab = Lab.of(4, all);
        Check.due("print(0) of 64 CCX", lab.print(0), 319);
        Check.due("the text", Lab.text(lab), all);
        Check.due("read(1) of 64 CCX", lab.read(1), 64);
        Check.due("the circuit", Lab.told(lab, 1), all);
    }

    /** Promise 23. */
    private static void character() {
        RingCircuits lab = Lab.of(2, "c10");
        Check.due("character(0) of none", lab.character(0), -1);
        lab.print(0);
        Check.due("character(0)", lab.character(0), 'c');
        Check.due("character(2)", lab.character(2), '0');
        for (int i : new int[] {-1, 3, 320, Integer.MIN_VALUE, Integer.MAX_VALUE}) {
            Check.due("character(" + i + ")", lab.character(i), -1);
        }
        lab.read(1);
        Check.due("character(0) behind read", lab.character(0), -1);
    }

    /** Promise 24. */
    private static void read() {
        String all = "h0 s1 t2 x3 z0 c12 d20 w31 o302";
        RingCircuits lab = Lab.of(4, "x0");
        Lab.set(lab, 1, "h1 h1");
        Lab.type(lab, all);
        Check.due("read(1)", lab.read(1), 9);
        Check.due("the circuit", Lab.told(lab, 1), all);
        Check.due("no text left", Lab.text(lab), "");
        Check.due("other slots stay", Lab.told(lab, 0), "x0");
        Check.due("place() as before", lab.place(), -1);
        Check.due("read(1) of no text", lab.read(1), 0);
        Check.due("size(1)", lab.size(1), 0);
        Check.due("place() still", lab.place(), -1);
        Lab.type(lab, "t3");
        Check.due("read of one gate", lab.read(2), 1);
        Check.due("gateAt(2, 0)", lab.gateAt(2, 0), 33);
    }

    private static void readLeavesAll() {
        RingCircuits lab = Lab.of(2, "x0 h1");
        lab.state(0);
        Lab.type(lab, "t0 h2");
        Check.argument("read(0)", () -> lab.read(0));
        Check.due("the circuit as before", Lab.told(lab, 0), "x0 h1");
        Check.due("the text as before", Lab.text(lab), "t0 h2");
        Check.due("the state as before", lab.scale(), 1);
        Check.due("place()", lab.place(), 4);
        lab.print(0);
        Check.argument("read(3)", () -> lab.read(3));
        Check.argument("read(-1)", () -> lab.read(-1));
        Check.due("place() without a slot", lab.place(), 4);
        Check.due("the text without a slot", Lab.text(lab), "x0 h1");
        Check.due("read(1)", lab.read(1), 2);
        Check.due("place() stays when all is right", lab.place(), 4);
    }

    private static void wrongAt(int wires, String text, int due) {
        RingCircuits lab = Lab.of(wires);
        Lab.type(lab, text);
        Check.argument("read of '" + text + "'", () -> lab.read(0));
        Check.due("place() in '" + text + "'", lab.place(), due);
        Check.due("'" + text + "' stays", Lab.text(lab), text);
    }

    private static void places() {
        wrongAt(2, " h0", 0);
        wrongAt(2, " ", 0);
        wrongAt(2, "h0  x1", 3);
        wrongAt(2, "h0 ", 3);
        wrongAt(2, "h0  ", 3);
        wrongAt(2, "h", 1);
        wrongAt(2, "h0 c", 4);
        wrongAt(2, "h0 c1", 5);
        wrongAt(3, "o01", 3);
        wrongAt(2, "h2", 1);
        wrongAt(4, "h4", 1);
        wrongAt(1, "h1", 1);
        wrongAt(2, "h/", 1);
        wrongAt(2, "h:", 1);
        wrongAt(2, "h ", 1);
        wrongAt(2, "hh", 1);
        wrongAt(2, "h0x1", 2);
        wrongAt(2, "h01", 2);
        wrongAt(2, "c01x", 3);
        wrongAt(2, "c010", 3);
        wrongAt(2, "c00", 2);
        wrongAt(2, "c11", 2);
        wrongAt(2, "d02", 2);
        wrongAt(2, "c 0", 1);
        wrongAt(2, "c0 1", 2);
        wrongAt(3, "o011", 3);
        wrongAt(3, "o010", 3);
        wrongAt(3, "o001", 2);
        wrongAt(3, "o013", 3);
        wrongAt(2, "H0", 0);
        wrongAt(2, "y0", 0);
        wrongAt(2, "0h", 0);
        wrongAt(2, "h0,x0", 2);
        wrongAt(2, "x0 z1 q0", 6);
        wrongAt(2, "~", 0);
        // The letter may stand where no more wires are: the wire may not.
        wrongAt(1, "c01", 2);
        wrongAt(2, "o012", 3);
    }

    private static void sixtyFourGates() {
        String full = Lab.repeated("x1", 64);
        wrongAt(2, full + " x1", 192);
        wrongAt(2, full + " ", 192);
        wrongAt(2, full + "  ", 192);
        wrongAt(2, full + " ?", 192);
        wrongAt(2, full + " x1 x1", 192);
        wrongAt(2, full + "x", 191);
        wrongAt(2, full.substring(3) + " x2", 190);
        RingCircuits lab = Lab.of(2);
        Lab.type(lab, full);
        Check.due("read of 64 gates", lab.read(0), 64);
        Check.due("the circuit", Lab.told(lab, 0), full);
    }

    /** Promise 25. */
    private static void place() {
        RingCircuits lab = Lab.of(1);
        Check.due("place() before any", lab.place(), -1);
        lab.type('?', 1);
        Check.argument("read(0)", () -> lab.read(0));
        Check.due("place() at the beginning", lab.place(), 0);
        lab.wires(1);
        Check.due("place() stays with wires", lab.place(), 0);
        Lab.type(lab, "h0 h");
        Check.argument("read(0)", () -> lab.read(0));
        Check.due("place() latest", lab.place(), 4);
        Check.argument("read(0) again", () -> lab.read(0));
        Check.due("place() again", lab.place(), 4);
        lab.type('0', 1);
        Check.due("read(0) mended", lab.read(0), 2);
        Check.due("place() behind it", lab.place(), 4);
    }
}
