/** The edges that promises 21 to 25 name, a test for each sentence. */
public final class TextEdgesTest {
    private static final int LEAST = Integer.MIN_VALUE;
    private static final int MOST = Integer.MAX_VALUE;
    private static final long EIGHT = 0x6162636465666768L;

    public static void main(String[] args) {
        type();
        typeRefusals();
        print();
        character();
        read();
        readWires();
        readBlanks();
        readEnds();
        readMost();
        place();
        Check.end();
    }

    /** A text of so many letters. */
    private static RingCircuits typed(int many) {
        RingCircuits lab = Lab.of(1);
        for (int i = 0; i < many / 8; i++) {
            lab.type(EIGHT, 8);
        }
        for (int i = 0; i < many % 8; i++) {
            lab.type('y', 1);
        }
        return lab;
    }

    private static void type() {
        Sentences at = new Sentences("Promise 21: type");
        at.test("the lowest n bytes of characters, the highest of them first", () -> {
            for (int n = 1; n <= 8; n++) {
                RingCircuits lab = Lab.of(1);
                Check.due("type of " + n, lab.type(EIGHT, n), n);
                Check.due("the text of " + n, Lab.text(lab), "abcdefgh".substring(8 - n));
            }
            RingCircuits lab = Lab.of(1);
            Check.due("one byte below others", lab.type(0xFFFFFFFFFFFFFF41L, 1), 1);
            Check.due("seven bytes below 0", lab.type(0x0041424344454647L, 7), 8);
            Check.due("four bytes below signs that can't stand", lab.type(0x80001F7F7E207E20L, 4), 12);
            Check.due("the text", Lab.text(lab), "AABCDEFG~ ~ ");
        });
        at.test("how many it has", () -> {
            RingCircuits lab = typed(312);
            Check.due("8 more, behind 312", lab.type(EIGHT, 8), 320);
            Check.due("the last one", lab.character(319), 'h');
        });
    }

    private static void refused(RingCircuits lab, long characters, int n) {
        String call = "type(" + characters + ", " + n + ")";
        Refused.stays(lab, call, seen -> Check.due(call, seen.type(characters, n), RingCircuits.NONE));
    }

    private static void typeRefusals() {
        Sentences at = new Sentences("Promise 21: type");
        at.test("NONE, and nothing is done, when n is not 1 .. 8", () -> {
            for (int n : new int[] {0, 9, -1, 16, LEAST, MOST}) {
                refused(Lab.busy(), EIGHT, n);
            }
        });
        at.test("one is not 32 .. 126", () -> {
            for (long sign : new long[] {31, 127, 0, 128, 160, 255}) {
                for (int place = 0; place < 8; place++) {
                    refused(Lab.of(1), EIGHT & ~(255L << 8 * place) | sign << 8 * place, 8);
                }
                refused(Lab.busy(), sign, 1);
            }
            RingCircuits lab = Lab.of(1);
            Check.due("the lowest signs", lab.type(0x2020202020202020L, 8), 8);
            Check.due("the highest signs", lab.type(0x7E7E7E7E7E7E7E7EL, 8), 16);
            Check.due("the text", Lab.text(lab), "        ~~~~~~~~");
        });
        at.test("or there would be more than 320", () -> {
            Check.due("7 behind 313", typed(313).type(EIGHT, 7), 320);
            Check.due("1 behind 319", typed(319).type(EIGHT, 1), 320);
            for (int many = 313; many <= 320; many++) {
                RingCircuits lab = typed(many);
                Check.due("8 behind " + many, lab.type(EIGHT, 8), RingCircuits.NONE);
                Check.due("one too many behind " + many, lab.type(EIGHT, 321 - many), RingCircuits.NONE);
                Check.due("none came in", lab.character(many), RingCircuits.NONE);
                Check.due("the last one stays", lab.character(many - 1), many % 8 == 0 ? 'h' : 'y');
            }
        });
    }

    private static void print() {
        Sentences at = new Sentences("Promise 22: print");
        at.test("The text becomes that of a circuit: how many characters", () -> {
            RingCircuits lab = typed(320);
            Check.due("print of none", lab.print(0), 0);
            Check.due("no text is left", lab.character(0), RingCircuits.NONE);
            lab.gate(0, 1, 0, 0, 0);
            Check.due("print of one", lab.print(0), 2);
            Check.due("the text", Lab.text(lab), "h0");
            RingCircuits full = Lab.of(3, Lab.repeated("o210", 64));
            Check.due("print of 64", full.print(0), 319);
            Check.due("the last one", full.character(318), '0');
            Check.due("one behind it", full.type(' ', 1), 320);
        });
        at.test("IllegalArgumentException when there is no such slot", () -> {
            for (int slot : Refused.NO_SLOTS) {
                Refused.argument("print(" + slot + ")", lab -> lab.print(slot));
            }
        });
    }

    private static void character() {
        Sentences at = new Sentences("Promise 23: character");
        at.test("NONE when there is none", () -> {
            RingCircuits lab = Lab.of(1);
            Check.due("character(0) of none", lab.character(0), RingCircuits.NONE);
            lab.type(EIGHT, 8);
            Check.due("the first one", lab.character(0), 'a');
            Check.due("the last one", lab.character(7), 'h');
            for (int i : new int[] {8, -1, 319, 320, LEAST, MOST}) {
                Check.due("character(" + i + ") of 8", lab.character(i), RingCircuits.NONE);
            }
            RingCircuits full = typed(320);
            Check.due("character(319) of 320", full.character(319), 'h');
            Check.due("character(320) of 320", full.character(320), RingCircuits.NONE);
            full.print(0);
            Check.due("character(0) behind print of none", full.character(0), RingCircuits.NONE);
            Check.due("character(319) behind print of none", full.character(319), RingCircuits.NONE);
        });
    }

    /** The text must be refused with this place, and it stays as the circuit does. */
    private static void wrongAt(int wires, String text, int place) {
        RingCircuits lab = Lab.of(wires, "h0");
        Lab.type(lab, text);
        Check.argument("read of '" + text + "'", () -> lab.read(0));
        Check.due("place() in '" + text + "'", lab.place(), place);
        Check.due("the text stays", Lab.text(lab), text);
        Check.due("the circuit stays behind '" + text + "'", Lab.told(lab, 0), "h0");
    }

    private static void becomes(int wires, String text, int gates) {
        RingCircuits lab = Lab.of(wires, "h0");
        Lab.type(lab, text);
        Check.due("read of '" + text + "'", lab.read(0), gates);
        Check.due("the circuit of '" + text + "'", Lab.told(lab, 0), text);
        Check.due("no text is left", lab.character(0), RingCircuits.NONE);
        Check.due("place() when nothing is wrong", lab.place(), RingCircuits.NONE);
    }

    private static void read() {
        Sentences at = new Sentences("Promise 24: read");
        at.test("The text becomes a circuit's gates, and is empty then: how many", () -> {
            becomes(1, "h0", 1);
            becomes(4, "h3 s2 t1 x0 z3 c30 d03 w12 o321 o012", 10);
        });
        at.test("IllegalArgumentException when there is no such slot", () -> {
            for (int slot : Refused.NO_SLOTS) {
                Refused.argument("read(" + slot + ")", lab -> lab.read(slot));
                RingCircuits right = Lab.of(1);
                Lab.type(right, "t0 h0");
                Refused.argument(right, "read(" + slot + ") of a right text", lab -> lab.read(slot));
            }
        });
        at.test("(the empty one is)", () -> {
            becomes(1, "", 0);
            RingCircuits lab = Lab.busy();
            lab.print(0);
            lab.read(1);
            Check.due("read of none", lab.read(0), 0);
            Check.due("the circuit of none", lab.size(0), 0);
            Check.due("place() as before", lab.place(), 3);
        });
        at.test("the text stays", () -> {
            RingCircuits lab = Lab.of(1);
            Lab.type(lab, "h0 t");
            Check.argument("read too early", () -> lab.read(0));
            Check.due("the text", Lab.text(lab), "h0 t");
            lab.type('0', 1);
            Check.due("read of what was mended", lab.read(0), 2);
        });
    }

    private static void readWires() {
        Sentences at = new Sentences("Promise 24: read");
        at.test("or it is no text of gates with wires that there are", () -> {
            for (int wires = 1; wires <= 4; wires++) {
                becomes(wires, "x" + (wires - 1), 1);
                wrongAt(wires, "x" + wires, 1);
                wrongAt(wires, "x0 x" + wires, 4);
                wrongAt(wires, "x/", 1);
                wrongAt(wires, "x9", 1);
                wrongAt(wires, "x:", 1);
                wrongAt(wires, "x0 c0" + wires, 5);
            }
            wrongAt(3, "c11", 2);
            wrongAt(3, "o001", 2);
            wrongAt(3, "o010", 3);
            wrongAt(3, "o011", 3);
            wrongAt(3, "o013", 3);
        });
        at.test("the place is that of the first character that can't stand there", () -> {
            wrongAt(2, "0", 0);
            wrongAt(2, "y0", 0);
            wrongAt(2, "H0", 0);
            wrongAt(2, "xx", 1);
            wrongAt(2, "x01", 2);
            wrongAt(2, "x0x1", 2);
            wrongAt(2, "x0,x1", 2);
            wrongAt(2, "c01x", 3);
            wrongAt(2, "x0 1", 3);
            // Two that can't stand there: the first one is told.
            wrongAt(2, "x0 x7 y", 4);
        });
    }

    private static void readBlanks() {
        Sentences at = new Sentences("Promise 24: read");
        at.test("(as a second blank, or one at the beginning;", () -> {
            wrongAt(2, "x0  x1", 3);
            wrongAt(2, "x0   x1", 3);
            wrongAt(2, "x0  ", 3);
            wrongAt(2, "x0 x1  x0", 6);
            wrongAt(2, " x0", 0);
            wrongAt(2, "  x0", 0);
            wrongAt(2, " ", 0);
            wrongAt(2, "x 0", 1);
            wrongAt(2, "c 01", 1);
            wrongAt(2, "c0 1", 2);
        });
    }

    private static void readEnds() {
        Sentences at = new Sentences("Promise 24: read");
        at.test("the text's length when it ends too early, also behind a blank;", () -> {
            for (char letter : "hstxzcdwo".toCharArray()) {
                wrongAt(3, "" + letter, 1);
            }
            for (char letter : "cdwo".toCharArray()) {
                wrongAt(3, letter + "2", 2);
            }
            wrongAt(3, "o20", 3);
            wrongAt(3, "o201 x", 6);
            wrongAt(3, "o201 ", 5);
            wrongAt(3, "x0 ", 3);
            // As long as a text can be: 64 gates of four characters, and a blank behind each.
            wrongAt(3, Lab.repeated("o201", 64) + " ", 320);
        });
    }

    private static void readMost() {
        Sentences at = new Sentences("Promise 24: read");
        at.test("64 at most", () -> {
            RingCircuits lab = Lab.of(3);
            Lab.type(lab, Lab.repeated("o201", 64));
            Check.due("read of 64", lab.read(0), 64);
            Check.due("the last one", lab.gateAt(0, 63), 1029);
            becomes(1, Lab.repeated("x0", 63), 63);
            becomes(1, Lab.repeated("x0", 64), 64);
            wrongAt(1, Lab.repeated("x0", 65), 192);
        });
        at.test("the first character of the 65th gate)", () -> {
            String full = Lab.repeated("x0", 64);
            wrongAt(2, full + " c01", 192);
            wrongAt(2, full + " c", 192);
            wrongAt(2, full + " y", 192);
            wrongAt(2, full + "  x0", 192);
            wrongAt(2, full + " x0 x0", 192);
            wrongAt(2, full + " ", 192);
            // Those before it are looked at first.
            wrongAt(2, full + "1 x0", 191);
            wrongAt(2, Lab.repeated("x0", 63) + " x2 x0", 190);
        });
    }

    private static void place() {
        Sentences at = new Sentences("Promise 25: place");
        at.test("NONE before any", () -> {
            RingCircuits lab = Lab.of(1);
            Check.due("place() at first", lab.place(), RingCircuits.NONE);
            lab.type('x', 1);
            Check.argument("read(3)", () -> lab.read(3));
            Check.due("place() behind no slot", lab.place(), RingCircuits.NONE);
            lab.type('0', 1);
            lab.read(0);
            Check.due("place() behind a right text", lab.place(), RingCircuits.NONE);
        });
        at.test("The place where a text that was read was wrong latest, from 0", () -> {
            RingCircuits lab = Lab.of(1);
            Lab.type(lab, "x0 ?");
            Check.argument("read too far", () -> lab.read(0));
            Check.due("place() of the first", lab.place(), 3);
            lab.print(0);
            Lab.type(lab, "?");
            Check.argument("read of ?", () -> lab.read(0));
            Check.due("place() of the latest", lab.place(), 0);
            lab.print(0);
            Check.due("read of a right text", lab.read(0), 0);
            Check.due("place() stays", lab.place(), 0);
        });
    }
}
