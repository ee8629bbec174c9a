import java.util.Arrays;

/**
 * A laboratory of exact circuits on up to four wires. Every number is (a + b w + c w^2 + d w^3) over the
 * root of two to a scale, w being the eighth root of one, so that no answer is ever rounded.
 */
public final class RingCircuits {
    public static final int NONE = -1;

    private static final int MOST_WIRES = 4;
    private static final int MOST_GATES = 64;

    private final Circuit first;
    private final Circuit second;
    private final Circuit third;
    // A circuit is built here and taken over when it is whole: what throws must leave the old one.
    private final Circuit spare;
    private final Column amplitudes;
    // The columns that two circuits are compared by, made once since each comparison needs them.
    private final Column left;
    private final Column right;
    private final Signs signs;
    private final LeastForm form;
    private final Text text;
    private int wireCount;
    private boolean hasState;
    private int phase;
    private int place;

    public RingCircuits() {
        first = new Circuit();
        second = new Circuit();
        third = new Circuit();
        spare = new Circuit();
        amplitudes = new Column();
        left = new Column();
        right = new Column();
        signs = new Signs();
        form = new LeastForm();
        text = new Text();
        wireCount = 1;
        hasState = false;
        phase = 0;
        place = NONE;
    }

    public void wires(int n) throws IllegalArgumentException {
        if (n < 1 || n > MOST_WIRES) {
            throw new IllegalArgumentException("there are 1 to 4 wires");
        }
        first.removeAll();
        second.removeAll();
        third.removeAll();
        text.removeAll();
        hasState = false;
        wireCount = n;
    }

    public int gate(int slot, int kind, int a, int b, int c) throws IllegalArgumentException, IllegalStateException {
        Circuit circuit = inSlot(slot);
        if (circuit == null || !Gate.canStand(kind, a, b, c, wireCount)) {
            throw new IllegalArgumentException("no such slot, kind or wires");
        }
        if (circuit.count() >= MOST_GATES) {
            throw new IllegalStateException("the circuit is full");
        }
        circuit.add(Gate.of(kind, a, b, c));
        return circuit.count();
    }

    public int size(int slot) {
        Circuit circuit = inSlot(slot);
        return circuit == null ? NONE : circuit.count();
    }

    public int gateAt(int slot, int i) {
        Circuit circuit = inSlot(slot);
        return circuit == null ? NONE : circuit.at(i);
    }

    public void clear(int slot) throws IllegalArgumentException {
        Circuit circuit = inSlot(slot);
        if (circuit == null) {
            throw new IllegalArgumentException("no such slot");
        }
        circuit.removeAll();
    }

    public int append(int slot, int other) throws IllegalArgumentException, IllegalStateException {
        Circuit circuit = inSlot(slot);
        Circuit behind = inSlot(other);
        if (circuit == null || behind == null) {
            throw new IllegalArgumentException("no such slot");
        }
        if (circuit.count() + behind.count() > MOST_GATES) {
            throw new IllegalStateException("too many gates");
        }
        circuit.addAll(behind);
        return circuit.count();
    }

    public int inverse(int slot) throws IllegalArgumentException, IllegalStateException {
        Circuit circuit = inSlot(slot);
        if (circuit == null) {
            throw new IllegalArgumentException("no such slot");
        }
        if (circuit.countInverted() > MOST_GATES) {
            throw new IllegalStateException("too many gates");
        }
        spare.removeAll();
        spare.addInverted(circuit);
        circuit.become(spare);
        return circuit.count();
    }

    public int expand(int slot) throws IllegalArgumentException, IllegalStateException {
        Circuit circuit = inSlot(slot);
        if (circuit == null) {
            throw new IllegalArgumentException("no such slot");
        }
        if (circuit.countExpanded() > MOST_GATES) {
            throw new IllegalStateException("too many gates");
        }
        spare.removeAll();
        spare.addExpanded(circuit);
        circuit.become(spare);
        return circuit.count();
    }

    public int optimise(int slot) throws IllegalArgumentException {
        Circuit circuit = inSlot(slot);
        if (circuit == null) {
            throw new IllegalArgumentException("no such slot");
        }
        circuit.rewriteAll();
        return circuit.count();
    }

    public int least(int slot) throws IllegalArgumentException, IllegalStateException {
        Circuit circuit = inSlot(slot);
        if (circuit == null || !circuit.isOnOneWire()) {
            throw new IllegalArgumentException("no such slot, or not of gates 1 to 5 on one wire");
        }
        form.take(circuit);
        if (form.countGates() > MOST_GATES) {
            throw new IllegalStateException("the least form has too many gates");
        }
        spare.removeAll();
        form.addTo(spare, Gate.a(circuit.at(0)));
        phase = firstTurn(circuit, spare);
        circuit.become(spare);
        return form.countT();
    }

    public int equal(int slot, int other) throws IllegalArgumentException {
        Circuit one = inSlot(slot);
        Circuit two = inSlot(other);
        if (one == null || two == null) {
            throw new IllegalArgumentException("no such slot");
        }
        int turn = firstTurn(one, two);
        if (turn == NONE || !isTurned(one, two, turn)) {
            return 0;
        }
        phase = turn;
        return turn == 0 ? 1 : 2;
    }

    public int phase() {
        return phase;
    }

    public int differ(int slot, int other) throws IllegalArgumentException {
        Circuit one = inSlot(slot);
        Circuit two = inSlot(other);
        if (one == null || two == null) {
            throw new IllegalArgumentException("no such slot");
        }
        for (int basis = 0; basis < basisStates(); basis++) {
            runBoth(one, two, basis);
            int row = left.firstDifference(right);
            if (row != NONE) {
                return 16 * basis + row;
            }
        }
        return NONE;
    }

    public int state(int slot) throws IllegalArgumentException {
        Circuit circuit = inSlot(slot);
        if (circuit == null) {
            throw new IllegalArgumentException("no such slot");
        }
        amplitudes.run(circuit, 0, wireCount, circuit.countKind(Gate.H));
        amplitudes.lower();
        hasState = true;
        return amplitudes.exponent();
    }

    public long amplitude(int basis, int part) throws IllegalStateException, IndexOutOfBoundsException {
        if (!hasState) {
            throw new IllegalStateException("there is no state");
        }
        if (basis < 0 || basis >= basisStates() || part < 0 || part >= Column.PARTS) {
            throw new IndexOutOfBoundsException("no such basis state or part");
        }
        return amplitudes.part(basis, part);
    }

    public int scale() {
        return hasState ? amplitudes.exponent() : NONE;
    }

    public long weight(int wire, int value, int part) throws IllegalStateException, IndexOutOfBoundsException {
        if (!hasState) {
            throw new IllegalStateException("there is no state");
        }
        if (!isWire(wire) || value < 0 || value > 1 || part < 0 || part > 1) {
            throw new IndexOutOfBoundsException("no such wire, value or part");
        }
        return part == 0 ? amplitudes.weightWhole(wire, value) : amplitudes.weightRoot(wire, value);
    }

    public boolean measure(int wire, int value) throws IllegalStateException, IndexOutOfBoundsException {
        if (!hasState) {
            throw new IllegalStateException("there is no state");
        }
        if (!isWire(wire) || value < 0 || value > 1) {
            throw new IndexOutOfBoundsException("no such wire or value");
        }
        if (!amplitudes.hasAny(wire, value)) {
            return false;
        }
        amplitudes.keepOnly(wire, value);
        amplitudes.lower();
        return true;
    }

    public int row(int slot, int wire) throws IllegalArgumentException, IllegalStateException {
        Circuit circuit = inSlot(slot);
        if (circuit == null || !isWire(wire)) {
            throw new IllegalArgumentException("no such slot or wire");
        }
        if (circuit.countKind(Gate.T) + circuit.countKind(Gate.CCX) > 0) {
            throw new IllegalStateException("no Clifford circuit");
        }
        signs.begin(wire);
        for (int i = 0; i < circuit.count(); i++) {
            signs.pass(circuit.at(i));
        }
        return signs.digits();
    }

    public int type(long characters, int n) {
        return text.addBytes(characters, n) ? text.count() : NONE;
    }

    public int print(int slot) throws IllegalArgumentException {
        Circuit circuit = inSlot(slot);
        if (circuit == null) {
            throw new IllegalArgumentException("no such slot");
        }
        text.write(circuit);
        return text.count();
    }

    public int character(int i) {
        return text.at(i);
    }

    public int read(int slot) throws IllegalArgumentException {
        Circuit circuit = inSlot(slot);
        if (circuit == null) {
            throw new IllegalArgumentException("no such slot");
        }
        int wrong = text.parse(spare, wireCount);
        if (wrong != NONE) {
            place = wrong;
            throw new IllegalArgumentException("no text of gates");
        }
        circuit.become(spare);
        text.removeAll();
        return circuit.count();
    }

    public int place() {
        return place;
    }

    private Circuit inSlot(int slot) {
        if (slot == 0) {
            return first;
        }
        if (slot == 1) {
            return second;
        }
        return slot == 2 ? third : null;
    }

    private boolean isWire(int wire) {
        return wire >= 0 && wire < wireCount;
    }

    private int basisStates() {
        return 1 << wireCount;
    }

    /** Both columns come with one scale, so that it is enough to compare their parts. */
    private void runBoth(Circuit one, Circuit two, int basis) {
        int exponent = Math.max(one.countKind(Gate.H), two.countKind(Gate.H));
        left.run(one, basis, wireCount, exponent);
        right.run(two, basis, wireCount, exponent);
    }

    /** The power of w by which the first column of one is that of two: no other can hold for all columns. */
    private int firstTurn(Circuit one, Circuit two) {
        runBoth(one, two, 0);
        for (int turn = 0; turn < 8; turn++) {
            if (left.isTurned(right, turn)) {
                return turn;
            }
        }
        return NONE;
    }

    private boolean isTurned(Circuit one, Circuit two, int turn) {
        for (int basis = 0; basis < basisStates(); basis++) {
            runBoth(one, two, basis);
            if (!left.isTurned(right, turn)) {
                return false;
            }
        }
        return true;
    }

    /** A gate is one number, as gateAt tells it: its kind, and 10, 100 and 1000 times its wires. */
    private static final class Gate {
        static final int H = 1;
        static final int S = 2;
        static final int T = 3;
        static final int X = 4;
        static final int Z = 5;
        static final int CX = 6;
        static final int CZ = 7;
        static final int SWAP = 8;
        static final int CCX = 9;

        static boolean canStand(int kind, int a, int b, int c, int wires) {
            if (kind < H || kind > CCX || a < 0 || a >= wires) {
                return false;
            }
            int needs = wiresOf(kind);
            if (needs >= 2 && (b < 0 || b >= wires || b == a)) {
                return false;
            }
            return needs < 3 || (c >= 0 && c < wires && c != a && c != b);
        }

        static int of(int kind, int a, int b, int c) {
            int needs = wiresOf(kind);
            return kind + 10 * a + (needs >= 2 ? 100 * b : 0) + (needs >= 3 ? 1000 * c : 0);
        }

        static int wiresOf(int kind) {
            if (kind == CCX) {
                return 3;
            }
            return kind >= CX ? 2 : 1;
        }

        static int kind(int gate) {
            return gate % 10;
        }

        static int a(int gate) {
            return gate / 10 % 10;
        }

        static int b(int gate) {
            return gate / 100 % 10;
        }

        static int c(int gate) {
            return gate / 1000 % 10;
        }

        /** The bits of all wires that a gate has. */
        static int wireBits(int gate) {
            int needs = wiresOf(kind(gate));
            return (1 << a(gate)) | (needs >= 2 ? 1 << b(gate) : 0) | (needs >= 3 ? 1 << c(gate) : 0);
        }

        static boolean flips(int gate) {
            int kind = kind(gate);
            return kind == X || kind == CX || kind == CCX;
        }

        static int targetBit(int gate) {
            int kind = kind(gate);
            if (kind == CCX) {
                return 1 << c(gate);
            }
            return kind == CX ? 1 << b(gate) : 1 << a(gate);
        }

        /** Of a gate that flips: the bits that must all be 1 for it. */
        static int controlBits(int gate) {
            int kind = kind(gate);
            if (kind == CCX) {
                return (1 << a(gate)) | (1 << b(gate));
            }
            return kind == CX ? 1 << a(gate) : 0;
        }

        static int turns(int gate) {
            int kind = kind(gate);
            if (kind == T) {
                return 1;
            }
            if (kind == S) {
                return 2;
            }
            return kind == Z ? 4 : 0;
        }

        /** Turns are 2, 4 or 8 together just for two T, two S or two Z: all that meet are of one kind. */
        static boolean meet(int one, int two) {
            int kind = kind(one);
            if (kind != kind(two)) {
                return false;
            }
            if (kind == CZ || kind == SWAP) {
                return wireBits(one) == wireBits(two);
            }
            if (kind == CCX) {
                return c(one) == c(two) && wireBits(one) == wireBits(two);
            }
            return one == two;
        }

        /** What comes in place of the first of two gates that meet; NONE where both just go. */
        static int united(int gate) {
            int kind = kind(gate);
            if (kind == T) {
                return of(S, a(gate), 0, 0);
            }
            return kind == S ? of(Z, a(gate), 0, 0) : NONE;
        }

        static boolean pass(int one, int two) {
            if ((wireBits(one) & wireBits(two)) == 0) {
                return true;
            }
            if (onlyTurns(one) && onlyTurns(two)) {
                return true;
            }
            return slipsBy(one, two) || slipsBy(two, one);
        }

        private static boolean onlyTurns(int gate) {
            return turns(gate) > 0 || kind(gate) == CZ;
        }

        private static boolean slipsBy(int small, int controlled) {
            int kind = kind(controlled);
            if (kind != CX && kind != CCX) {
                return false;
            }
            if (turns(small) > 0) {
                return (controlBits(controlled) & wireBits(small)) != 0;
            }
            return kind(small) == X && targetBit(controlled) == wireBits(small);
        }
    }

    private static final class Circuit {
        private final int[] gates;
        private int count;

        Circuit() {
            gates = new int[MOST_GATES];
            count = 0;
        }

        int count() {
            return count;
        }

        int at(int i) {
            return i >= 0 && i < count ? gates[i] : NONE;
        }

        void removeAll() {
            count = 0;
        }

        void add(int gate) {
            if (count < MOST_GATES) {
                gates[count] = gate;
                count++;
            }
        }

        void addAll(Circuit other) {
            // The other may be this one, which grows meanwhile.
            int most = other.count;
            for (int i = 0; i < most; i++) {
                add(other.at(i));
            }
        }

        void become(Circuit other) {
            removeAll();
            addAll(other);
        }

        int countKind(int kind) {
            int found = 0;
            for (int i = 0; i < count; i++) {
                found += Gate.kind(gates[i]) == kind ? 1 : 0;
            }
            return found;
        }

        boolean isOnOneWire() {
            for (int i = 0; i < count; i++) {
                if (Gate.kind(gates[i]) > Gate.Z || Gate.a(gates[i]) != Gate.a(gates[0])) {
                    return false;
                }
            }
            return true;
        }

        int countInverted() {
            return count + countKind(Gate.S) + 2 * countKind(Gate.T);
        }

        void addInverted(Circuit other) {
            for (int i = other.count - 1; i >= 0; i--) {
                int gate = other.at(i);
                int kind = Gate.kind(gate);
                if (kind == Gate.T) {
                    addBackTurn(Gate.a(gate));
                } else {
                    add(gate);
                    if (kind == Gate.S) {
                        addOn(Gate.Z, Gate.a(gate));
                    }
                }
            }
        }

        int countExpanded() {
            return count + 20 * countKind(Gate.CCX);
        }

        void addExpanded(Circuit other) {
            for (int i = 0; i < other.count; i++) {
                int gate = other.at(i);
                if (Gate.kind(gate) == Gate.CCX) {
                    addParts(Gate.a(gate), Gate.b(gate), Gate.c(gate));
                } else {
                    add(gate);
                }
            }
        }

        private void addParts(int a, int b, int c) {
            addOn(Gate.H, c);
            addControlled(b, c);
            addBackTurn(c);
            addControlled(a, c);
            addOn(Gate.T, c);
            addControlled(b, c);
            addBackTurn(c);
            addControlled(a, c);
            addOn(Gate.T, b);
            addOn(Gate.T, c);
            addOn(Gate.H, c);
            addControlled(a, b);
            addOn(Gate.T, a);
            addBackTurn(b);
            addControlled(a, b);
        }

        private void addOn(int kind, int wire) {
            add(Gate.of(kind, wire, 0, 0));
        }

        private void addControlled(int control, int target) {
            add(Gate.of(Gate.CX, control, target, 0));
        }

        /** The inverse of T has no kind of its own: seven turns forward are one back. */
        private void addBackTurn(int wire) {
            addOn(Gate.T, wire);
            addOn(Gate.S, wire);
            addOn(Gate.Z, wire);
        }

        void rewriteAll() {
            boolean again = true;
            // Each time one gate goes at least.
            for (int most = MOST_GATES; most > 0 && again; most--) {
                again = rewriteOne();
            }
        }

        private boolean rewriteOne() {
            for (int i = 0; i < count; i++) {
                int partner = partnerOf(i);
                if (partner != NONE) {
                    unite(i, partner);
                    return true;
                }
            }
            return false;
        }

        /** The first gate behind gate i that it meets, all between them being such as it passes. */
        private int partnerOf(int i) {
            for (int j = i + 1; j < count; j++) {
                if (Gate.meet(gates[i], gates[j])) {
                    return j;
                }
                if (!Gate.pass(gates[i], gates[j])) {
                    return NONE;
                }
            }
            return NONE;
        }

        private void unite(int i, int j) {
            int united = Gate.united(gates[i]);
            removeAt(j);
            if (united == NONE) {
                removeAt(i);
            } else {
                gates[i] = united;
            }
        }

        private void removeAt(int i) {
            for (int j = i + 1; j < count; j++) {
                gates[j - 1] = gates[j];
            }
            count--;
        }
    }

    /** What becomes of a basis state: an amplitude for each basis state, all with one scale. */
    private static final class Column {
        static final int PARTS = 4;

        private final long[] parts;
        private int states;
        private int exponent;

        Column() {
            parts = new long[PARTS << MOST_WIRES];
            states = 1;
            exponent = 0;
        }

        int exponent() {
            return exponent;
        }

        long part(int basis, int part) {
            int i = PARTS * basis + part;
            return i >= 0 && i < parts.length ? parts[i] : 0;
        }

        /** The scale that is due must not be less than the circuit's number of H. */
        void run(Circuit circuit, int basis, int wires, int due) {
            Arrays.fill(parts, 0);
            states = 1 << wires;
            exponent = 0;
            if (basis >= 0 && basis < states) {
                parts[PARTS * basis] = 1;
            }
            for (int spare = due - circuit.countKind(Gate.H); spare > 0; spare--) {
                raise();
            }
            for (int i = 0; i < circuit.count(); i++) {
                apply(circuit.at(i));
            }
        }

        private void apply(int gate) {
            int kind = Gate.kind(gate);
            if (kind == Gate.H) {
                mix(1 << Gate.a(gate));
            } else if (kind == Gate.SWAP) {
                trade(1 << Gate.a(gate), 1 << Gate.b(gate));
            } else if (Gate.flips(gate)) {
                flip(Gate.controlBits(gate), Gate.targetBit(gate));
            } else {
                turn(Gate.wireBits(gate), kind == Gate.CZ ? 4 : Gate.turns(gate));
            }
        }

        private void mix(int bit) {
            for (int low = 0; low < states; low++) {
                if ((low & bit) == 0) {
                    mixPair(PARTS * low, PARTS * (low | bit));
                }
            }
            exponent++;
        }

        private void mixPair(int low, int high) {
            for (int part = 0; part < PARTS; part++) {
                long sum = parts[low + part] + parts[high + part];
                parts[high + part] = parts[low + part] - parts[high + part];
                parts[low + part] = sum;
            }
        }

        private void trade(int one, int two) {
            for (int basis = 0; basis < states; basis++) {
                if ((basis & one) != 0 && (basis & two) == 0) {
                    exchange(PARTS * basis, PARTS * (basis ^ one ^ two));
                }
            }
        }

        private void flip(int controls, int target) {
            for (int basis = 0; basis < states; basis++) {
                if ((basis & controls) == controls && (basis & target) == 0) {
                    exchange(PARTS * basis, PARTS * (basis | target));
                }
            }
        }

        private void exchange(int i, int j) {
            for (int part = 0; part < PARTS; part++) {
                long kept = parts[i + part];
                parts[i + part] = parts[j + part];
                parts[j + part] = kept;
            }
        }

        private void turn(int bits, int eighths) {
            for (int basis = 0; basis < states; basis++) {
                if ((basis & bits) == bits) {
                    turnOne(PARTS * basis, eighths);
                }
            }
        }

        private void turnOne(int i, int eighths) {
            for (int step = 0; step < eighths; step++) {
                // w^4 is -1: what leaves at the end comes back with the other sign.
                long last = parts[i + 3];
                parts[i + 3] = parts[i + 2];
                parts[i + 2] = parts[i + 1];
                parts[i + 1] = parts[i];
                parts[i] = -last;
            }
        }

        /** The same amplitudes over one root of two more. */
        private void raise() {
            for (int basis = 0; basis < states; basis++) {
                timesRoot(PARTS * basis);
            }
            exponent++;
        }

        private void timesRoot(int i) {
            long a = parts[i];
            long b = parts[i + 1];
            long c = parts[i + 2];
            long d = parts[i + 3];
            parts[i] = b - d;
            parts[i + 1] = a + c;
            parts[i + 2] = b + d;
            parts[i + 3] = c - a;
        }

        void lower() {
            for (; exponent > 0 && canBeDivided(); exponent--) {
                divide();
            }
        }

        private boolean canBeDivided() {
            long odd = 0;
            for (int basis = 0; basis < states; basis++) {
                int i = PARTS * basis;
                odd |= (parts[i] ^ parts[i + 2]) | (parts[i + 1] ^ parts[i + 3]);
            }
            return (odd & 1) == 0;
        }

        private void divide() {
            for (int basis = 0; basis < states; basis++) {
                int i = PARTS * basis;
                // Over the root of two is times the root of two over 2.
                timesRoot(i);
                for (int part = 0; part < PARTS; part++) {
                    parts[i + part] >>= 1;
                }
            }
        }

        /** The first basis state whose amplitude is another one there, both having one scale. */
        int firstDifference(Column other) {
            for (int basis = 0; basis < states; basis++) {
                for (int part = 0; part < PARTS; part++) {
                    if (part(basis, part) != other.part(basis, part)) {
                        return basis;
                    }
                }
            }
            return NONE;
        }

        /** Whether this is the other one times a power of w, both having one scale. */
        boolean isTurned(Column other, int power) {
            for (int basis = 0; basis < states; basis++) {
                for (int part = 0; part < PARTS; part++) {
                    int from = (part - power) & 7;
                    long due = from < PARTS ? other.part(basis, from) : -other.part(basis, from - PARTS);
                    if (part(basis, part) != due) {
                        return false;
                    }
                }
            }
            return true;
        }

        long weightWhole(int wire, int value) {
            long sum = 0;
            for (int basis = 0; basis < states; basis++) {
                if (((basis >> wire) & 1) == value) {
                    int i = PARTS * basis;
                    sum += parts[i] * parts[i] + parts[i + 1] * parts[i + 1];
                    sum += parts[i + 2] * parts[i + 2] + parts[i + 3] * parts[i + 3];
                }
            }
            return sum;
        }

        long weightRoot(int wire, int value) {
            long sum = 0;
            for (int basis = 0; basis < states; basis++) {
                if (((basis >> wire) & 1) == value) {
                    int i = PARTS * basis;
                    sum += parts[i] * parts[i + 1] + parts[i + 1] * parts[i + 2];
                    sum += parts[i + 2] * parts[i + 3] - parts[i + 3] * parts[i];
                }
            }
            return sum;
        }

        boolean hasAny(int wire, int value) {
            for (int i = 0; i < PARTS * states; i++) {
                if ((((i / PARTS) >> wire) & 1) == value && parts[i] != 0) {
                    return true;
                }
            }
            return false;
        }

        void keepOnly(int wire, int value) {
            for (int i = 0; i < PARTS * states; i++) {
                if ((((i / PARTS) >> wire) & 1) != value) {
                    parts[i] = 0;
                }
            }
        }
    }

    /** A product of signs: on wire i stands X where bit i of x is 1, Z where that of z is, and Y for both. */
    private static final class Signs {
        private int x;
        private int z;
        private int minus;

        void begin(int wire) {
            x = 0;
            z = 1 << wire;
            minus = 0;
        }

        private static int bit(int bits, int wire) {
            return (bits >> wire) & 1;
        }

        /** The product becomes what the gate makes of it: gate, product, gate's inverse. */
        void pass(int gate) {
            int a = Gate.a(gate);
            int b = Gate.b(gate);
            switch (Gate.kind(gate)) {
                case Gate.H:
                    passH(a);
                    break;
                case Gate.S:
                    minus ^= bit(x, a) & bit(z, a);
                    z ^= bit(x, a) << a;
                    break;
                case Gate.X:
                    minus ^= bit(z, a);
                    break;
                case Gate.Z:
                    minus ^= bit(x, a);
                    break;
                case Gate.CX:
                    passCX(a, b);
                    break;
                case Gate.CZ:
                    // CZ is CX between two H on b.
                    passH(b);
                    passCX(a, b);
                    passH(b);
                    break;
                case Gate.SWAP:
                    x = traded(x, a, b);
                    z = traded(z, a, b);
                    break;
                default:
                    break;
            }
        }

        private void passH(int a) {
            int unlike = bit(x, a) ^ bit(z, a);
            minus ^= bit(x, a) & bit(z, a);
            x ^= unlike << a;
            z ^= unlike << a;
        }

        private void passCX(int a, int b) {
            // Only X Z and Y Y on a and b get a sign, since each of them becomes the other with -1.
            minus ^= bit(x, a) & bit(z, b) & (1 ^ bit(x, b) ^ bit(z, a));
            x ^= bit(x, a) << b;
            z ^= bit(z, b) << a;
        }

        private static int traded(int bits, int a, int b) {
            int unlike = bit(bits, a) ^ bit(bits, b);
            return bits ^ (unlike << a) ^ (unlike << b);
        }

        int digits() {
            int number = 256 * minus;
            for (int wire = 0; wire < MOST_WIRES; wire++) {
                int digit = bit(x, wire) == 1 ? 1 + bit(z, wire) : 3 * bit(z, wire);
                number += digit << (2 * wire);
            }
            return number;
        }
    }

    /**
     * The least form on one wire, built from the last gate of a circuit to its first. Its matrix is then always
     * head T head T .. head T rest: the heads are what stands behind the T in time, only the first of them may
     * be nothing, and the rest is a circuit of H and S, of which nothing but its rotation is kept.
     *
     * A rotation is three digits: what becomes of the signs X, Y and Z (0, 1, 2, and 3, 4, 5 with -1).
     */
    private static final class LeastForm {
        private static final int STILL = 12;
        private static final int ROTATION_H = 240;
        private static final int ROTATION_S = 132;
        private static final int ROTATION_BACK_S = 402;
        private static final int ROTATION_X = 45;
        private static final int ROTATION_Z = 342;

        private static final int HEAD_NOTHING = 0;
        private static final int HEAD_H = 1;
        private static final int HEAD_H_S = 2;

        // A word is a number: behind its highest bit a 0 for H, a 1 for S, in time. So the shortest words come
        // first, and of these the first in the order of letters. All 24 rotations have one of at most 7 letters.
        private static final int MOST_WORDS = 1 << 8;

        private final int[] heads;
        private int count;
        private int rest;
        private int word;

        LeastForm() {
            heads = new int[MOST_GATES];
            count = 0;
            rest = STILL;
            word = 1;
        }

        void take(Circuit circuit) {
            count = 0;
            rest = STILL;
            for (int i = circuit.count() - 1; i >= 0; i--) {
                int kind = Gate.kind(circuit.at(i));
                if (kind == Gate.T) {
                    takeT();
                } else {
                    rest = product(rest, rotationOf(kind));
                }
            }
            word = wordOf(rest);
        }

        private void takeT() {
            int head = headOf(rest);
            int inner = product(rotationBackOfHead(head), rest);
            // The inner rotation keeps Z but for its sign, and so T passes it, leaving S back where Z is turned.
            if (imageOfZ(inner) != 2) {
                inner = product(ROTATION_BACK_S, inner);
            }
            if (head == HEAD_NOTHING && count > 0) {
                // Two T are one S.
                count--;
                rest = product(product(rotationOfHead(heads[count]), ROTATION_S), inner);
            } else if (count < MOST_GATES) {
                heads[count] = head;
                count++;
                rest = inner;
            }
        }

        int countT() {
            return count;
        }

        int countGates() {
            int gates = 0;
            for (int letter = word; letter > 1; letter >>= 1) {
                gates++;
            }
            for (int i = 0; i < count; i++) {
                // Each T, and as many behind it as its head is called by.
                gates += 1 + heads[i];
            }
            return gates;
        }

        void addTo(Circuit circuit, int wire) {
            boolean begun = false;
            for (int bit = MOST_WORDS; bit > 0; bit >>= 1) {
                if (begun) {
                    circuit.add(Gate.of((word & bit) == 0 ? Gate.H : Gate.S, wire, 0, 0));
                }
                begun = begun || (word & bit) != 0;
            }
            for (int i = count - 1; i >= 0; i--) {
                circuit.add(Gate.of(Gate.T, wire, 0, 0));
                if (heads[i] != HEAD_NOTHING) {
                    circuit.add(Gate.of(Gate.H, wire, 0, 0));
                }
                if (heads[i] == HEAD_H_S) {
                    circuit.add(Gate.of(Gate.S, wire, 0, 0));
                }
            }
        }

        private static int wordOf(int rotation) {
            for (int tried = 1; tried < MOST_WORDS; tried++) {
                if (rotationOfWord(tried) == rotation) {
                    return tried;
                }
            }
            return 1;
        }

        private static int rotationOfWord(int word) {
            int rotation = STILL;
            for (int letter = word; letter > 1; letter >>= 1) {
                rotation = product(rotation, (letter & 1) == 0 ? ROTATION_H : ROTATION_S);
            }
            return rotation;
        }

        private static int rotationOf(int kind) {
            switch (kind) {
                case Gate.H:
                    return ROTATION_H;
                case Gate.S:
                    return ROTATION_S;
                case Gate.X:
                    return ROTATION_X;
                case Gate.Z:
                    return ROTATION_Z;
                default:
                    return STILL;
            }
        }

        private static int headOf(int rotation) {
            int axis = imageOfZ(rotation) % 3;
            if (axis == 2) {
                return HEAD_NOTHING;
            }
            return axis == 0 ? HEAD_H : HEAD_H_S;
        }

        private static int rotationOfHead(int head) {
            if (head == HEAD_NOTHING) {
                return STILL;
            }
            return head == HEAD_H ? ROTATION_H : product(ROTATION_S, ROTATION_H);
        }

        private static int rotationBackOfHead(int head) {
            if (head == HEAD_NOTHING) {
                return STILL;
            }
            return head == HEAD_H ? ROTATION_H : product(ROTATION_H, ROTATION_BACK_S);
        }

        private static int imageOfZ(int rotation) {
            return rotation % 10;
        }

        private static int product(int outer, int inner) {
            int x = image(outer, inner / 100);
            int y = image(outer, inner / 10 % 10);
            return 100 * x + 10 * y + image(outer, imageOfZ(inner));
        }

        private static int image(int rotation, int sign) {
            int axis = sign % 3;
            int digit = imageOfZ(rotation);
            if (axis == 0) {
                digit = rotation / 100;
            } else if (axis == 1) {
                digit = rotation / 10 % 10;
            }
            return sign < 3 ? digit : (digit + 3) % 6;
        }
    }

    private static final class Text {
        private static final int MOST_CHARACTERS = 320;
        // The letter of kind 1 first.
        private static final String LETTERS = "hstxzcdwo";

        private final char[] characters;
        private int count;
        // How far the reading has come: where it stops, the character can't stand there.
        private int reached;

        Text() {
            characters = new char[MOST_CHARACTERS];
            count = 0;
            reached = 0;
        }

        int count() {
            return count;
        }

        int at(int i) {
            return i >= 0 && i < count ? characters[i] : NONE;
        }

        void removeAll() {
            count = 0;
        }

        boolean addBytes(long bytes, int n) {
            if (n < 1 || n > 8 || count + n > MOST_CHARACTERS) {
                return false;
            }
            for (int i = 0; i < n; i++) {
                int sign = byteAt(bytes, i);
                if (sign < 32 || sign > 126) {
                    return false;
                }
            }
            for (int i = n - 1; i >= 0; i--) {
                put((char) byteAt(bytes, i));
            }
            return true;
        }

        private static int byteAt(long bytes, int i) {
            return (int) ((bytes >>> (8 * i)) & 255);
        }

        private void put(char sign) {
            if (count < MOST_CHARACTERS) {
                characters[count] = sign;
                count++;
            }
        }

        void write(Circuit circuit) {
            removeAll();
            for (int i = 0; i < circuit.count(); i++) {
                if (i > 0) {
                    put(' ');
                }
                writeGate(circuit.at(i));
            }
        }

        private void writeGate(int gate) {
            int kind = Gate.kind(gate);
            if (kind < 1 || kind > LETTERS.length()) {
                return;
            }
            put(LETTERS.charAt(kind - 1));
            int wires = gate / 10;
            for (int i = 0; i < Gate.wiresOf(kind); i++) {
                put((char) ('0' + wires % 10));
                wires /= 10;
            }
        }

        /** The circuit gets the text's gates: NONE, or the place of the first character that can't stand there. */
        int parse(Circuit circuit, int wires) {
            circuit.removeAll();
            reached = 0;
            if (count == 0) {
                return NONE;
            }
            for (int gates = 0; gates < MOST_GATES; gates++) {
                int gate = parseGate(wires);
                if (gate == NONE) {
                    return reached;
                }
                circuit.add(gate);
                if (reached == count) {
                    return NONE;
                }
                if (at(reached) != ' ') {
                    return reached;
                }
                reached++;
            }
            return reached;
        }

        private int parseGate(int wires) {
            int kind = reached < count ? LETTERS.indexOf((char) at(reached)) + 1 : 0;
            if (kind == 0) {
                return NONE;
            }
            reached++;
            int gate = kind;
            int tens = 10;
            int taken = 0;
            for (int i = 0; i < Gate.wiresOf(kind); i++) {
                int wire = at(reached) - '0';
                if (wire < 0 || wire >= wires || ((taken >> wire) & 1) == 1) {
                    return NONE;
                }
                reached++;
                gate += tens * wire;
                tens *= 10;
                taken |= 1 << wire;
            }
            return gate;
        }
    }
}
