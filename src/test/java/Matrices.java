import java.util.Arrays;
import java.util.List;

/** Matrices of circuits told as words (h0, c01 ..), built from what the document says of each gate. */
final class Matrices {
    private Matrices() {
    }

    static Num[][] zero(int states) {
        Num[][] m = new Num[states][states];
        for (Num[] line : m) {
            Arrays.fill(line, Num.ZERO);
        }
        return m;
    }

    static Num[][] one(int states) {
        Num[][] m = zero(states);
        for (int i = 0; i < states; i++) {
            m[i][i] = Num.ONE;
        }
        return m;
    }

    static Num[][] of(List<String> circuit, int wires) {
        Num[][] m = one(1 << wires);
        for (String word : circuit) {
            m = times(ofGate(word, wires), m);
        }
        return m;
    }

    /** m[row][column]. */
    static Num[][] ofGate(String word, int wires) {
        int states = 1 << wires;
        Num[][] m = zero(states);
        int a = word.charAt(1) - '0';
        int b = word.length() > 2 ? word.charAt(2) - '0' : 0;
        int c = word.length() > 3 ? word.charAt(3) - '0' : 0;
        for (int i = 0; i < states; i++) {
            boolean onA = (i >> a) % 2 == 1;
            boolean onB = (i >> b) % 2 == 1;
            switch (word.charAt(0)) {
                case 'h' -> {
                    m[i][i] = Num.overRoot(onA ? -1 : 1);
                    m[i ^ 1 << a][i] = Num.overRoot(1);
                }
                case 's' -> m[i][i] = Num.power(onA ? 2 : 0);
                case 't' -> m[i][i] = Num.power(onA ? 1 : 0);
                case 'z' -> m[i][i] = Num.power(onA ? 4 : 0);
                case 'x' -> m[i ^ 1 << a][i] = Num.ONE;
                case 'c' -> m[onA ? i ^ 1 << b : i][i] = Num.ONE;
                case 'd' -> m[i][i] = Num.power(onA && onB ? 4 : 0);
                case 'w' -> m[onA == onB ? i : i ^ 1 << a ^ 1 << b][i] = Num.ONE;
                default -> m[onA && onB ? i ^ 1 << c : i][i] = Num.ONE;
            }
        }
        return m;
    }

    static Num[][] times(Num[][] left, Num[][] right) {
        int states = left.length;
        Num[][] m = zero(states);
        for (int row = 0; row < states; row++) {
            for (int middle = 0; middle < states; middle++) {
                Num x = left[row][middle];
                for (int column = 0; column < states && !x.isZero(); column++) {
                    Num y = right[middle][column];
                    if (!y.isZero()) {
                        m[row][column] = m[row][column].plus(x.times(y));
                    }
                }
            }
        }
        return m;
    }

    static Num[][] scaled(Num[][] m, Num x) {
        Num[][] scaled = zero(m.length);
        for (int row = 0; row < m.length; row++) {
            for (int column = 0; column < m.length; column++) {
                scaled[row][column] = m[row][column].times(x);
            }
        }
        return scaled;
    }

    /** The inverse, the matrix being one of a circuit. */
    static Num[][] back(Num[][] m) {
        Num[][] back = zero(m.length);
        for (int row = 0; row < m.length; row++) {
            for (int column = 0; column < m.length; column++) {
                back[column][row] = m[row][column].conjugate();
            }
        }
        return back;
    }

    static boolean same(Num[][] one, Num[][] two) {
        return Arrays.deepEquals(one, two);
    }

    /** The k with one = w^k two, or -1. */
    static int turn(Num[][] one, Num[][] two) {
        for (int k = 0; k < 8; k++) {
            if (same(one, scaled(two, Num.power(k)))) {
                return k;
            }
        }
        return -1;
    }

    static int differ(Num[][] one, Num[][] two) {
        for (int column = 0; column < one.length; column++) {
            for (int row = 0; row < one.length; row++) {
                if (!one[row][column].equals(two[row][column])) {
                    return 16 * column + row;
                }
            }
        }
        return -1;
    }

    /** A product of signs, told as row() tells it. */
    static Num[][] ofSigns(int told, int wires) {
        Num[][] m = one(1 << wires);
        for (int wire = 0; wire < wires; wire++) {
            int digit = told >> 2 * wire & 3;
            if (digit >= 2) {
                m = times(ofGate("z" + wire, wires), m);
            }
            if (digit == 1 || digit == 2) {
                m = times(ofGate("x" + wire, wires), m);
            }
            if (digit == 2) {
                m = scaled(m, Num.power(2));
            }
        }
        return told >= 256 ? scaled(m, Num.power(4)) : m;
    }

    /**
     * How many T a matrix of one wire needs: as many as the scale that its rotation (of the signs X, Y, Z into
     * one another) has.
     */
    static int countT(Num[][] m) {
        int most = 0;
        for (int i = 1; i < 4; i++) {
            for (int j = 1; j < 4; j++) {
                Num[][] product = times(times(ofSigns(i, 1), m), times(ofSigns(j, 1), back(m)));
                most = Math.max(most, product[0][0].plus(product[1][1]).half().k());
            }
        }
        return most;
    }
}
