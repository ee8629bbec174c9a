/**
 * A number of the document for the tests alone: each is held with the lowest scale that it can have by itself,
 * and what would leave a long throws.
 */
record Num(long a, long b, long c, long d, int k) {
    static final Num ZERO = new Num(0, 0, 0, 0, 0);
    static final Num ONE = new Num(1, 0, 0, 0, 0);
    static final Num ROOT = new Num(0, 1, 0, -1, 0);

    static Num of(long a, long b, long c, long d, int k) {
        Num x = new Num(a, b, c, d, k);
        while (x.k > 0 && (x.a + x.c) % 2 == 0 && (x.b + x.d) % 2 == 0) {
            Num y = x.timesRoot();
            x = new Num(y.a / 2, y.b / 2, y.c / 2, y.d / 2, x.k - 1);
        }
        return x;
    }

    static Num power(int eighths) {
        Num x = ONE;
        for (int i = 0; i < Math.floorMod(eighths, 8); i++) {
            x = new Num(-x.d, x.a, x.b, x.c, 0);
        }
        return x;
    }

    static Num overRoot(long whole) {
        return of(whole, 0, 0, 0, 1);
    }

    private Num timesRoot() {
        return new Num(Math.subtractExact(b, d), Math.addExact(a, c), Math.addExact(b, d), Math.subtractExact(c, a), k);
    }

    /** The same number with a higher scale, its parts no longer the lowest. */
    Num withScale(int due) {
        Num x = this;
        while (x.k < due) {
            Num y = x.timesRoot();
            x = new Num(y.a, y.b, y.c, y.d, x.k + 1);
        }
        return x;
    }

    Num plus(Num other) {
        int due = Math.max(k, other.k);
        Num x = withScale(due);
        Num y = other.withScale(due);
        return of(Math.addExact(x.a, y.a), Math.addExact(x.b, y.b), Math.addExact(x.c, y.c), Math.addExact(x.d, y.d),
                due);
    }

    Num times(Num other) {
        long[] x = parts();
        long[] y = other.parts();
        long[] z = new long[4];
        for (int i = 0; i < 4; i++) {
            for (int j = 0; j < 4; j++) {
                long product = Math.multiplyExact(x[i], y[j]);
                int at = (i + j) % 4;
                z[at] = i + j < 4 ? Math.addExact(z[at], product) : Math.subtractExact(z[at], product);
            }
        }
        return of(z[0], z[1], z[2], z[3], k + other.k);
    }

    Num conjugate() {
        return new Num(a, -d, -c, -b, k);
    }

    Num half() {
        return of(a, b, c, d, k + 2);
    }

    boolean isZero() {
        return equals(ZERO);
    }

    long[] parts() {
        return new long[] {a, b, c, d};
    }
}
