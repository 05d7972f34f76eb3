import java.math.BigInteger;

/** A fraction in lowest terms, below 1 at least. */
record Frac(BigInteger above, BigInteger below) {
    static final Frac ZERO = of(0), ONE = of(1);

    static Frac of(long n) {
        return new Frac(BigInteger.valueOf(n), BigInteger.ONE);
    }

    static Frac of(BigInteger a, BigInteger b) {
        BigInteger g = a.gcd(b);
        if (b.signum() < 0) g = g.negate();
        return new Frac(a.divide(g), b.divide(g));
    }

    Frac plus(Frac o) {
        return of(above.multiply(o.below).add(o.above.multiply(below)), below.multiply(o.below));
    }

    Frac minus(Frac o) {
        return plus(new Frac(o.above.negate(), o.below));
    }

    Frac times(Frac o) {
        return of(above.multiply(o.above), below.multiply(o.below));
    }

    Frac by(Frac o) {
        return of(above.multiply(o.below), below.multiply(o.above));
    }

    int compare(Frac o) {
        return above.multiply(o.below).compareTo(o.above.multiply(below));
    }

    Frac abs() {
        return new Frac(above.abs(), below);
    }

    long part(int what) {
        return (what == 0 ? above : below).longValueExact();
    }
}
