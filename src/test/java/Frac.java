import java.math.BigInteger;

/** An exact fraction for the tests, in least terms, the lower number above 0. */
final class Frac implements Comparable<Frac> {
    static final Frac ZERO = of(0);
    static final Frac ONE = of(1);
    final BigInteger up;
    final BigInteger low;

    private Frac(BigInteger u, BigInteger l) {
        BigInteger g = u.gcd(l);
        if (l.signum() < 0) {
            g = g.negate();
        }
        up = u.divide(g);
        low = l.divide(g);
    }

    static Frac of(long v) {
        return new Frac(BigInteger.valueOf(v), BigInteger.ONE);
    }

    static Frac of(long u, long l) {
        return new Frac(BigInteger.valueOf(u), BigInteger.valueOf(l));
    }

    Frac plus(Frac o) {
        return new Frac(up.multiply(o.low).add(o.up.multiply(low)), low.multiply(o.low));
    }

    Frac minus(Frac o) {
        return plus(new Frac(o.up.negate(), o.low));
    }

    Frac times(Frac o) {
        return new Frac(up.multiply(o.up), low.multiply(o.low));
    }

    Frac by(Frac o) {
        return new Frac(up.multiply(o.low), low.multiply(o.up));
    }

    Frac orZero() {
        return sign() < 0 ? ZERO : this;
    }

    int sign() {
        return up.signum();
    }

    @Override
    public int compareTo(Frac o) {
        return up.multiply(o.low).compareTo(o.up.multiply(low));
    }

    long told(boolean under) {
        return (under ? low : up).longValueExact();
    }
}
