import java.math.BigInteger;

/** Exact fractions without bounds, in lowest terms, for the model. */
final class Frac implements Comparable<Frac> {
    static final Frac ZERO = of(0), ONE = of(1);
    final BigInteger above, below;

    private Frac(BigInteger a, BigInteger b) {
        BigInteger g = a.gcd(b);
        if (b.signum() < 0) g = g.negate();
        above = a.divide(g);
        below = b.divide(g);
    }

    static Frac of(long v) {
        return new Frac(BigInteger.valueOf(v), BigInteger.ONE);
    }

    Frac plus(Frac o) {
        return new Frac(above.multiply(o.below).add(o.above.multiply(below)), below.multiply(o.below));
    }

    Frac minus(Frac o) {
        return plus(o.times(of(-1)));
    }

    Frac times(Frac o) {
        return new Frac(above.multiply(o.above), below.multiply(o.below));
    }

    Frac over(Frac o) {
        return new Frac(above.multiply(o.below), below.multiply(o.above));
    }

    boolean isZero() {
        return above.signum() == 0;
    }

    long told(int line) {
        return (line == 0 ? above : below).longValueExact();
    }

    @Override
    public int compareTo(Frac o) {
        return above.multiply(o.below).compareTo(o.above.multiply(below));
    }
}
