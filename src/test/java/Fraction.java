import java.math.BigInteger;

/** An exact fraction in lowest terms, for tests alone. */
final class Fraction implements Comparable<Fraction> {
    static final Fraction ZERO = of(0), ONE = of(1);
    final BigInteger above, below;

    private Fraction(BigInteger above, BigInteger below) {
        BigInteger by = above.gcd(below);
        if (below.signum() < 0) {
            by = by.negate();
        }
        this.above = above.divide(by);
        this.below = below.divide(by);
    }

    static Fraction of(long above) { return of(above, 1); }

    static Fraction of(long above, long below) {
        return new Fraction(BigInteger.valueOf(above), BigInteger.valueOf(below));
    }

    Fraction plus(Fraction o) {
        return new Fraction(above.multiply(o.below).add(o.above.multiply(below)), below.multiply(o.below));
    }

    Fraction negated() { return new Fraction(above.negate(), below); }

    Fraction minus(Fraction o) { return plus(o.negated()); }

    Fraction times(Fraction o) { return new Fraction(above.multiply(o.above), below.multiply(o.below)); }

    Fraction over(Fraction o) { return new Fraction(above.multiply(o.below), below.multiply(o.above)); }

    int sign() { return above.signum(); }

    Fraction size() { return sign() < 0 ? negated() : this; }

    long part(int what) { return (what == 0 ? above : below).longValueExact(); }

    @Override public int compareTo(Fraction o) { return minus(o).sign(); }

    @Override public boolean equals(Object o) { return o instanceof Fraction f && compareTo(f) == 0; }

    @Override public int hashCode() { return above.hashCode() * 31 + below.hashCode(); }

    @Override public String toString() { return above + "/" + below; }
}
