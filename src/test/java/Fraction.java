import java.math.BigInteger;

/** Exact fractions of any size, in lowest terms, for the plain reckoning that the tests compare with. */
final class Fraction {
    static final Fraction ZERO = of(0);
    final BigInteger n;
    final BigInteger d;

    Fraction(BigInteger n, BigInteger d) {
        BigInteger common = n.gcd(d);
        if (d.signum() < 0) {
            common = common.negate();
        }
        this.n = n.divide(common);
        this.d = d.divide(common);
    }

    static Fraction of(long whole) {
        return new Fraction(BigInteger.valueOf(whole), BigInteger.ONE);
    }

    Fraction plus(Fraction other) {
        return new Fraction(n.multiply(other.d).add(other.n.multiply(d)), d.multiply(other.d));
    }

    Fraction minus(Fraction other) {
        return new Fraction(n.multiply(other.d).subtract(other.n.multiply(d)), d.multiply(other.d));
    }

    Fraction times(Fraction other) {
        return new Fraction(n.multiply(other.n), d.multiply(other.d));
    }

    Fraction over(Fraction other) {
        return new Fraction(n.multiply(other.d), d.multiply(other.n));
    }

    int sign() {
        return n.signum();
    }

    boolean is(Fraction other) {
        return n.equals(other.n) && d.equals(other.d);
    }

    long told(boolean below) {
        return (below ? d : n).longValueExact();
    }
}
