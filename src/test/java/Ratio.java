import java.math.BigInteger;

/** An exact fraction in lowest terms, for the plain model. */
final class Ratio implements Comparable<Ratio> {
    static final Ratio ZERO = of(0, 1);
    static final Ratio ONE = of(1, 1);

    final BigInteger numerator;
    final BigInteger denominator;

    private Ratio(BigInteger n, BigInteger d) {
        BigInteger divisor = d.signum() < 0 ? n.gcd(d).negate() : n.gcd(d);
        numerator = n.divide(divisor);
        denominator = d.divide(divisor);
    }

    static Ratio of(long n, long d) {
        return new Ratio(BigInteger.valueOf(n), BigInteger.valueOf(d));
    }

    Ratio plus(Ratio o) {
        return new Ratio(numerator.multiply(o.denominator).add(o.numerator.multiply(denominator)),
                denominator.multiply(o.denominator));
    }

    Ratio minus(Ratio o) {
        return plus(new Ratio(o.numerator.negate(), o.denominator));
    }

    Ratio times(Ratio o) {
        return new Ratio(numerator.multiply(o.numerator), denominator.multiply(o.denominator));
    }

    Ratio over(Ratio o) {
        return new Ratio(numerator.multiply(o.denominator), denominator.multiply(o.numerator));
    }

    boolean isZero() {
        return numerator.signum() == 0;
    }

    boolean isBetween(Ratio low, Ratio high) {
        return compareTo(low) >= 0 && compareTo(high) <= 0;
    }

    long part(int part) {
        return (part == 0 ? numerator : denominator).longValueExact();
    }

    @Override
    public int compareTo(Ratio o) {
        return numerator.multiply(o.denominator).compareTo(o.numerator.multiply(denominator));
    }
}
