import java.math.BigInteger;

/** A fraction in its least terms, for the Model. */
record Ratio(BigInteger over, BigInteger under) implements Comparable<Ratio> {
    static final Ratio ZERO = of(0);

    static Ratio of(long whole) {
        return new Ratio(BigInteger.valueOf(whole), BigInteger.ONE);
    }

    static Ratio of(BigInteger over, BigInteger under) {
        BigInteger divisor = over.gcd(under);
        if (under.signum() < 0) {
            divisor = divisor.negate();
        }
        return new Ratio(over.divide(divisor), under.divide(divisor));
    }

    Ratio plus(Ratio other) {
        return of(over.multiply(other.under).add(other.over.multiply(under)), under.multiply(other.under));
    }

    Ratio minus(Ratio other) {
        return plus(new Ratio(other.over.negate(), other.under));
    }

    Ratio times(Ratio other) {
        return of(over.multiply(other.over), under.multiply(other.under));
    }

    Ratio by(Ratio other) {
        return of(over.multiply(other.under), under.multiply(other.over));
    }

    boolean isZero() {
        return over.signum() == 0;
    }

    int hundredfold() {
        return over.multiply(BigInteger.valueOf(100)).divide(under).intValueExact();
    }

    @Override
    public int compareTo(Ratio other) {
        return over.multiply(other.under).compareTo(other.over.multiply(under));
    }
}
