import java.math.BigInteger;

/** An exact fraction in lowest terms, its bottom above 0. */
final class Ratio implements Comparable<Ratio> {
    static final Ratio ZERO = of(0, 1);
    static final Ratio ONE = of(1, 1);
    private final BigInteger top;
    private final BigInteger bottom;

    private Ratio(BigInteger top, BigInteger bottom) {
        BigInteger common = top.gcd(bottom);
        BigInteger signed = bottom.signum() < 0 ? common.negate() : common;
        this.top = top.divide(signed);
        this.bottom = bottom.divide(signed);
    }

    static Ratio of(long top, long bottom) {
        return new Ratio(BigInteger.valueOf(top), BigInteger.valueOf(bottom));
    }

    Ratio plus(Ratio other) {
        return new Ratio(
            top.multiply(other.bottom).add(other.top.multiply(bottom)),
            bottom.multiply(other.bottom));
    }

    Ratio minus(Ratio other) {
        return plus(new Ratio(other.top.negate(), other.bottom));
    }

    Ratio times(Ratio other) {
        return new Ratio(top.multiply(other.top), bottom.multiply(other.bottom));
    }

    Ratio by(Ratio other) {
        return new Ratio(top.multiply(other.bottom), bottom.multiply(other.top));
    }

    BigInteger top() {
        return top;
    }

    BigInteger bottom() {
        return bottom;
    }

    int signum() {
        return top.signum();
    }

    @Override
    public int compareTo(Ratio other) {
        return minus(other).signum();
    }

    @Override
    public String toString() {
        return top + "/" + bottom;
    }
}
