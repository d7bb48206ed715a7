import java.math.BigInteger;

/** A fraction in lowest terms, of any size. */
final class Frac implements Comparable<Frac> {
    static final Frac ZERO = of(0);
    static final Frac ONE = of(1);

    final BigInteger top;
    final BigInteger low;

    private Frac(BigInteger top, BigInteger low) {
        BigInteger common = top.gcd(low);
        if (low.signum() < 0) {
            common = common.negate();
        }
        this.top = top.divide(common);
        this.low = low.divide(common);
    }

    static Frac of(long n) {
        return new Frac(BigInteger.valueOf(n), BigInteger.ONE);
    }

    static Frac of(long top, long low) {
        return new Frac(BigInteger.valueOf(top), BigInteger.valueOf(low));
    }

    static Frac of(BigInteger top, BigInteger low) {
        return new Frac(top, low);
    }

    Frac plus(Frac other) {
        return new Frac(top.multiply(other.low).add(other.top.multiply(low)), low.multiply(other.low));
    }

    Frac minus(Frac other) {
        return plus(other.times(of(-1)));
    }

    Frac times(Frac other) {
        return new Frac(top.multiply(other.top), low.multiply(other.low));
    }

    Frac by(Frac other) {
        return new Frac(top.multiply(other.low), low.multiply(other.top));
    }

    Frac abs() {
        return new Frac(top.abs(), low);
    }

    boolean isZero() {
        return top.signum() == 0;
    }

    long part(int part) {
        return (part == 0 ? top : low).longValueExact();
    }

    @Override
    public int compareTo(Frac other) {
        return top.multiply(other.low).compareTo(other.top.multiply(low));
    }
}
