import java.math.BigInteger;

/** A fraction of any size, in lowest terms. */
final class Frac implements Comparable<Frac> {
    static final Frac ZERO = of(0);
    static final Frac ONE = of(1);

    final BigInteger top;
    final BigInteger bottom;

    Frac(BigInteger top, BigInteger bottom) {
        BigInteger common = top.gcd(bottom);
        if (bottom.signum() < 0) {
            common = common.negate();
        }
        this.top = top.divide(common);
        this.bottom = bottom.divide(common);
    }

    static Frac of(long number) {
        return new Frac(BigInteger.valueOf(number), BigInteger.ONE);
    }

    static Frac of(long top, long bottom) {
        return new Frac(BigInteger.valueOf(top), BigInteger.valueOf(bottom));
    }

    Frac plus(Frac o) {
        return new Frac(top.multiply(o.bottom).add(o.top.multiply(bottom)), bottom.multiply(o.bottom));
    }

    Frac minus(Frac o) {
        return plus(o.negated());
    }

    Frac times(Frac o) {
        return new Frac(top.multiply(o.top), bottom.multiply(o.bottom));
    }

    Frac over(Frac o) {
        return new Frac(top.multiply(o.bottom), bottom.multiply(o.top));
    }

    Frac negated() {
        return new Frac(top.negate(), bottom);
    }

    Frac size() {
        return new Frac(top.abs(), bottom);
    }

    int sign() {
        return top.signum();
    }

    boolean isZero() {
        return top.signum() == 0;
    }

    /** What the bench is due to tell. */
    long told(int what) {
        return (what == 0 ? top : bottom).longValueExact();
    }

    @Override
    public int compareTo(Frac o) {
        return top.multiply(o.bottom).compareTo(o.top.multiply(bottom));
    }

    boolean isLike(Frac o) {
        return compareTo(o) == 0;
    }

    @Override
    public String toString() {
        return top + "/" + bottom;
    }
}
