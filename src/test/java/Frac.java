import java.math.BigInteger;

/** A rational number in lowest terms with a positive denominator. */
record Frac(BigInteger top, BigInteger bottom) implements Comparable<Frac> {
    static final Frac ZERO = of(0);
    static final Frac ONE = of(1);

    static Frac of(long number) {
        return new Frac(BigInteger.valueOf(number), BigInteger.ONE);
    }

    static Frac of(BigInteger top, BigInteger bottom) {
        BigInteger g = top.gcd(bottom);
        if (bottom.signum() < 0) {
            g = g.negate();
        }
        return new Frac(top.divide(g), bottom.divide(g));
    }

    Frac plus(Frac o) {
        return of(top.multiply(o.bottom).add(o.top.multiply(bottom)), bottom.multiply(o.bottom));
    }

    Frac minus(Frac o) {
        return plus(o.negate());
    }

    Frac times(Frac o) {
        return of(top.multiply(o.top), bottom.multiply(o.bottom));
    }

    Frac over(Frac o) {
        return of(top.multiply(o.bottom), bottom.multiply(o.top));
    }

    Frac negate() {
        return new Frac(top.negate(), bottom);
    }

    int sign() {
        return top.signum();
    }

    @Override
    public int compareTo(Frac o) {
        return top.multiply(o.bottom).compareTo(o.top.multiply(bottom));
    }
}
