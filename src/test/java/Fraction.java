import java.math.BigInteger;

/** An exact fraction in lowest terms, for the oracle. */
final class Fraction implements Comparable<Fraction> {
    static final Fraction ZERO = of(0, 1);
    static final Fraction ONE = of(1, 1);

    final BigInteger up;
    final BigInteger down;

    private Fraction(BigInteger up, BigInteger down) {
        BigInteger common = up.gcd(down).multiply(BigInteger.valueOf(down.signum()));
        this.up = up.divide(common);
        this.down = down.divide(common);
    }

    static Fraction of(long up, long down) {
        return new Fraction(BigInteger.valueOf(up), BigInteger.valueOf(down));
    }

    Fraction plus(Fraction other) {
        return new Fraction(up.multiply(other.down).add(other.up.multiply(down)), down.multiply(other.down));
    }

    Fraction minus(Fraction other) {
        return new Fraction(up.multiply(other.down).subtract(other.up.multiply(down)), down.multiply(other.down));
    }

    Fraction times(Fraction other) {
        return new Fraction(up.multiply(other.up), down.multiply(other.down));
    }

    Fraction by(Fraction other) {
        return new Fraction(up.multiply(other.down), down.multiply(other.up));
    }

    boolean isZero() {
        return up.signum() == 0;
    }

    @Override
    public int compareTo(Fraction other) {
        return up.multiply(other.down).compareTo(other.up.multiply(down));
    }

    @Override
    public boolean equals(Object other) {
        return other instanceof Fraction f && compareTo(f) == 0;
    }

    @Override
    public int hashCode() {
        return up.hashCode() * 31 + down.hashCode();
    }

    @Override
    public String toString() {
        return up + "/" + down;
    }
}
