import java.math.BigInteger;

/** A whole number by another, in lowest terms. */
final class Ratio implements Comparable<Ratio> {
    static final Ratio ZERO = of(0), ONE = of(1);
    final BigInteger up, down;

    Ratio(BigInteger up, BigInteger down) {
        BigInteger common = up.gcd(down);
        if (down.signum() < 0) common = common.negate();
        this.up = up.divide(common);
        this.down = down.divide(common);
    }

    static Ratio of(long n) {
        return new Ratio(BigInteger.valueOf(n), BigInteger.ONE);
    }

    Ratio plus(Ratio o) {
        return new Ratio(up.multiply(o.down).add(o.up.multiply(down)), down.multiply(o.down));
    }

    Ratio minus(Ratio o) {
        return plus(new Ratio(o.up.negate(), o.down));
    }

    Ratio times(Ratio o) {
        return new Ratio(up.multiply(o.up), down.multiply(o.down));
    }

    Ratio by(Ratio o) {
        return new Ratio(up.multiply(o.down), down.multiply(o.up));
    }

    int sign() {
        return up.signum();
    }

    @Override
    public int compareTo(Ratio o) {
        return minus(o).sign();
    }
}
