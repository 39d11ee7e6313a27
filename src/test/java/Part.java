import java.math.BigInteger;

/** A fraction of whole numbers of any size, in lowest terms. */
final class Part implements Comparable<Part> {
    static final Part ZERO = of(0, 1);
    final BigInteger above;
    final BigInteger below;

    Part(BigInteger a, BigInteger b) {
        BigInteger g = a.gcd(b);
        if (b.signum() < 0) {
            g = g.negate();
        }
        above = a.divide(g);
        below = b.divide(g);
    }

    static Part of(long a, long b) {
        return new Part(BigInteger.valueOf(a), BigInteger.valueOf(b));
    }

    Part plus(Part o) {
        return new Part(above.multiply(o.below).add(o.above.multiply(below)), below.multiply(o.below));
    }

    Part minus(Part o) {
        return plus(new Part(o.above.negate(), o.below));
    }

    Part times(Part o) {
        return new Part(above.multiply(o.above), below.multiply(o.below));
    }

    Part times(long n) {
        return times(of(n, 1));
    }

    Part by(long n) {
        return times(of(1, n));
    }

    boolean more(Part o) {
        return compareTo(o) > 0;
    }

    long floor() {
        BigInteger[] parts = above.divideAndRemainder(below);
        return parts[1].signum() < 0 ? parts[0].longValueExact() - 1 : parts[0].longValueExact();
    }

    long told(int what) {
        return (what == 0 ? above : below).longValueExact();
    }

    @Override
    public int compareTo(Part o) {
        return above.multiply(o.below).compareTo(o.above.multiply(below));
    }
}
