import java.math.BigInteger;

/** A fraction in lowest terms, below it more than nothing. */
record Fraction(BigInteger above, BigInteger below) implements Comparable<Fraction> {
    static final Fraction NOTHING = of(0, 1);

    Fraction {
        BigInteger common = above.gcd(below);
        above = above.divide(common);
        below = below.divide(common);
    }

    static Fraction of(long above, long below) {
        return new Fraction(BigInteger.valueOf(above), BigInteger.valueOf(below));
    }

    Fraction plus(Fraction other) {
        return new Fraction(above.multiply(other.below).add(other.above.multiply(below)), below.multiply(other.below));
    }

    Fraction times(Fraction other) {
        return new Fraction(above.multiply(other.above), below.multiply(other.below));
    }

    Fraction less(Fraction other) {
        return plus(other.times(of(-1, 1)));
    }

    @Override
    public int compareTo(Fraction other) {
        return above.multiply(other.below).compareTo(other.above.multiply(below));
    }

    long part(int part) {
        return (part == 0 ? above : below).longValueExact();
    }
}
