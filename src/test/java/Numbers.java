import java.math.BigInteger;
import java.util.TreeSet;

/** Numbers at which a carry, a borrow, a sign or a width is likely to go wrong. */
final class Numbers {
    static final BigInteger ONE = BigInteger.ONE;
    static final BigInteger TOO_BIG = BigInteger.TEN.pow(40);
    static final BigInteger LARGEST = TOO_BIG.subtract(ONE);
    static final BigInteger LEAST = LARGEST.negate();
    static final BigInteger[] EDGES = edges();

    private Numbers() {
    }

    static BigInteger power(int exponent) {
        return BigInteger.TEN.pow(exponent);
    }

    static BigInteger powerOfTwo(int exponent) {
        return ONE.shiftLeft(exponent);
    }

    private static BigInteger[] edges() {
        TreeSet<BigInteger> all = new TreeSet<>();
        for (int exponent : new int[] {1, 4, 8, 9, 16, 20, 24, 32, 39, 40}) {
            addAround(all, power(exponent));
        }
        for (int exponent : new int[] {0, 15, 30, 31, 32, 62, 63, 64, 128, 132}) {
            addAround(all, powerOfTwo(exponent));
        }
        all.add(new BigInteger("1000000000000000100000000000000010000000"));
        all.add(new BigInteger("9999999900000000999999990000000099999999"));
        all.add(new BigInteger("-7000000010000000299999999"));
        all.removeIf(value -> value.abs().compareTo(TOO_BIG) >= 0);
        return all.toArray(new BigInteger[0]);
    }

    private static void addAround(TreeSet<BigInteger> all, BigInteger value) {
        for (int off = -1; off <= 1; off++) {
            BigInteger near = value.add(BigInteger.valueOf(off));
            all.add(near);
            all.add(near.negate());
        }
    }
}
