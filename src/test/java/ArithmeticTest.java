import java.math.BigInteger;

/** Every operation on two numbers against BigInteger, for all pairs of numbers where a carry or a width may go wrong. */
public final class ArithmeticTest {
    private static final Checks CHECKS = new Checks();

    public static void main(String[] args) {
        CHECKS.sentence("Terms: The results of ADD, SUB, MUL, DIV and MOD are exact whatever their size",
            ArithmeticTest::allPairs);
        CHECKS.sentence("Terms: The results are exact whatever their size: around every power of 10",
            ArithmeticTest::aroundEveryPower);
        CHECKS.finish();
    }

    private static void allPairs() {
        for (BigInteger x : Numbers.EDGES) {
            for (BigInteger y : Numbers.EDGES) {
                everyOperation(x, y);
            }
        }
        for (int x = -12; x <= 12; x++) {
            for (int y = -12; y <= 12; y++) {
                everyOperation(BigInteger.valueOf(x), BigInteger.valueOf(y));
            }
        }
    }

    private static void aroundEveryPower() {
        BigInteger mixed = new BigInteger("8234567890918273645546372819012345678987");
        for (int exponent = 0; exponent <= 39; exponent++) {
            BigInteger power = Numbers.power(exponent);
            everyOperation(mixed, power);
            everyOperation(mixed.negate(), power.subtract(Numbers.ONE));
            everyOperation(power, mixed.negate());
            everyOperation(power, Numbers.ONE.negate());
            everyOperation(mixed.divide(power), mixed.mod(power));
        }
    }

    private static void everyOperation(BigInteger x, BigInteger y) {
        for (int op = Ops.ADD; op <= Ops.LESS; op++) {
            Calculation calculation = new Calculation(op, x, y);
            String call = x + " with " + y + " by operation " + op;
            CHECKS.due(call, calculation.text(), wanted(op, x, y));
            CHECKS.due("x after " + call, calculation.xAfter, x);
            CHECKS.due("y after " + call, calculation.yAfter, y);
        }
    }

    private static String wanted(int op, BigInteger x, BigInteger y) {
        if (y.signum() == 0 && (op == Ops.DIV || op == Ops.MOD)) {
            return "ZERO_DIVIDE";
        }
        BigInteger result = exact(op, x, y);
        return result.abs().compareTo(Numbers.TOO_BIG) >= 0 ? "TOO_BIG" : result.toString();
    }

    private static BigInteger exact(int op, BigInteger x, BigInteger y) {
        switch (op) {
            case Ops.ADD:
                return x.add(y);
            case Ops.SUB:
                return x.subtract(y);
            case Ops.MUL:
                return x.multiply(y);
            case Ops.DIV:
                return x.divide(y);
            case Ops.MOD:
                return x.remainder(y);
            default:
                return x.compareTo(y) < 0 ? BigInteger.ONE : BigInteger.ZERO;
        }
    }
}
