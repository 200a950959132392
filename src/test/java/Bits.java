import java.util.Arrays;

/** What operators make of rows of bits, the lowest one first, each bit worked out as a circuit would. */
final class Bits {
    private Bits() {
    }

    static boolean[] of(boolean... bits) {
        return bits;
    }

    static boolean[] zero(int width) {
        return new boolean[width];
    }

    static boolean[] one(int width) {
        boolean[] bits = new boolean[width];
        bits[0] = true;
        return bits;
    }

    static boolean[] not(boolean[] a) {
        boolean[] bits = new boolean[a.length];
        for (int i = 0; i < a.length; i++) {
            bits[i] = !a[i];
        }
        return bits;
    }

    static boolean[] and(boolean[] a, boolean[] b) {
        boolean[] bits = new boolean[a.length];
        for (int i = 0; i < a.length; i++) {
            bits[i] = a[i] && b[i];
        }
        return bits;
    }

    static boolean[] or(boolean[] a, boolean[] b) {
        return not(and(not(a), not(b)));
    }

    static boolean[] xor(boolean[] a, boolean[] b) {
        return and(or(a, b), not(and(a, b)));
    }

    private static boolean[] sum(boolean[] a, boolean[] b, boolean carryIn) {
        boolean[] bits = new boolean[a.length];
        boolean carry = carryIn;
        for (int i = 0; i < a.length; i++) {
            int ones = (a[i] ? 1 : 0) + (b[i] ? 1 : 0) + (carry ? 1 : 0);
            bits[i] = ones == 1 || ones == 3;
            carry = ones > 1;
        }
        return bits;
    }

    static boolean[] add(boolean[] a, boolean[] b) {
        return sum(a, b, false);
    }

    static boolean[] subtract(boolean[] a, boolean[] b) {
        return sum(a, not(b), true);
    }

    static boolean[] negate(boolean[] a) {
        return subtract(zero(a.length), a);
    }

    static boolean[] multiply(boolean[] a, boolean[] b) {
        boolean[] all = zero(a.length);
        boolean[] shifted = a;
        for (int i = 0; i < b.length; i++) {
            if (b[i]) {
                all = add(all, shifted);
            }
            shifted = up(shifted, false);
        }
        return all;
    }

    /** One place up, with what comes in at the lowest one. */
    private static boolean[] up(boolean[] a, boolean in) {
        boolean[] bits = new boolean[a.length];
        System.arraycopy(a, 0, bits, 1, a.length - 1);
        bits[0] = in;
        return bits;
    }

    private static boolean[] down(boolean[] a, boolean in) {
        boolean[] bits = Arrays.copyOfRange(a, 1, a.length + 1);
        bits[a.length - 1] = in;
        return bits;
    }

    static boolean less(boolean[] a, boolean[] b) {
        for (int i = a.length - 1; i >= 0; i--) {
            if (a[i] != b[i]) {
                return b[i];
            }
        }
        return false;
    }

    static boolean signedLess(boolean[] a, boolean[] b) {
        boolean minusA = a[a.length - 1];
        boolean minusB = b[b.length - 1];
        return minusA != minusB ? minusA : less(a, b);
    }

    /** By hand, a digit at a time: the quotient and what is left; the divisor is not 0. */
    private static boolean[][] divided(boolean[] a, boolean[] b) {
        int width = a.length;
        boolean[] wideB = Arrays.copyOf(b, width + 1);
        boolean[] left = zero(width + 1);
        boolean[] quotient = zero(width);
        for (int i = width - 1; i >= 0; i--) {
            left = up(left, a[i]);
            if (!less(left, wideB)) {
                left = subtract(left, wideB);
                quotient[i] = true;
            }
        }
        return new boolean[][] {quotient, Arrays.copyOf(left, width)};
    }

    static boolean isZero(boolean[] a) {
        return Arrays.equals(a, zero(a.length));
    }

    static boolean[] quotient(boolean[] a, boolean[] b) {
        return isZero(b) ? not(zero(a.length)) : divided(a, b)[0];
    }

    static boolean[] rest(boolean[] a, boolean[] b) {
        return isZero(b) ? a : divided(a, b)[1];
    }

    private static boolean isMinus(boolean[] a) {
        return a[a.length - 1];
    }

    private static boolean[] withoutSign(boolean[] a) {
        return isMinus(a) ? negate(a) : a;
    }

    static boolean[] signedQuotient(boolean[] a, boolean[] b) {
        if (isZero(b)) {
            return isMinus(a) ? one(a.length) : negate(one(a.length));
        }
        boolean[] bits = quotient(withoutSign(a), withoutSign(b));
        return isMinus(a) == isMinus(b) ? bits : negate(bits);
    }

    static boolean[] signedRest(boolean[] a, boolean[] b) {
        boolean[] bits = rest(withoutSign(a), withoutSign(b));
        return isMinus(a) ? negate(bits) : bits;
    }

    /** One place at a time, as often as the second says. */
    static boolean[] shift(String op, boolean[] a, boolean[] by) {
        boolean[] bits = a;
        boolean in = op.equals("bvashr") && isMinus(a);
        boolean[] count = zero(by.length);
        for (int i = 0; i < a.length && !Arrays.equals(count, by); i++) {
            bits = op.equals("bvshl") ? up(bits, in) : down(bits, in);
            count = add(count, one(by.length));
        }
        return bits;
    }

    static boolean[] extended(boolean[] a, int more, boolean in) {
        boolean[] bits = Arrays.copyOf(a, a.length + more);
        Arrays.fill(bits, a.length, a.length + more, in);
        return bits;
    }

    /** The first one highest. */
    static boolean[] joined(boolean[] a, boolean[] b) {
        boolean[] bits = Arrays.copyOf(b, b.length + a.length);
        System.arraycopy(a, 0, bits, b.length, a.length);
        return bits;
    }

    static long number(boolean[] a) {
        long number = 0;
        for (int i = a.length - 1; i >= 0; i--) {
            number = 2 * number + (a[i] ? 1 : 0);
        }
        return number;
    }

    static boolean[] of(long number, int width) {
        boolean[] bits = new boolean[width];
        for (int i = 0; i < width; i++) {
            bits[i] = (number >> i & 1) != 0;
        }
        return bits;
    }
}
