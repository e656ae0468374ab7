import java.util.Arrays;

/** Polynomials modulo p as rows of coefficients, without zeros at the end. */
final class Poly {
    private Poly() {
    }

    static int[] trim(int[] a) {
        int length = a.length;
        while (length > 0 && a[length - 1] == 0) {
            length--;
        }
        return Arrays.copyOf(a, length);
    }

    static int degree(int[] a) {
        return trim(a).length - 1;
    }

    static int inverse(int a, int p) {
        for (int b = 1; b < p; b++) {
            if (a * b % p == 1) {
                return b;
            }
        }
        throw new IllegalArgumentException("no inverse of " + a);
    }

    static int[] times(int[] a, int[] b, int p) {
        int[] made = new int[a.length + b.length];
        for (int i = 0; i < a.length; i++) {
            for (int j = 0; j < b.length; j++) {
                made[i + j] = (made[i + j] + a[i] * b[j]) % p;
            }
        }
        return trim(made);
    }

    static int[] minus(int[] a, int[] b, int p) {
        int[] made = Arrays.copyOf(a, Math.max(a.length, b.length));
        for (int k = 0; k < b.length; k++) {
            made[k] = Math.floorMod(made[k] - b[k], p);
        }
        return trim(made);
    }

    static int[] power(int exponent) {
        int[] made = new int[exponent + 1];
        made[exponent] = 1;
        return made;
    }

    static int[] remainder(int[] a, int[] b, int p) {
        int[] rest = trim(a);
        int[] by = trim(b);
        while (rest.length >= by.length) {
            int factor = rest[rest.length - 1] * inverse(by[by.length - 1], p) % p;
            int[] step = times(power(rest.length - by.length), new int[] {factor}, p);
            rest = minus(rest, times(step, by, p), p);
        }
        return rest;
    }

    static int[] common(int[] a, int[] b, int p) {
        return degree(b) < 0 ? trim(a) : common(b, remainder(a, b, p), p);
    }

    static int value(int[] a, int x, int p) {
        int value = 0;
        for (int k = a.length - 1; k >= 0; k--) {
            value = (value * x + a[k]) % p;
        }
        return value;
    }

    /** The first sixteen coefficients of a / b, where b begins with 1. */
    static int[] series(int[] a, int[] b, int p) {
        int[] made = new int[16];
        for (int k = 0; k < 16; k++) {
            int sum = k < a.length ? a[k] : 0;
            for (int i = 1; i <= k && i < b.length; i++) {
                sum = Math.floorMod(sum - b[i] * made[k - i], p);
            }
            made[k] = sum;
        }
        return made;
    }
}
