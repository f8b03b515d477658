import java.util.Random;

/** ANEW and ADDED (promises 21, 22) where many LINES are in the way, compared with the model. */
public final class CutsTest {
    private static final int CASES = 4000;

    private final Random chance;
    private final OneSlip slip = new OneSlip();
    private final Model model = new Model();
    private int wrong = 0;

    private CutsTest(int seed) {
        chance = new Random(seed);
    }

    public static void main(String[] args) {
        int wrong = 0;
        int deepest = 0;
        int mostAdded = 0;
        for (int seed = 0; seed < CASES; seed++) {
            CutsTest one = new CutsTest(seed);
            deepest = Math.max(deepest, one.cuts());
            mostAdded = Math.max(mostAdded, one.covers());
            wrong += one.wrong;
        }
        System.out.println("cuts of up to " + deepest + " lines, up to " + mostAdded + " lines said again, "
                + wrong + " answers are not as due");
        if (wrong != 0 || deepest < 4 || mostAdded < 8) {
            System.exit(1);
        }
    }

    private void take(String text) {
        int[] w = new int[5];
        int full = (text.length() + 19) / 20 * 20;
        for (int p = 0; p < full; p++) {
            w[p % 20 / 4] = w[p % 20 / 4] << 8 | (p < text.length() ? text.charAt(p) : 0);
            if (p % 20 == 19) {
                slip.feed(w[0], w[1], w[2], w[3], w[4]);
                model.feed(w);
            }
        }
        due("proof " + text, slip.proof(text.length()), model.proof(text.length()));
    }

    private void due(String call, int got, int want) {
        if (got != want) {
            wrong++;
            System.out.println(call + " answered " + got + ", due is " + want);
        }
    }

    /** Layers of LINES, each of which has one or two of the layer ahead. */
    private int cuts() {
        int wide = 2 + chance.nextInt(4);
        int size = wide * (2 + chance.nextInt(3)) + 1;
        StringBuilder text = new StringBuilder("0=a0");
        for (int i = 1; i < Math.min(size, 15); i++) {
            int low = Math.max(0, (i - 1) / wide * wide - wide + 1);
            int high = Math.max(1, (i - 1) / wide * wide + 1);
            int a = low + chance.nextInt(high - low);
            int b = low + chance.nextInt(high - low);
            text.append(a == b ? ";0=s" + a : ";0=+" + a + "," + b);
        }
        take(text.toString());
        int n = model.size();
        int deepest = 0;
        for (int ask = 0; ask < 4; ask++) {
            int told = 0;
            for (int i = n - 1; i > 0; i--) {
                told |= i >= n - wide && chance.nextInt(3) > 0 || chance.nextInt(12) == 0 ? 1 << i : 0;
            }
            int cut = slip.anew(0, told, 1);
            due("anew(0, " + told + ", 1) of " + text, cut, model.anew(0, told, 1));
            deepest = Math.max(deepest, cut < 0 ? 0 : Integer.bitCount(cut));
        }
        return deepest;
    }

    /** Sums and products by a number with many divisors, in which SLIPS often do not show. */
    private int covers() {
        int m = new int[] {4, 6, 8, 12, 30, 36, 60, 64, 90, 96}[chance.nextInt(10)];
        slip.modulus(m);
        model.modulus(m);
        for (int a = 0; a < 10; a++) {
            int v = chance.nextBoolean() ? chance.nextInt(m) : m / (1 + chance.nextInt(3)) % m;
            slip.axiom(a, v);
            model.axiom(a, v);
        }
        int size = 4 + chance.nextInt(11);
        int axioms = 1 + chance.nextInt(size / 2);
        StringBuilder text = new StringBuilder();
        for (int i = 0; i < size; i++) {
            text.append(i == 0 ? "0=" : ";0=");
            if (i < axioms) {
                text.append('a').append(chance.nextInt(10));
            } else {
                text.append(chance.nextInt(3) > 0 ? '*' : '+').append(chance.nextInt(i)).append(',');
                text.append(chance.nextInt(i));
            }
        }
        take(text.toString());
        int lines = slip.added(1);
        due("added(1) by " + m + " of " + text, lines, model.added(1));
        return Integer.bitCount(lines);
    }
}
