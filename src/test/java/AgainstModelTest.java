import java.util.Random;

/** Runs of calls by drawn chance (always the same ones), each answer compared with the model's. */
public final class AgainstModelTest {
    private static final int RUNS = 3000;
    private static final int CALLS = 500;
    private static final int[] MODULI = {2, 3, 4, 5, 6, 7, 8, 9, 10, 12, 16, 30, 60, 64, 96, 97};

    private static int failed = 0;
    private static final long[] asked = new long[40];

    private final Random chance;
    private final Texts texts;
    private final OneSlip slip = new OneSlip();
    private final Model model = new Model();
    private final StringBuilder told = new StringBuilder();
    private final int run;
    private final boolean big;
    private int calls = 0;
    private boolean bad = false;

    private AgainstModelTest(int run) {
        this.run = run;
        chance = new Random(run);
        texts = new Texts(chance);
        big = run % 20 == 0;
    }

    public static void main(String[] args) {
        for (int run = 0; run < RUNS && failed < 5; run++) {
            new AgainstModelTest(run).go();
        }
        for (int method = 0; method < 31; method++) {
            if (asked[method] == 0) {
                failed++;
                System.out.println("method " + method + " was never asked");
            }
        }
        System.out.println(failed == 0 ? "as the model answers" : failed + " runs are not as the model's");
        if (failed != 0) {
            System.exit(1);
        }
    }

    private void go() {
        if (chance.nextInt(10) > 0) {
            int m = MODULI[chance.nextInt(MODULI.length)];
            same("modulus(" + m + ")", slip.modulus(m) ? 1 : 0, model.modulus(m) ? 1 : 0);
        }
        for (int a = 0; a < 10; a++) {
            int v = chance.nextInt(model.modulusNow());
            same("axiom(" + a + "," + v + ")", slip.axiom(a, v) ? 1 : 0, model.axiom(a, v) ? 1 : 0);
        }
        while (calls < CALLS && !bad) {
            step();
        }
        if (bad) {
            failed++;
            System.out.println("run " + run + ":\n" + told);
        }
    }

    private void same(String call, long got, long due) {
        calls++;
        told.append("  ").append(call).append(" -> ").append(got).append('\n');
        if (got != due) {
            bad = true;
            told.append("  ... due is ").append(due).append('\n');
        }
    }

    private int some(int below) {
        int wild = chance.nextInt(200);
        if (wild == 0) {
            return chance.nextInt();
        }
        return wild < 8 ? chance.nextInt(4) - 2 + (wild < 4 ? below : 0) : chance.nextInt(Math.max(1, below));
    }

    private void feedBytes(int[] bytes) {
        for (int from = 0; from < bytes.length; from += 20) {
            int[] w = new int[5];
            for (int p = 0; p < 20; p++) {
                int b = from + p < bytes.length ? bytes[from + p] : chance.nextInt(256);
                w[p / 4] = w[p / 4] << 8 | b;
            }
            same("feed(" + w[0] + "," + w[1] + "," + w[2] + "," + w[3] + "," + w[4] + ")",
                    slip.feed(w[0], w[1], w[2], w[3], w[4]), model.feed(w));
        }
    }

    private void feedText(String text) {
        if (chance.nextInt(50) > 0) {
            same("check(0)", slip.check(0), model.check(0));
        }
        int[] bytes = new int[text.length()];
        for (int p = 0; p < bytes.length; p++) {
            bytes[p] = text.charAt(p);
        }
        feedBytes(bytes);
    }

    private void newProof() {
        int[] axioms = new int[10];
        for (int a = 0; a < 10; a++) {
            axioms[a] = model.count(10 + a);
        }
        int lines = 1 + chance.nextInt(big ? 20 : run % 3 == 0 ? 12 : 8);
        String text = texts.proof(lines, model.modulusNow(), axioms);
        text = chance.nextInt(4) == 0 ? texts.spoilt(text) : text;
        feedText(text);
        int n = chance.nextInt(40) == 0 ? some(201) : text.length();
        same("proof(" + n + ") of " + text, slip.proof(n), model.proof(n));
    }

    private void newLaw() {
        String text = texts.law();
        text = chance.nextInt(4) == 0 ? texts.spoilt(text) : text;
        feedText(text);
        int n = chance.nextInt(40) == 0 ? some(201) : text.length();
        same("law(" + n + ") of " + text, slip.law(n), model.law(n));
    }

    private void askAuthor() {
        int n = model.size();
        int m = model.modulusNow();
        if (n * n * m > 4000) {
            return;
        }
        int k = some(6);
        int[] bytes = new int[Math.max(1, Math.min(200, Math.max(0, Math.min(k, 6)) * n))];
        for (int c = 0; c < 6; c++) {
            Model copy = copyWithSlips(1 + chance.nextInt(2));
            for (int i = 0; i < n; i++) {
                if (c * n + i < bytes.length) {
                    bytes[c * n + i] = chance.nextInt(100) == 0 ? chance.nextInt(100) : copy.line(i, 0);
                }
            }
        }
        same("check(0)", slip.check(0), model.check(0));
        feedBytes(bytes);
        int what = some(3);
        same("author(" + k + "," + what + ")", slip.author(k, what), model.author(k, what));
    }

    /** The model's LINES made honest, with some SLIPS, by telling them to a model of their own. */
    private Model copyWithSlips(int slips) {
        Model other = new Model();
        other.modulus(model.modulusNow());
        for (int a = 0; a < 10; a++) {
            other.axiom(a, model.count(10 + a));
        }
        int n = model.size();
        int[] claims = new int[n];
        int at = n == 0 ? 0 : chance.nextInt(n);
        int again = n == 0 ? 0 : chance.nextInt(n);
        StringBuilder text = new StringBuilder();
        for (int i = 0; i < n; i++) {
            int a = model.line(i, 2);
            int b = model.line(i, 3);
            int m = model.modulusNow();
            claims[i] = switch (model.line(i, 1)) {
                case 0 -> model.count(10 + a);
                case 1 -> claims[a];
                case 2 -> (m - claims[a]) % m;
                case 3 -> (claims[a] + claims[b]) % m;
                default -> claims[a] * claims[b] % m;
            };
            if (i == at || slips > 1 && i == again) {
                claims[i] = chance.nextInt(m);
            }
            text.append(i == 0 ? "" : ";").append(claims[i]).append('=');
            text.append("asn+*".charAt(model.line(i, 1))).append(a).append(b < 0 ? "" : "," + b);
        }
        int[] w = new int[5];
        for (int p = 0; p < text.length() + 20; p++) {
            w[p % 20 / 4] = w[p % 20 / 4] << 8 | (p < text.length() ? text.charAt(p) : 0);
            if (p % 20 == 19) {
                other.feed(w);
            }
        }
        other.proof(text.length());
        return other;
    }

    private void step() {
        int method = chance.nextInt(34);
        int n = model.size();
        int m = model.modulusNow();
        if (method >= 31) {
            method = 4 + chance.nextInt(2);
        }
        if (n == 0 && chance.nextInt(3) > 0) {
            method = 4;
        }
        asked[method]++;
        int i = some(n);
        int v = some(m);
        switch (method) {
            case 0 -> {
                if (chance.nextInt(15) == 0) {
                    int to = chance.nextInt(3) == 0 ? some(99) : MODULI[chance.nextInt(MODULI.length)];
                    same("modulus(" + to + ")", slip.modulus(to) ? 1 : 0, model.modulus(to) ? 1 : 0);
                }
            }
            case 1 -> {
                int a = some(10);
                same("axiom(" + a + "," + v + ")", slip.axiom(a, v) ? 1 : 0, model.axiom(a, v) ? 1 : 0);
            }
            case 3 -> feedBytes(new int[] {chance.nextInt(256)});
            case 4 -> newProof();
            case 5 -> newLaw();
            case 26 -> askAuthor();
            default -> ask(method, n, m, i, v);
        }
    }

    private void ask(int method, int n, int m, int i, int v) {
        int what = some(method == 6 ? 9 : 4);
        int h = some(10);
        int hearers = some(1024);
        switch (method) {
            case 6 -> same("line(" + i + "," + what + ")", slip.line(i, what), model.line(i, what));
            case 7 -> same("wrong()", slip.wrong(), model.wrong());
            case 8 -> same("untrue()", slip.untrue(), model.untrue());
            case 9 -> same("slip(" + i + "," + v + ")", slip.slip(i, v), model.slip(i, v));
            case 10 -> {
                if (chance.nextInt(4) == 0) {
                    same("honest()", slip.honest(), model.honest());
                }
            }
            case 11 -> same("mended(" + what + ")", slip.mended(what), model.mended(what));
            case 12 -> same("referred(" + what + ")", slip.referred(what), model.referred(what));
            case 13 -> same("reads(" + h + "," + what + ")", slip.reads(h, what), model.reads(h, what));
            case 14 -> {
                if (n * m < 300 || chance.nextInt(20) == 0) {
                    same("hidden(" + hearers + "," + what + ")", slip.hidden(hearers, what),
                            model.hidden(hearers, what));
                }
            }
            case 15 -> same("unread(" + hearers + ")", slip.unread(hearers), model.unread(hearers));
            case 16 -> same("readers(" + hearers + "," + what + ")", slip.readers(hearers, what),
                    model.readers(hearers, what));
            case 17 -> same("blind(" + i + ")", slip.blind(i), model.blind(i));
            case 18 -> {
                if (n * m < 80 || n > 8 || chance.nextInt(100) == 0) {
                    int w = some(5);
                    same("cancel(" + w + ")", slip.cancel(w), model.cancel(w));
                }
            }
            case 19 -> same("stands(" + i + "," + what + ")", slip.stands(i, what), model.stands(i, what));
            default -> askMore(method, n, m, i, v);
        }
    }

    private void askMore(int method, int n, int m, int i, int v) {
        int what = some(2);
        int h = some(10);
        boolean cheap = n < 13 || chance.nextInt(20) == 0;
        switch (method) {
            case 20 -> {
                int from = chance.nextBoolean() ? i : some(1 + n / 4);
                int lines = linesFor(from, n);
                if (cheap) {
                    same("anew(" + from + "," + lines + "," + what + ")", slip.anew(from, lines, what),
                            model.anew(from, lines, what));
                }
            }
            case 21 -> {
                if (cheap) {
                    same("added(" + what + ")", slip.added(what), model.added(what));
                }
            }
            case 22 -> {
                int w = chance.nextInt(4) == 0 ? 30 + chance.nextInt(2) : some(n);
                if (n < 11 || cheap) {
                    same("order(" + h + "," + w + ")", slip.order(h, w), model.order(h, w));
                }
            }
            case 23 -> {
                int x = some(65536);
                same("seed(" + x + ")", slip.seed(x) ? 1 : 0, model.seed(x) ? 1 : 0);
            }
            case 24 -> {
                int times = some(21);
                same("copied(" + times + ")", slip.copied(times), model.copied(times));
            }
            case 25 -> {
                int p = some(8);
                int at = model.wrong() != 0 && chance.nextBoolean() ? Integer.numberOfTrailingZeros(model.wrong()) : i;
                int claim = chance.nextInt(3) > 0 ? model.line(at, 5) : v;
                same("corrects(" + p + "," + at + "," + claim + ")", slip.corrects(p, at, claim),
                        model.corrects(p, at, claim));
            }
            case 27 -> {
                int p = some(8);
                same("points(" + p + ")", slip.points(p), model.points(p));
            }
            case 28 -> {
                if (chance.nextInt(5) == 0) {
                    same("keep()", slip.keep(), model.keep());
                } else if (chance.nextInt(5) == 0) {
                    same("undo()", slip.undo() ? 1 : 0, model.undo() ? 1 : 0);
                }
            }
            case 29 -> askCheck(n);
            default -> {
                int w = some(20);
                same("count(" + w + ")", slip.count(w), model.count(w));
            }
        }
    }

    /** Mostly LINES that stand on one without having it, so that there is something to cut. */
    private int linesFor(int from, int n) {
        if (chance.nextInt(4) == 0) {
            return some(1 << n);
        }
        int lines = 0;
        for (int j = 0; j < n; j++) {
            boolean stands = (model.stands(from, 0) >> j & 1) != 0 && model.stands(from, 0) > 0;
            boolean has = model.line(j, 1) > 0 && (model.line(j, 2) == from || model.line(j, 3) == from);
            lines |= stands && !has && chance.nextInt(3) > 0 || chance.nextInt(50) == 0 ? 1 << j : 0;
        }
        return lines;
    }

    private void askCheck(int n) {
        int k = some(chance.nextBoolean() ? 21 : n + 2);
        if (chance.nextInt(10) > 0) {
            same("check(0)", slip.check(0), model.check(0));
        }
        int[] bytes = new int[4 * Math.max(0, Math.min(k, 20))];
        for (int p = 0; p < bytes.length / 4; p++) {
            int claim = chance.nextInt(15) == 0 ? chance.nextInt() : model.line(p, 0);
            for (int b = 0; b < 4; b++) {
                bytes[4 * p + b] = claim >>> 24 - 8 * b & 255;
            }
        }
        feedBytes(bytes);
        same("check(" + k + ")", slip.check(k), model.check(k));
    }
}
