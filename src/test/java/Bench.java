import java.util.function.Consumer;

/** A new school for each test, with hands to feed it texts, and a count of what was not as due. */
final class Bench {
    /** Honest in the school below. */
    static final String HONEST = "3=a0;4=a1;7=+0,1;1=*2,0;1=s3;9=n4";
    /** The same with a SLIP at LINE 2. */
    static final String SLIPPED = "3=a0;4=a1;8=+0,1;4=*2,0;4=s3;6=n4";

    private int wrong = 0;
    private String promise = "";
    OneSlip x = new OneSlip();

    void test(String name, Consumer<Bench> body) {
        promise = name;
        x = new OneSlip();
        body.accept(this);
    }

    /** Another new school within a test: one is used for 512 calls alone. */
    void fresh() {
        x = new OneSlip();
    }

    void due(String call, long got, long want) {
        if (got != want) {
            wrong++;
            System.out.println(promise + ": " + call + " answered " + got + ", due is " + want);
        }
    }

    void due(String call, boolean got, boolean want) {
        due(call, got ? 1 : 0, want ? 1 : 0);
    }

    void feed(int... bytes) {
        for (int from = 0; from < bytes.length; from += 20) {
            int[] w = new int[5];
            for (int p = 0; p < 20; p++) {
                w[p / 4] = w[p / 4] << 8 | (from + p < bytes.length ? bytes[from + p] : 'a');
            }
            x.feed(w[0], w[1], w[2], w[3], w[4]);
        }
    }

    void feed(String text) {
        feed(text.chars().toArray());
    }

    int proof(String text) {
        x.check(0);
        feed(text);
        return x.proof(text.length());
    }

    int law(String text) {
        x.check(0);
        feed(text);
        return x.law(text.length());
    }

    /** Modulus 10, with 3 and 4 as axioms 0 and 1, and a PROOF. */
    void school(String text) {
        x.modulus(10);
        x.axiom(0, 3);
        x.axiom(1, 4);
        due("the proof is sound", proof(text) > 0, true);
    }

    void proofIs(String text, int want) {
        due("proof " + text, proof(text), want);
    }

    void lawIs(String text, int want) {
        due("law " + text, law(text), want);
    }

    /** The MINUTES of one LINE (the first of the PROOF) by a law, where the E is within its bounds. */
    void minutesAre(String clauses, int want) {
        due("sound", law("r(i=0);" + clauses) > 0, true);
        due("minutes by " + clauses, x.reads(0, 2), want);
    }

    void holds(String condition, boolean want) {
        lawIs("r(" + condition + ")", 1);
        due("hearer 3 reads line 0 by " + condition, (x.reads(3, 0) & 1) != 0, want);
    }

    void claimsAre(String when, long want) {
        due("claims " + when, claims(), want);
    }

    /** All CLAIMS, as one row of two digits each (so that a test can tell them in one number). */
    long claims() {
        long row = 0;
        for (int i = 0; i < x.count(0); i++) {
            row = row * 100 + x.line(i, 0);
        }
        return row;
    }

    void end() {
        System.out.println(wrong == 0 ? "all answers are as due" : wrong + " answers are not as due");
        if (wrong != 0) {
            System.exit(1);
        }
    }
}
