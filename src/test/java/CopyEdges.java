/** Boundary cases of COPIES, PUPILS, what is KEPT, and counts: promises 24 to 32 and their terms. */
final class CopyEdges {
    static void all(Edges e) {
        copies(e);
        authors(e);
        pupils(e);
        rest(e);
    }

    private static void copies(Edges e) {
        e.of("==== 3.", "COPIED n times (1 to 20):", CopyEdges::copiedTimes);
        e.of("==== 3.", "X = (25173 X + 13849) modulo 65536 (X is THE SEED at first, 1) each time:", CopyEdges::nextX);
        e.of("==== 3.", "LINE X modulo the number of LINES:", CopyEdges::copiedLine);
        e.of("==== 3.", "if X / 32 modulo 10 is below c there, a SLIP:", CopyEdges::copiedTenths);
        e.of("==== 3.", "its CLAIM and 1 and X / 512 modulo (THE MODULUS less 1).", CopyEdges::copiedClaim);
        e.of("Promise 24", "THE SEED (0 to 65535; X, too): true;", CopyEdges::seeds);
        e.of("Promise 24", "false: no such number.", CopyEdges::noSuchSeed);
        e.of("Promise 25", "COPIED: how many SLIPS came;", CopyEdges::slipsCame);
        e.of("Promise 25", "NONE: no such n, no PROOF.", CopyEdges::copiedNone);
    }

    private static void authors(Edges e) {
        e.of("==== 3.", "THE AUTHOR's SLIP: told are CLAIMS of some COPIES (1 to 5) of THE PROOF:",
                CopyEdges::authorsCopies);
        e.of("==== 3.", "SLIPS in the honest one (LINE, another CLAIM)", CopyEdges::authorsSlips);
        e.of("==== 3.", "from which each of them comes by at most one SLIP more (at any LINE):",
                CopyEdges::authorsOneMore);
        e.of("==== 3.", "(at any LINE): how many; the first.", CopyEdges::authorsFirst);
        e.of("Promise 26", "THE AUTHOR's SLIP by k COPIES (the first bytes of the tape: CLAIMS of all LINES of one,"
                + " then the next; empty then),", CopyEdges::authorTape);
        e.of("Promise 26", "what 0 how many, 1 LINE, 2 CLAIM of the first (by LINE, then CLAIM); -2: none (of 1, 2);",
                CopyEdges::authorAsked);
        e.of("Promise 26", "NONE: no such ones, no PROOF, it has not so many (the tape stays).",
                CopyEdges::authorNone);
    }

    private static void pupils(Edges e) {
        e.of("==== 3.", "PUPILS 0 to 7 correct:", CopyEdges::eightPupils);
        e.of("==== 3.", "a LINE with a CLAIM: right if that LINE is WRONG and the CLAIM is what its RULE makes;",
                CopyEdges::rightOrNot);
        e.of("==== 3.", "then it is a SLIP by that (all behind it honest), the PUPIL has a POINT;",
                CopyEdges::rightIsSlip);
        e.of("==== 3.", "else one less (-99 to 99).", CopyEdges::pointBounds);
        e.of("Promise 27", "A PUPIL corrects a LINE by a CLAIM: POINTS then;", CopyEdges::correctsPoints);
        e.of("Promise 27", "-1000: no such ones.", CopyEdges::correctsNone);
        e.of("Promise 28", "POINTS of a PUPIL;", CopyEdges::pointsOfPupil);
        e.of("Promise 28", "-1000: no such one.", CopyEdges::pointsNone);
    }

    private static void rest(Edges e) {
        e.of("==== 3.", "KEPT: THE MODULUS, AXIOMS, THE PROOF, POINTS, X;", CopyEdges::whatIsKept);
        e.of("==== 3.", "UNDONE: as they were KEPT last.", CopyEdges::keptLast);
        e.of("==== 3.", "CHECK: CLAIMS: right, or the first number that is not so.", CopyEdges::firstNotSo);
        e.of("Promise 29", "KEPT: how many LINES there are.", CopyEdges::keepLines);
        e.of("Promise 30", "UNDONE: true;", CopyEdges::undoTrue);
        e.of("Promise 30", "false: none was KEPT.", CopyEdges::undoFalse);
        e.of("Promise 31", "CHECK by the first n numbers of the tape (0 to 20; four bytes each; empty then):",
                CopyEdges::checkNumbers);
        e.of("Promise 31", "NONE: right; else the place of the first number that is not so", CopyEdges::checkPlaces);
        e.of("Promise 31", "(how many LINES there are, if n is above that);", CopyEdges::checkBeyond);
        e.of("Promise 31", "-2: no such n, it has not so many (the tape stays).", CopyEdges::checkNone);
        e.of("Promise 32", "0 LINES, 1 CLAUSES, 2 bytes of the tape, 3 X, 4 THE MODULUS,", CopyEdges::counts);
        e.of("Promise 32", "5 the last LINE's CLAIM, 6 its TRUTH (NONE without LINES);", CopyEdges::countsOfLast);
        e.of("Promise 32", "10 + a AXIOM a.", CopyEdges::countsOfAxioms);
        e.of("Promise 32", "NONE for others.", CopyEdges::countNone);
    }

    /** The number from which a wanted X comes next. */
    private static int seedFor(int next) {
        for (int x = 0; x < 65536; x++) {
            if ((25173L * x + 13849) % 65536 == next) {
                return x;
            }
        }
        throw new IllegalArgumentException("no X leads to " + next);
    }

    /** COPIED once, by a wanted X. */
    private static int copiedBy(Bench b, int x) {
        b.due("seed for " + x, b.x.seed(seedFor(x)), true);
        int came = b.x.copied(1);
        b.due("X", b.x.count(3), x);
        return came;
    }

    private static void copiedTimes(Bench b) {
        b.proof("5=a0;6=s0");
        b.law("c5(1=1)");
        for (int n : new int[] {1, 2, 19, 20}) {
            b.x.seed(77);
            long x = 77;
            for (int time = 0; time < n; time++) {
                x = (25173 * x + 13849) % 65536;
            }
            b.due("copied(" + n + ") is not refused", b.x.copied(n) >= 0, true);
            b.due("X behind " + n, b.x.count(3), x);
        }
        b.due("copied(0)", b.x.copied(0), -1);
        b.due("copied(21)", b.x.copied(21), -1);
    }

    private static void nextX(Bench b) {
        b.proof("5=a0");
        int[] row = {1, 39022, 61087, 20196, 45005, 3882, 21259};
        b.due("at first", b.x.count(3), row[0]);
        for (int time = 1; time < row.length; time++) {
            b.due("copied(1)", b.x.copied(1), 0);
            b.due("X", b.x.count(3), row[time]);
        }
        b.x.seed(0);
        b.x.copied(1);
        b.due("behind 0", b.x.count(3), 13849);
        b.x.seed(65535);
        b.x.copied(1);
        b.due("behind 65535", b.x.count(3), 54212);
        copiedBy(b, 0);
        copiedBy(b, 65535);
    }

    private static void copiedLine(Bench b) {
        b.law("c10(1=1)");
        for (int lines : new int[] {1, 2, 3, 7, 19, 20}) {
            b.proof("5=a0" + ";5=a0".repeat(lines - 1));
            for (int x : new int[] {0, lines - 1, lines, 65535}) {
                b.x.honest();
                b.due("a SLIP by " + x, copiedBy(b, x), 1);
                b.due("at its LINE of " + lines, b.x.untrue(), 1 << x % lines);
            }
        }
    }

    private static void copiedTenths(Bench b) {
        b.proof("5=a0");
        int[][] rows = {{0, 0}, {31, 0}, {32, 1}, {319, 9}, {320, 0}, {65535, 7}, {288, 9}, {287, 8}};
        for (int c = 0; c <= 10; c++) {
            b.law("c" + c + "(1=1)");
            for (int[] row : rows) {
                b.due("by X " + row[0] + " and c " + c, copiedBy(b, row[0]), row[1] < c ? 1 : 0);
            }
        }
        b.fresh();
        b.proof("5=a0;7=a0");
        b.law("c10(i=1);c0(1=1)");
        b.due("c of LINE 0", copiedBy(b, 0), 0);
        b.due("c of LINE 1", copiedBy(b, 1), 1);
        b.proof("5=a0;7=a0");
        b.law("c10(v=7)");
        b.due("by its CLAIM as it is", copiedBy(b, 1), 1);
        b.due("by its CLAIM as it is then", copiedBy(b, 1), 0);
    }

    private static void copiedClaim(Bench b) {
        b.law("c10(1=1)");
        int[][] by97 = {{0, 1}, {511, 1}, {512, 2}, {95 * 512, 96}, {96 * 512 - 1, 96}, {96 * 512, 1}, {65535, 32}};
        for (int[] row : by97) {
            for (int claim : new int[] {0, 1, 96}) {
                b.proof(claim + "=a0");
                copiedBy(b, row[0]);
                b.due("by X " + row[0] + " from " + claim, b.x.count(5), (claim + row[1]) % 97);
            }
        }
        b.fresh();
        b.law("c10(1=1)");
        b.x.modulus(2);
        for (int x : new int[] {0, 512, 1024, 65535}) {
            b.proof("0=a0");
            copiedBy(b, x);
            b.due("by 2 from 0", b.x.count(5), 1);
            copiedBy(b, x);
            b.due("by 2 from 1", b.x.count(5), 0);
        }
        b.x.modulus(3);
        b.proof("1=a0;1=s0;2=n1");
        copiedBy(b, 513);
        // LINE 0: 1 + 1 + 1 is 0; all behind it is worked on.
        b.claimsAre("by 3", 0);
        copiedBy(b, 1);
        // LINE 1: 0 + 1 + 0; the one ahead stays.
        b.claimsAre("by 3, at LINE 1", 102);
    }

    private static void seeds(Bench b) {
        for (int x : new int[] {0, 1, 32768, 65534, 65535}) {
            b.due("seed(" + x + ")", b.x.seed(x), true);
            b.due("X", b.x.count(3), x);
        }
    }

    private static void noSuchSeed(Bench b) {
        b.x.seed(7);
        for (int x : new int[] {-1, 65536, 65537, Integer.MAX_VALUE, Integer.MIN_VALUE}) {
            b.due("seed(" + x + ")", b.x.seed(x), false);
            b.due("X stays", b.x.count(3), 7);
        }
    }

    private static void slipsCame(Bench b) {
        b.proof("5=a0;6=s0");
        b.due("without a LAW", b.x.copied(20), 0);
        b.claimsAre("stay", 506);
        b.law("c10(1=1)");
        b.due("all", b.x.copied(20), 20);
        b.due("one", b.x.copied(1), 1);
        b.law("c0(1=1)");
        b.due("none", b.x.copied(20), 0);
        b.law("c5(1=1)");
        b.x.seed(1);
        int due = 0;
        long x = 1;
        for (int time = 0; time < 20; time++) {
            x = (25173 * x + 13849) % 65536;
            due += x / 32 % 10 < 5 ? 1 : 0;
        }
        b.due("some", b.x.copied(20), due);
    }

    private static void copiedNone(Bench b) {
        b.law("c10(1=1)");
        b.due("no PROOF", b.x.copied(1), -1);
        b.due("X stays", b.x.count(3), 1);
        b.proof("5=a0");
        for (int n : new int[] {0, -1, 21, 22, Integer.MAX_VALUE, Integer.MIN_VALUE}) {
            b.due("copied(" + n + ")", b.x.copied(n), -1);
        }
        b.due("X stays", b.x.count(3), 1);
        b.claimsAre("stay", 5);
    }

    /** By 10, with 3 and 4 as TRUTHS of two LINES that have no other one. */
    private static void twoAxioms(Bench b) {
        b.fresh();
        b.school("3=a0;4=a1");
    }

    private static void authorIs(Bench b, int k, int[] bytes, int... due) {
        for (int what = 0; what < 3; what++) {
            b.x.check(0);
            b.feed(bytes);
            b.due("author(" + k + ", " + what + ") of " + java.util.Arrays.toString(bytes),
                    b.x.author(k, what), due[what]);
        }
    }

    private static int[] row(int... bytes) {
        return bytes;
    }

    private static void authorsCopies(Bench b) {
        twoAxioms(b);
        authorIs(b, 1, row(5, 6), 1, 0, 5);
        authorIs(b, 2, row(5, 6, 5, 7), 1, 0, 5);
        authorIs(b, 5, row(5, 6, 5, 7, 5, 8, 5, 9, 5, 0), 1, 0, 5);
        authorIs(b, 5, row(5, 6, 5, 7, 5, 8, 5, 9, 6, 0), 0, -2, -2);
        authorIs(b, 4, row(5, 6, 5, 7, 5, 8, 5, 9, 6, 0), 1, 0, 5);
        authorIs(b, 6, row(5, 6, 5, 7, 5, 8, 5, 9, 5, 0, 5, 1), -1, -1, -1);
        authorIs(b, 0, row(5, 6), -1, -1, -1);
        // What is not below THE MODULUS is no CLAIM, so that no SLIP leads to it.
        authorIs(b, 1, row(15, 6), 0, -2, -2);
        authorIs(b, 1, row(5, 16), 0, -2, -2);
        authorIs(b, 1, row(5, 10), 0, -2, -2);
        authorIs(b, 1, row(5, 255), 0, -2, -2);
        authorIs(b, 1, row(5, 9), 1, 0, 5);
        authorIs(b, 2, row(5, 9, 5, 10), 0, -2, -2);
    }

    private static void authorsSlips(Bench b) {
        twoAxioms(b);
        // The honest one comes from each other CLAIM by the SLIP back: nine at each LINE, not the TRUTH.
        authorIs(b, 1, row(3, 4), 18, 0, 0);
        b.proof("9=a0;8=a1");
        authorIs(b, 1, row(3, 4), 18, 0, 0);
        b.claimsAre("do not matter and stay", 908);
        b.x.axiom(0, 0);
        authorIs(b, 1, row(0, 4), 18, 0, 1);
        b.x.modulus(2);
        b.proof("0=a0");
        authorIs(b, 1, row(0), 1, 0, 1);
        authorIs(b, 1, row(1), 1, 0, 1);
        authorIs(b, 1, row(2), 0, -2, -2);
    }

    private static void authorsOneMore(Bench b) {
        twoAxioms(b);
        // No SLIP more from (1, 6); else one at LINE 1; from LINE 0 there is no way back that leaves 6.
        authorIs(b, 1, row(3, 6), 9, 1, 0);
        // From any at LINE 0 by one there; from any at LINE 1 by one at LINE 0, behind which all is honest.
        authorIs(b, 1, row(5, 4), 18, 0, 0);
        // At LINE 1 alone: a SLIP at LINE 0 would make it honest.
        authorIs(b, 1, row(5, 6), 1, 0, 5);
        b.school("3=a0;3=s0;3=s1");
        // Two SLIPS in it: the author's is the first of them.
        authorIs(b, 1, row(5, 6, 6), 1, 0, 5);
        authorIs(b, 1, row(3, 6, 7), 1, 1, 6);
        // Three SLIPS are too many.
        authorIs(b, 1, row(5, 6, 7), 0, -2, -2);
        // Each of them by its own SLIP.
        authorIs(b, 3, row(5, 5, 6, 5, 6, 6, 5, 5, 5), 1, 0, 5);
    }

    private static void authorsFirst(Bench b) {
        b.school("3=a0;3=s0;3=s1");
        // 3, 3, 6: from LINE 2 by any, and from no other, as a way back at 0 or 1 makes it honest.
        authorIs(b, 1, row(3, 3, 6), 9, 2, 0);
        // 3, 6, 6: from LINE 1 by any, from LINE 2 by one at LINE 1.
        authorIs(b, 1, row(3, 6, 6), 18, 1, 0);
        authorIs(b, 1, row(6, 6, 6), 27, 0, 0);
        authorIs(b, 2, row(3, 6, 6, 3, 3, 6), 9, 2, 0);
    }

    private static void authorTape(Bench b) {
        twoAxioms(b);
        b.feed(5, 6, 6, 6);
        b.due("the first bytes alone", b.x.author(1, 0), 1);
        b.due("empty", b.x.count(2), 0);
        b.feed(5, 6, 5, 7);
        b.due("one, then the next", b.x.author(2, 2), 5);
        b.due("empty", b.x.count(2), 0);
        b.feed(15, 6);
        b.due("of no CLAIM", b.x.author(1, 0), 0);
        b.due("empty", b.x.count(2), 0);
        b.proof("0=a2" + ";0=s0".repeat(19));
        b.feed(new int[20]);
        b.due("all 20 bytes", b.x.author(1, 0), 180);
        b.feed(new int[100]);
        b.due("all 100 bytes", b.x.author(5, 0), 180);
        b.due("empty", b.x.count(2), 0);
        int[] bytes = new int[100];
        bytes[99] = 1;
        b.feed(bytes);
        // The last LINE of the fifth one matters.
        b.due("how many, by the last byte", b.x.author(5, 0), 9);
    }

    private static void authorAsked(Bench b) {
        twoAxioms(b);
        authorIs(b, 1, row(5, 6), 1, 0, 5);
        authorIs(b, 2, row(5, 6, 6, 5), 0, -2, -2);
        authorIs(b, 1, row(3, 4), 18, 0, 0);
        b.fresh();
        b.proof("0=a0" + ";0=a0".repeat(19));
        int[] bytes = new int[20];
        bytes[19] = 96;
        authorIs(b, 1, bytes, 96, 19, 1);
        bytes[18] = 96;
        authorIs(b, 1, bytes, 1, 18, 96);
    }

    private static void authorNone(Bench b) {
        b.feed(3, 4);
        for (int k = 0; k <= 6; k++) {
            b.due("no PROOF: author(" + k + ", 0)", b.x.author(k, 0), -1);
        }
        b.due("the tape stays", b.x.count(2), 20);
        b.x.check(0);
        b.school("3=a0" + ";3=s0".repeat(6));
        b.feed(3, 3, 3, 3, 3, 3, 3);
        b.due("author(3, 0): 21 bytes", b.x.author(3, 0), -1);
        b.due("author(5, 0): 35 bytes", b.x.author(5, 0), -1);
        for (int k : new int[] {0, -1, 6, 7, Integer.MAX_VALUE, Integer.MIN_VALUE, 1 << 30}) {
            b.due("author(" + k + ", 0)", b.x.author(k, 0), -1);
        }
        for (int what : new int[] {-1, 3, 4, Integer.MAX_VALUE, Integer.MIN_VALUE}) {
            b.due("author(1, " + what + ")", b.x.author(1, what), -1);
        }
        b.due("the tape stays", b.x.count(2), 20);
        b.due("author(1, 0)", b.x.author(1, 0), 63);
        b.due("of an empty tape", b.x.author(1, 0), -1);
        b.feed(new int[220]);
        b.due("author(6, 0) of 220 bytes", b.x.author(6, 0), -1);
        b.due("author(0, 0) of 220 bytes", b.x.author(0, 0), -1);
        b.due("the tape stays", b.x.count(2), 220);
        b.school("3=a0" + ";3=s0".repeat(9));
        b.feed(3, 3, 3, 3, 3, 3, 3, 3, 3, 3, 3, 3, 3, 3, 3, 3, 3, 3, 3, 3);
        b.due("author(2, 0): just 20 bytes", b.x.author(2, 0), 90);
    }

    private static void eightPupils(Bench b) {
        b.school(Bench.SLIPPED);
        for (int p = 0; p < 8; p++) {
            for (int time = 0; time <= p; time++) {
                b.due("corrects(" + p + ", 0, 0)", b.x.corrects(p, 0, 0), -1 - time);
            }
        }
        for (int p = 0; p < 8; p++) {
            b.due("points(" + p + ")", b.x.points(p), -1 - p);
        }
        b.due("no PUPIL 8", b.x.corrects(8, 0, 0), -1000);
        b.due("no PUPIL -1", b.x.corrects(-1, 0, 0), -1000);
    }

    private static void rightOrNot(Bench b) {
        b.school(Bench.SLIPPED);
        b.due("not WRONG, by its CLAIM", b.x.corrects(0, 0, 3), -1);
        b.due("not WRONG, by its TRUTH", b.x.corrects(0, 3, 1), -2);
        b.due("WRONG, by its CLAIM", b.x.corrects(0, 2, 8), -3);
        b.due("WRONG, by another CLAIM", b.x.corrects(0, 2, 0), -4);
        b.claimsAre("stay", 30408040406L);
        b.due("WRONG, by what its RULE makes", b.x.corrects(0, 2, 7), -3);
        b.claimsAre("are worked on", 30407010109L);
        b.school("9=a0;4=a1;8=+0,1");
        b.due("by its TRUTH, which its RULE does not make now", b.x.corrects(1, 2, 7), -1);
        b.due("by what its RULE makes now", b.x.corrects(1, 2, 3), 0);
        b.claimsAre("ahead stay", 90403);
        b.x.axiom(0, 0);
        b.due("by 0", b.x.corrects(1, 0, 0), 1);
        b.claimsAre("by 0", 404);
        b.x.axiom(0, 9);
        b.due("by the highest CLAIM", b.x.corrects(1, 0, 9), 2);
        b.claimsAre("by 9", 90403);
    }

    private static void rightIsSlip(Bench b) {
        b.school("3=a0;4=a1;8=+0,1;0=*2,0;5=s3;5=n1");
        b.due("right", b.x.corrects(5, 2, 7), 1);
        b.claimsAre("behind it are honest", 30407010106L);
        b.due("a POINT", b.x.points(5), 1);
        b.school("9=a0;4=a1;8=+0,1;0=s2;9=a0");
        b.due("right", b.x.corrects(5, 2, 3), 2);
        b.claimsAre("ahead stay, an AXIOM behind gets its number", 904030303);
        b.school("9=a0;4=s0");
        b.due("at the last", b.x.corrects(5, 1, 9), 3);
        b.claimsAre("at the last", 909);
        b.due("at the first", b.x.corrects(5, 0, 3), 4);
        b.claimsAre("at the first", 303);
    }

    private static void pointBounds(Bench b) {
        b.school("3=a0;4=a1");
        for (int n = 1; n <= 98; n++) {
            b.x.corrects(3, 0, 0);
        }
        b.due("98 less", b.x.points(3), -98);
        b.due("the least", b.x.corrects(3, 0, 0), -99);
        b.due("no less", b.x.corrects(3, 0, 0), -99);
        b.due("points(3)", b.x.points(3), -99);
        b.x.axiom(0, 5);
        b.due("one more", b.x.corrects(3, 0, 5), -98);
        b.fresh();
        b.school("3=a0;3=s0");
        for (int n = 1; n <= 98; n++) {
            b.x.axiom(0, n % 2 == 1 ? 5 : 6);
            b.x.corrects(4, 0, n % 2 == 1 ? 5 : 6);
        }
        b.due("98 more", b.x.points(4), 98);
        b.x.axiom(0, 7);
        b.due("the most", b.x.corrects(4, 0, 7), 99);
        b.x.axiom(0, 8);
        b.due("no more", b.x.corrects(4, 0, 8), 99);
        b.claimsAre("are right all the same", 808);
        b.due("one less", b.x.corrects(4, 0, 8), 98);
    }

    private static void correctsPoints(Bench b) {
        b.school(Bench.SLIPPED);
        b.due("from 0 to -1", b.x.corrects(7, 2, 6), -1);
        b.due("from -1 to 0", b.x.corrects(7, 2, 7), 0);
        b.due("another one's first", b.x.corrects(0, 2, 7), -1);
        b.x.axiom(0, 4);
        b.due("from 0 to 1", b.x.corrects(7, 0, 4), 1);
        b.due("points(7)", b.x.points(7), 1);
    }

    private static void correctsNone(Bench b) {
        b.due("no PROOF", b.x.corrects(0, 0, 0), -1000);
        b.school(Bench.SLIPPED);
        for (int p : new int[] {-1, 8, 9, Integer.MAX_VALUE, Integer.MIN_VALUE}) {
            b.due("corrects(" + p + ", 2, 7)", b.x.corrects(p, 2, 7), -1000);
        }
        for (int i : new int[] {-1, 6, 7, 20, Integer.MAX_VALUE, Integer.MIN_VALUE}) {
            b.due("corrects(0, " + i + ", 7)", b.x.corrects(0, i, 7), -1000);
        }
        for (int v : new int[] {-1, 10, 17, 97, Integer.MAX_VALUE, Integer.MIN_VALUE}) {
            b.due("corrects(0, 2, " + v + ")", b.x.corrects(0, 2, v), -1000);
        }
        b.due("no POINT less", b.x.points(0), 0);
        b.claimsAre("stay", 30408040406L);
    }

    private static void pointsOfPupil(Bench b) {
        for (int p = 0; p < 8; p++) {
            b.due("points(" + p + ") at first", b.x.points(p), 0);
        }
        b.school(Bench.SLIPPED);
        b.x.corrects(7, 0, 0);
        b.x.corrects(0, 2, 7);
        b.due("points(0)", b.x.points(0), 1);
        b.due("points(7)", b.x.points(7), -1);
        b.x.modulus(5);
        b.due("they stay without a PROOF", b.x.points(0), 1);
    }

    private static void pointsNone(Bench b) {
        for (int p : new int[] {-1, 8, 9, Integer.MAX_VALUE, Integer.MIN_VALUE}) {
            b.due("points(" + p + ")", b.x.points(p), -1000);
        }
    }

    private static void whatIsKept(Bench b) {
        b.school(Bench.SLIPPED);
        b.x.axiom(9, 8);
        b.x.seed(65535);
        b.x.corrects(0, 0, 0);
        b.x.corrects(7, 0, 0);
        b.law("r(1=1)");
        b.x.keep();
        b.x.modulus(97);
        b.x.axiom(0, 96);
        b.x.axiom(9, 0);
        b.proof("96=a0;1=n0;1=s1");
        b.x.seed(0);
        b.x.corrects(0, 0, 0);
        b.x.corrects(7, 0, 0);
        b.law("r(1=1);t5(1=1)");
        b.x.feed(1, 2, 3, 4, 5);
        b.due("undo()", b.x.undo(), true);
        b.due("THE MODULUS", b.x.count(4), 10);
        int[] axioms = {3, 4, 0, 0, 0, 0, 0, 0, 0, 8};
        for (int a = 0; a < 10; a++) {
            b.due("AXIOM " + a, b.x.count(10 + a), axioms[a]);
        }
        b.due("LINES", b.x.count(0), 6);
        b.claimsAre("of THE PROOF", 30408040406L);
        int[] firsts = {0, 1, 0, 2, 3, 4};
        int[] seconds = {-2, -2, 1, 0, -2, -2};
        int[] kinds = {0, 0, 3, 4, 1, 2};
        int[] depths = {0, 0, 1, 2, 3, 4};
        int[] users = {2, 1, 1, 1, 1, 0};
        int[] needs = {0, 0, 3, 7, 15, 31};
        for (int i = 0; i < 6; i++) {
            b.due("KIND of " + i, b.x.line(i, 1), kinds[i]);
            b.due("first of " + i, b.x.line(i, 2), firsts[i]);
            b.due("second of " + i, b.x.line(i, 3), seconds[i]);
            b.due("DEPTH of " + i, b.x.line(i, 6), depths[i]);
            b.due("how many have " + i, b.x.line(i, 7), users[i]);
            b.due("what " + i + " needs", b.x.stands(i, 1), needs[i]);
        }
        b.due("POINTS of 0", b.x.points(0), -1);
        b.due("POINTS of 7", b.x.points(7), -1);
        b.due("X", b.x.count(3), 65535);
        b.due("THE LAW is not", b.x.count(1), 2);
        b.due("THE LAW as it is", b.x.reads(0, 2), 30);
        b.due("the tape is not", b.x.count(2), 20);
        b.due("the tape as it is", b.x.check(5), 0);
    }

    private static void keptLast(Bench b) {
        b.x.seed(1);
        b.x.keep();
        b.x.seed(2);
        b.x.keep();
        b.x.seed(3);
        b.due("undo()", b.x.undo(), true);
        b.due("the last one", b.x.count(3), 2);
        b.x.seed(4);
        b.due("undo() again", b.x.undo(), true);
        b.due("the last one still", b.x.count(3), 2);
        b.school(Bench.HONEST);
        b.x.keep();
        b.x.axiom(0, 9);
        b.x.corrects(1, 0, 9);
        b.claimsAre("by 9", 90403070703L);
        b.x.undo();
        b.claimsAre("as they were", 30407010109L);
        b.x.honest();
        b.x.axiom(1, 0);
        b.x.honest();
        b.x.undo();
        b.claimsAre("as they were, again", 30407010109L);
        b.due("AXIOM 1", b.x.count(11), 4);
        b.due("points(1)", b.x.points(1), 0);
    }

    private static void checkIs(Bench b, int n, int due, int... numbers) {
        for (int from = 0; from < numbers.length; from += 5) {
            int[] w = new int[5];
            for (int p = 0; p < 5; p++) {
                w[p] = from + p < numbers.length ? numbers[from + p] : 99;
            }
            b.x.feed(w[0], w[1], w[2], w[3], w[4]);
        }
        b.due("check(" + n + ") of " + java.util.Arrays.toString(numbers), b.x.check(n), due);
        b.due("the tape is empty", b.x.count(2), 0);
    }

    private static void firstNotSo(Bench b) {
        b.school("3=a0;4=a1;7=+0,1");
        checkIs(b, 3, -1, 3, 4, 7);
        checkIs(b, 3, 0, 4, 4, 7);
        checkIs(b, 3, 0, 4, 3, 6);
        checkIs(b, 3, 1, 3, 3, 6);
        checkIs(b, 3, 2, 3, 4, 6);
        b.school("9=a0;4=a1;7=+0,1");
        checkIs(b, 3, 0, 3, 4, 7);
        checkIs(b, 3, -1, 9, 4, 7);
    }

    private static void keepLines(Bench b) {
        b.due("no PROOF", b.x.keep(), 0);
        b.proof("5=a0");
        b.due("one", b.x.keep(), 1);
        b.proof("5=a0" + ";5=a0".repeat(19));
        b.due("twenty", b.x.keep(), 20);
        b.due("again", b.x.keep(), 20);
    }

    private static void undoTrue(Bench b) {
        b.x.keep();
        b.due("at once", b.x.undo(), true);
        b.school(Bench.HONEST);
        b.due("to no PROOF", b.x.undo(), true);
        b.due("LINES", b.x.count(0), 0);
        b.due("THE MODULUS", b.x.count(4), 97);
        b.due("AXIOM 0", b.x.count(10), 0);
        b.due("often", b.x.undo(), true);
        b.due("often", b.x.undo(), true);
    }

    private static void undoFalse(Bench b) {
        b.due("at first", b.x.undo(), false);
        b.school(Bench.SLIPPED);
        b.x.seed(9);
        b.due("later", b.x.undo(), false);
        b.claimsAre("stay", 30408040406L);
        b.due("X stays", b.x.count(3), 9);
        b.due("THE MODULUS stays", b.x.count(4), 10);
        OneSlip other = b.x;
        b.fresh();
        b.x.keep();
        b.due("another one's", other.undo(), false);
    }

    private static void checkNumbers(Bench b) {
        checkIs(b, 0, -1);
        b.school("3=a0;4=a1;7=+0,1");
        checkIs(b, 0, -1, 9, 9, 9);
        checkIs(b, 1, -1, 3, 9, 9);
        checkIs(b, 2, -1, 3, 4, 9);
        checkIs(b, 3, 0, 3 + (1 << 24), 4, 7);
        checkIs(b, 3, 0, 3 + (1 << 31), 4, 7);
        checkIs(b, 3, 1, 3, 4 + (1 << 16), 7);
        checkIs(b, 3, 1, 3, 4 + (1 << 8), 7);
        checkIs(b, 3, 2, 3, 4, 7 - 10);
        checkIs(b, 3, 2, 3, 4, 17);
        int[] twenty = new int[20];
        b.proof("0=a9" + ";0=s0".repeat(19));
        checkIs(b, 20, -1, twenty);
        twenty[19] = 1;
        checkIs(b, 20, 19, twenty);
        checkIs(b, 19, -1, twenty);
    }

    private static void checkPlaces(Bench b) {
        b.proof("1=a0;2=a0;3=a0;4=a0;5=a0;96=a0");
        checkIs(b, 6, -1, 1, 2, 3, 4, 5, 96);
        for (int place = 0; place < 6; place++) {
            int[] numbers = {1, 2, 3, 4, 5, 96};
            numbers[place] = 0;
            checkIs(b, 6, place, numbers);
            checkIs(b, place, -1, numbers);
        }
    }

    private static void checkBeyond(Bench b) {
        checkIs(b, 1, 0, 0);
        checkIs(b, 20, 0, new int[20]);
        b.school("3=a0;4=a1;7=+0,1");
        checkIs(b, 3, -1, 3, 4, 7, 0);
        checkIs(b, 4, 3, 3, 4, 7, 0);
        checkIs(b, 5, 3, 3, 4, 7, 0, 0);
        int[] twenty = new int[20];
        System.arraycopy(new int[] {3, 4, 7}, 0, twenty, 0, 3);
        checkIs(b, 20, 3, twenty);
        // One ahead of those is the first that is not so.
        checkIs(b, 4, 1, 3, 5, 7, 0);
        b.proof("0=a9" + ";0=s0".repeat(18));
        checkIs(b, 20, 19, new int[20]);
    }

    private static void checkNone(Bench b) {
        b.due("of an empty tape: check(1)", b.x.check(1), -2);
        b.due("of an empty tape: check(-1)", b.x.check(-1), -2);
        b.school("3=a0;4=a1;7=+0,1");
        b.x.feed(3, 4, 7, 0, 0);
        for (int n : new int[] {-1, 6, 20, 21, 1 << 30, Integer.MAX_VALUE, Integer.MIN_VALUE}) {
            b.due("check(" + n + ")", b.x.check(n), -2);
            b.due("the tape stays", b.x.count(2), 20);
        }
        b.due("check(5), all it has", b.x.check(5), 3);
        for (int time = 0; time < 11; time++) {
            b.x.feed(3, 4, 7, 0, 0);
        }
        b.due("check(21) of 55", b.x.check(21), -2);
        b.due("the tape stays", b.x.count(2), 220);
        b.due("check(20) of 55", b.x.check(20), 3);
    }

    private static void counts(Bench b) {
        int[] first = {0, 0, 0, 1, 97};
        for (int what = 0; what < 5; what++) {
            b.due("at first: count(" + what + ")", b.x.count(what), first[what]);
        }
        b.proof("5=a0" + ";5=a0".repeat(19));
        b.law("r(1=1);".repeat(13) + "r(1=1)");
        for (int time = 0; time < 11; time++) {
            b.x.feed(0, 0, 0, 0, 0);
        }
        b.x.seed(65535);
        int[] most = {20, 14, 220, 65535, 97};
        for (int what = 0; what < 5; what++) {
            b.due("the most: count(" + what + ")", b.x.count(what), most[what]);
        }
        b.x.seed(0);
        b.x.modulus(2);
        int[] least = {0, 14, 220, 0, 2};
        for (int what = 0; what < 5; what++) {
            b.due("then: count(" + what + ")", b.x.count(what), least[what]);
        }
    }

    private static void countsOfLast(Bench b) {
        b.due("without LINES: count(5)", b.x.count(5), -1);
        b.due("without LINES: count(6)", b.x.count(6), -1);
        b.proof("5=a0");
        b.due("of one LINE: count(5)", b.x.count(5), 5);
        b.due("of one LINE: count(6)", b.x.count(6), 0);
        b.school(Bench.SLIPPED);
        b.due("count(5)", b.x.count(5), 6);
        b.due("count(6)", b.x.count(6), 9);
        b.proof("5=a0" + ";5=a0".repeat(18) + ";7=a1");
        b.due("of twenty: count(5)", b.x.count(5), 7);
        b.due("of twenty: count(6)", b.x.count(6), 4);
        b.x.modulus(10);
        b.due("without LINES again: count(5)", b.x.count(5), -1);
        b.due("without LINES again: count(6)", b.x.count(6), -1);
    }

    private static void countsOfAxioms(Bench b) {
        for (int a = 0; a < 10; a++) {
            b.x.axiom(a, 96 - a);
        }
        for (int a = 0; a < 10; a++) {
            b.due("count(10 + " + a + ")", b.x.count(10 + a), 96 - a);
        }
        b.due("count(20)", b.x.count(20), -1);
    }

    private static void countNone(Bench b) {
        b.school(Bench.SLIPPED);
        for (int what : new int[] {-1, -2, 7, 8, 9, 20, 21, Integer.MAX_VALUE, Integer.MIN_VALUE}) {
            b.due("count(" + what + ")", b.x.count(what), -1);
        }
    }
}
