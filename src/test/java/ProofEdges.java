/** Boundary cases of numbers, the tape and THE PROOF's TEXT: promises 1 to 5 and their terms. */
final class ProofEdges {
    private static final String DIGITS = "0123456789";

    static void all(Edges e) {
        terms(e);
        faults(e);
        promises(e);
    }

    private static void terms(Edges e) {
        e.of("Terms", "All numbers are counted by THE MODULUS", ProofEdges::countedByModulus);
        e.of("Terms", "(2 to 97; 97 at first)", ProofEdges::moduli);
        e.of("Terms", "AXIOMS 0 to 9: a number each", ProofEdges::tenAxioms);
        e.of("Terms", "(0 to 96, by THE MODULUS; 0 at first)", ProofEdges::axiomNumbers);
        e.of("Terms", "THE PROOF: a TEXT of at most 200 bytes", ProofEdges::longProofs);
        e.of("Terms", "no blanks (none at first): LINES", ProofEdges::noBlanks);
        e.of("Terms", "(20 at most) with a ; (59) between two: a CLAIM", ProofEdges::twentyLines);
        e.of("Terms", "(0 to 96, one or two digits)", ProofEdges::claims);
        e.of("Terms", ", =, a RULE: a and an AXIOM (a digit);", ProofEdges::axiomDigits);
        e.of("Terms", "s and a LINE: the same; n and a LINE: its negative;", ProofEdges::rulesOfOne);
        e.of("Terms", "+ or *, a LINE, a , and a LINE: both summed, multiplied.", ProofEdges::rulesOfTwo);
        e.of("Terms", "LINES are told by their numbers (0 on, one or two digits)", ProofEdges::lineNumbers);
        e.of("Terms", ", each ahead of the one that has it.", ProofEdges::linesAhead);
    }

    private static void faults(Edges e) {
        e.of("Terms", "FAULTS, the first from the left: 1 what can't stand there (the end, too); 3",
                ProofEdges::whatCanStand);
        e.of("Terms", "a CLAIM not below THE MODULUS, 6", ProofEdges::claimsTooHigh);
        e.of("Terms", "a LINE that is not ahead, each at its first digit", ProofEdges::linesNotAhead);
        e.of("Terms", "(asked when its digits end, behind two at the latest)", ProofEdges::whenDigitsEnd);
        e.of("Terms", "4 a 21st LINE, at its CLAIM's first digit.", ProofEdges::lineTwentyOne);
    }

    private static void promises(Edges e) {
        e.of("Promise 1", "THE MODULUS 97, no PROOF, LAW; THE SEED 1.", ProofEdges::newObject);
        e.of("Promise 2", "THE MODULUS (then there is no PROOF,", ProofEdges::modulusEndsProof);
        e.of("Promise 2", "AXIOMS are by it): true;", ProofEdges::modulusAndAxioms);
        e.of("Promise 2", "false: no such one.", ProofEdges::noSuchModulus);
        e.of("Promise 3", "An AXIOM's number: true;", ProofEdges::axiomIsTrue);
        e.of("Promise 3", "false: no such ones, not below THE MODULUS.", ProofEdges::noSuchAxiom);
        e.of("Promise 4", "Twenty bytes come behind the tape, the highest of each int first: how many it has;",
                ProofEdges::feedOrder);
        e.of("Promise 4", "NONE if that would be more than 220.", ProofEdges::fullTape);
        e.of("Promise 5", "THE PROOF by the first n bytes of the tape", ProofEdges::firstBytesAlone);
        e.of("Promise 5", "(1 to 200; empty then)", ProofEdges::proofLengths);
        e.of("Promise 5", ", in place of the one before: how many LINES;", ProofEdges::inPlace);
        e.of("Promise 5", "a FAULT: -1000 times its number, less its place (the one before stays);",
                ProofEdges::faultLeavesProof);
        e.of("Promise 5", "NONE: no such n, it has not so many (the tape stays).", ProofEdges::noSuchLength);
    }

    private static void countedByModulus(Bench b) {
        for (int m : new int[] {2, 3, 10, 96, 97}) {
            b.fresh();
            b.x.modulus(m);
            b.x.axiom(0, m - 1);
            b.x.axiom(1, 1);
            b.proofIs("0=a0;0=a1;0=+0,1;0=*0,0;0=n0;0=n2;0=n1;0=+0,0", 8);
            int[] truths = {m - 1, 1, 0, 1, 1, 0, m - 1, m - 2};
            for (int i = 0; i < truths.length; i++) {
                b.due("truth of line " + i + " by " + m, b.x.line(i, 4), truths[i]);
            }
        }
    }

    private static void moduli(Bench b) {
        b.due("at first", b.x.count(4), 97);
        for (int m = -3; m <= 200; m++) {
            b.due("modulus(" + m + ")", b.x.modulus(m), m >= 2 && m <= 97);
            b.due("by it then", b.x.count(4), Math.max(m < 2 ? 97 : 2, Math.min(97, m)));
        }
    }

    private static void tenAxioms(Bench b) {
        for (int a = 0; a <= 9; a++) {
            b.due("axiom(" + a + ", ..)", b.x.axiom(a, 50 + a), true);
        }
        b.due("axiom(-1, 7)", b.x.axiom(-1, 7), false);
        b.due("axiom(10, 7)", b.x.axiom(10, 7), false);
        for (int a = 0; a <= 9; a++) {
            b.due("count(10 + " + a + ")", b.x.count(10 + a), 50 + a);
        }
        for (int a = 0; a <= 9; a++) {
            b.proofIs("0=a" + a, 1);
            b.due("what the rule a" + a + " makes", b.x.line(0, 5), 50 + a);
        }
    }

    private static void axiomNumbers(Bench b) {
        for (int a = 0; a <= 9; a++) {
            b.due("axiom " + a + " at first", b.x.count(10 + a), 0);
        }
        b.due("axiom(0, 96)", b.x.axiom(0, 96), true);
        b.due("axiom(0, 97)", b.x.axiom(0, 97), false);
        b.due("axiom(0, -1)", b.x.axiom(0, -1), false);
        b.due("96 is kept", b.x.count(10), 96);
        b.due("axiom(0, 0)", b.x.axiom(0, 0), true);
        b.due("0 is kept", b.x.count(10), 0);
        b.x.modulus(2);
        b.due("by 2: axiom(0, 1)", b.x.axiom(0, 1), true);
        b.due("by 2: axiom(0, 2)", b.x.axiom(0, 2), false);
        b.due("by 2: 1 is kept", b.x.count(10), 1);
    }

    private static void longProofs(Bench b) {
        // The longest PROOF without a FAULT: 5 bytes, and 10 for each of 19 LINES more.
        String longest = "00=a0" + ";00=+00,00".repeat(19);
        b.due("the longest one's bytes", longest.length(), 195);
        b.proofIs(longest, 20);
        b.proofIs(longest + ";0000", -4196);
        b.feed(longest + ";00000");
        b.due("201 bytes", b.x.proof(201), -1);
        b.due("they are still there", b.x.count(2), 220);
        b.due("200 bytes", b.x.proof(200), -4196);
    }

    private static void noBlanks(Bench b) {
        b.due("none at first", b.x.count(0), 0);
        String text = "5=a0;12=+0,00;3=n1";
        b.proofIs(text, 3);
        for (char blank : new char[] {' ', '\t', '\n', '\r', '\0', 160}) {
            for (int place = 0; place <= text.length(); place++) {
                b.fresh();
                int answer = b.proof(text.substring(0, place) + blank + text.substring(place));
                b.due("a blank (" + (int) blank + ") at " + place, answer, -1000 - place);
            }
        }
    }

    private static void twentyLines(Bench b) {
        for (int lines = 1; lines <= 20; lines++) {
            b.fresh();
            b.proofIs("5=a0" + ";5=a0".repeat(lines - 1), lines);
            b.due("count(0)", b.x.count(0), lines);
            b.due("the last one", b.x.line(lines - 1, 0), 5);
            b.due("one behind it", b.x.line(lines, 0), -1);
        }
        b.proofIs("5=a0" + ";5=a0".repeat(20), -4100);
        b.due("the twenty stay", b.x.count(0), 20);
        for (char other : new char[] {58, 60, ',', '|'}) {
            b.proofIs("5=a0" + other + "5=a0", -1004);
        }
        b.proofIs(";5=a0", -1000);
        b.proofIs("5=a0;;5=a0", -1005);
        b.proofIs("5=a0;", -1005);
    }

    private static void claims(Bench b) {
        for (int claim = 0; claim <= 99; claim++) {
            b.fresh();
            b.proofIs(claim + "=a0", claim <= 96 ? 1 : -3000);
            b.due("its claim", b.x.count(5), claim <= 96 ? claim : -1);
            b.proofIs((claim < 10 ? "0" : "") + claim + "=a0", claim <= 96 ? 1 : -3000);
            b.due("its claim by two digits", b.x.count(5), claim <= 96 ? claim : -1);
        }
        b.proofIs("005=a0", -1002);
        b.proofIs("100=a0", -1002);
        b.proofIs("=a0", -1000);
        b.proofIs("-1=a0", -1000);
    }

    private static void axiomDigits(Bench b) {
        for (int a = 0; a <= 9; a++) {
            b.proofIs("5=a" + a, 1);
            b.due("the axiom it has", b.x.line(0, 2), a);
        }
        b.proofIs("5=a", -1003);
        b.proofIs("5=a10", -1004);
        b.proofIs("5=a00", -1004);
        b.proofIs("5a0", -1001);
        b.proofIs("5==a0", -1002);
    }

    private static void rulesOfOne(Bench b) {
        for (int claim : new int[] {0, 1, 48, 49, 96}) {
            b.fresh();
            b.x.axiom(0, claim);
            b.proofIs("0=a0;0=s0;0=n0;0=n2;0=s2", 5);
            int negative = claim == 0 ? 0 : 97 - claim;
            int[] truths = {claim, claim, negative, claim, negative};
            for (int i = 0; i < 5; i++) {
                b.due("of " + claim + ": truth of line " + i, b.x.line(i, 4), truths[i]);
            }
        }
        b.proofIs("5=a0;5=s0,0", -1009);
        b.proofIs("5=a0;5=n0,0", -1009);
    }

    private static void rulesOfTwo(Bench b) {
        int[][] pairs = {{0, 0, 0, 0}, {0, 96, 96, 0}, {96, 1, 0, 96}, {96, 96, 95, 1}, {1, 95, 96, 95}, {48, 49, 0, 24}};
        for (int[] pair : pairs) {
            b.fresh();
            b.x.axiom(0, pair[0]);
            b.x.axiom(1, pair[1]);
            b.proofIs("0=a0;0=a1;0=+0,1;0=*0,1;0=+1,0;0=*1,0", 6);
            for (int i = 2; i < 6; i++) {
                b.due(pair[0] + " and " + pair[1] + ": line " + i, b.x.line(i, 4), pair[2 + i % 2]);
            }
        }
        b.proofIs("5=a0;5=+0,0", 2);
        b.due("one line twice", b.x.line(1, 5), 10);
        b.proofIs("5=a0;5=+0", -1009);
        b.proofIs("5=a0;5=+0,", -1010);
        b.proofIs("5=a0;5=*0,0,0", -1011);
    }

    private static void lineNumbers(Bench b) {
        String ten = "5=a0" + ";5=a0".repeat(9);
        for (int line = 0; line <= 9; line++) {
            b.fresh();
            b.proofIs(ten + ";7=s" + line, 11);
            b.due("by one digit", b.x.line(10, 2), line);
            b.proofIs(ten + ";7=*0" + line + ",0" + line, 11);
            b.due("by two digits: the first", b.x.line(10, 2), line);
            b.due("by two digits: the second", b.x.line(10, 3), line);
        }
        b.proofIs(ten + ";7=s009", -1055);
        b.proofIs(ten + ";7=s", -1053);
        b.proofIs(ten + ";7=+0,", -1055);
    }

    private static void linesAhead(Bench b) {
        b.proofIs("5=s0", -6003);
        for (int lines = 1; lines <= 19; lines++) {
            b.fresh();
            String ahead = "5=a0" + ";5=a0".repeat(lines - 1);
            b.proofIs(ahead + ";7=s" + (lines - 1), lines + 1);
            b.due("the one just ahead", b.x.line(lines, 2), lines - 1);
            b.proofIs(ahead + ";7=+0," + (lines - 1), lines + 1);
            b.due("the one just ahead, second", b.x.line(lines, 3), lines - 1);
            b.proofIs(ahead + ";7=s" + lines, -6000 - (5 * lines + 3));
            b.proofIs(ahead + ";7=s" + (lines + 1), -6000 - (5 * lines + 3));
            b.proofIs(ahead + ";7=+0," + lines, -6000 - (5 * lines + 5));
            b.proofIs(ahead + ";7=*" + lines + ",0", -6000 - (5 * lines + 3));
        }
    }

    /** Each byte that cannot stand behind a beginning is FAULT 1 there; so is the end, but for a whole TEXT. */
    private static void canStand(Bench b, String begin, String signs, boolean isWhole) {
        for (char sign = 0; sign < 256; sign++) {
            b.fresh();
            boolean isFault = b.proof(begin + sign) == -1000 - begin.length();
            b.due("whether byte " + (int) sign + " can't stand behind " + begin, isFault, signs.indexOf(sign) < 0);
        }
        if (!begin.isEmpty()) {
            b.fresh();
            b.due("whether " + begin + " can't end", b.proof(begin) == -1000 - begin.length(), !isWhole);
        }
    }

    private static void whatCanStand(Bench b) {
        canStand(b, "", DIGITS, false);
        canStand(b, "5", DIGITS + "=", false);
        canStand(b, "55", "=", false);
        canStand(b, "5=", "asn+*", false);
        canStand(b, "5=a", DIGITS, false);
        canStand(b, "5=a0", ";", true);
        canStand(b, "5=a0;", DIGITS, false);
        for (String rule : new String[] {"s", "n"}) {
            canStand(b, "5=a0;5=" + rule, DIGITS, false);
            canStand(b, "5=a0;5=" + rule + "0", DIGITS + ";", true);
            canStand(b, "5=a0;5=" + rule + "00", ";", true);
        }
        for (String rule : new String[] {"+", "*"}) {
            canStand(b, "5=a0;5=" + rule, DIGITS, false);
            canStand(b, "5=a0;5=" + rule + "0", DIGITS + ",", false);
            canStand(b, "5=a0;5=" + rule + "00", ",", false);
            canStand(b, "5=a0;5=" + rule + "0,", DIGITS, false);
            canStand(b, "5=a0;5=" + rule + "0,0", DIGITS + ";", true);
            canStand(b, "5=a0;5=" + rule + "0,00", ";", true);
        }
        b.fresh();
        b.proofIs("97=s5", -3000);
        b.proofIs("5=s5;97=x", -6003);
        b.proofIs("5=x;97=a0", -1002);
        b.proofIs("5=a0;x;5=s7", -1005);
    }

    private static void claimsTooHigh(Bench b) {
        for (int m = 2; m <= 97; m++) {
            b.fresh();
            b.x.modulus(m);
            b.proofIs((m - 1) + "=a0", 1);
            b.proofIs(m + "=a0", -3000);
            b.proofIs("0=a0;" + (m - 1) + "=s0", 2);
            b.proofIs("0=a0;" + m + "=s0", -3005);
            b.proofIs("99=a0", -3000);
        }
    }

    private static void linesNotAhead(Bench b) {
        b.proofIs("5=n0", -6003);
        b.proofIs("5=s99", -6003);
        b.proofIs("5=*0,0", -6003);
        b.proofIs("5=a0;5=s1", -6008);
        b.proofIs("5=a0;5=s01", -6008);
        b.proofIs("5=a0;5=s99", -6008);
        b.proofIs("5=a0;5=+1,0", -6008);
        b.proofIs("5=a0;5=+1,1", -6008);
        b.proofIs("5=a0;5=+0,1", -6010);
        b.proofIs("5=a0;5=+00,01", -6011);
        b.proofIs("5=a0;5=+00,10", -6011);
        b.proofIs("5=a0;5=a0;5=*1,2", -6015);
    }

    private static void whenDigitsEnd(Bench b) {
        b.x.modulus(5);
        b.proofIs("5", -3000);
        b.proofIs("5x", -3000);
        b.proofIs("4x", -1001);
        b.proofIs("4", -1001);
        b.proofIs("40", -3000);
        b.proofIs("04", -1002);
        b.proofIs("044", -1002);
        b.proofIs("050", -3000);
        b.proofIs("100", -3000);
        b.proofIs("1=a0;1=s1", -6008);
        b.proofIs("1=a0;1=s1x", -6008);
        b.proofIs("1=a0;1=s0x", -1009);
        b.proofIs("1=a0;1=s000", -1010);
        b.proofIs("1=a0;1=s010", -6008);
        b.proofIs("1=a0;1=s10", -6008);
        b.proofIs("1=a0;1=+1", -6008);
        b.proofIs("1=a0;1=+0,1", -6010);
        b.proofIs("1=a0;1=+0,100", -6010);
        b.proofIs("1=a0;1=+0,000", -1012);
    }

    private static void lineTwentyOne(Bench b) {
        String twenty = "5=a0" + ";5=a0".repeat(19);
        b.proofIs(twenty, 20);
        b.proofIs(twenty + ";", -1100);
        for (char digit : DIGITS.toCharArray()) {
            b.proofIs(twenty + ";" + digit, -4100);
        }
        b.proofIs(twenty + ";5=a0", -4100);
        b.proofIs(twenty + ";5x", -4100);
        b.proofIs(twenty + ";x", -1100);
        b.proofIs(twenty + ";=", -1100);
        b.fresh();
        String longer = "05=a0" + ";05=a0".repeat(19);
        b.proofIs(longer + ";05=a0", -4120);
        b.proofIs("x" + longer + ";05=a0", -1000);
        b.proofIs("97=a0" + ";05=a0".repeat(20), -3000);
    }

    private static void newObject(Bench b) {
        b.due("THE MODULUS", b.x.count(4), 97);
        b.due("LINES", b.x.count(0), 0);
        b.due("CLAUSES", b.x.count(1), 0);
        b.due("bytes of the tape", b.x.count(2), 0);
        b.due("X", b.x.count(3), 1);
        b.due("the last CLAIM", b.x.count(5), -1);
        b.due("the last TRUTH", b.x.count(6), -1);
        b.due("line 0", b.x.line(0, 0), -1);
        b.due("nothing was kept", b.x.undo(), false);
        for (int n = 0; n < 10; n++) {
            b.due("AXIOM " + n, b.x.count(10 + n), 0);
            b.due("points(" + n + ")", b.x.points(n), n < 8 ? 0 : -1000);
            b.due("reads(" + n + ", 0)", b.x.reads(n, 0), 0);
        }
        b.proof("5=a0");
        b.due("no LAW: nobody reads", b.x.unread(1023), 1);
    }

    private static void modulusEndsProof(Bench b) {
        b.school(Bench.HONEST);
        b.due("modulus(10), the same", b.x.modulus(10), true);
        b.due("no PROOF", b.x.count(0), 0);
        b.due("no line", b.x.line(0, 0), -1);
        b.due("no last CLAIM", b.x.count(5), -1);
        b.due("nothing WRONG", b.x.wrong(), 0);
        b.school(Bench.SLIPPED);
        b.due("modulus(97)", b.x.modulus(97), true);
        b.due("no PROOF", b.x.count(0), 0);
    }

    private static void modulusAndAxioms(Bench b) {
        int[] numbers = {96, 0, 1, 9, 10, 11, 20, 49, 50, 95};
        for (int a = 0; a < 10; a++) {
            b.x.axiom(a, numbers[a]);
        }
        b.x.modulus(96);
        for (int a = 0; a < 10; a++) {
            b.due("by 96: AXIOM " + a, b.x.count(10 + a), numbers[a] % 96);
        }
        b.x.modulus(10);
        for (int a = 0; a < 10; a++) {
            b.due("by 10: AXIOM " + a, b.x.count(10 + a), numbers[a] % 96 % 10);
        }
        b.x.modulus(97);
        for (int a = 0; a < 10; a++) {
            b.due("by 97 again: AXIOM " + a, b.x.count(10 + a), numbers[a] % 96 % 10);
        }
    }

    private static void noSuchModulus(Bench b) {
        b.school(Bench.HONEST);
        for (int m : new int[] {1, 0, -1, -2, -97, 98, 99, 1 << 16, Integer.MAX_VALUE, Integer.MIN_VALUE}) {
            b.due("modulus(" + m + ")", b.x.modulus(m), false);
        }
        b.due("THE MODULUS stays", b.x.count(4), 10);
        b.claimsAre("stay", 30407010109L);
        b.due("AXIOMS stay", b.x.count(11), 4);
    }

    private static void axiomIsTrue(Bench b) {
        b.school(Bench.HONEST);
        b.due("axiom(0, 3), the same", b.x.axiom(0, 3), true);
        b.due("nothing is WRONG", b.x.wrong(), 0);
        b.due("axiom(0, 9)", b.x.axiom(0, 9), true);
        b.claimsAre("stay", 30407010109L);
        b.due("its LINE is WRONG", b.x.wrong(), 1);
        b.due("others stay", b.x.count(11), 4);
        b.due("axiom(9, 0)", b.x.axiom(9, 0), true);
    }

    private static void noSuchAxiom(Bench b) {
        b.x.modulus(10);
        b.x.axiom(0, 5);
        for (int a : new int[] {-1, 10, 11, Integer.MAX_VALUE, Integer.MIN_VALUE}) {
            b.due("axiom(" + a + ", 1)", b.x.axiom(a, 1), false);
        }
        for (int v : new int[] {-1, 10, 11, 97, Integer.MAX_VALUE, Integer.MIN_VALUE}) {
            b.due("axiom(0, " + v + ")", b.x.axiom(0, v), false);
        }
        b.due("it stays", b.x.count(10), 5);
        b.due("axiom(0, 9)", b.x.axiom(0, 9), true);
    }

    private static void feedOrder(Bench b) {
        b.due("feed", b.x.feed(0x353d6130, 0x3b363d73, 0x303b373d, 0x2b302c31, 0x3b383d6e), 20);
        b.due("feed", b.x.feed(0x323b0000, 0, 0, 0, 0), 40);
        b.due("5=a0;6=s0;7=+0,1;8=n2", b.x.proof(21), 4);
        b.claimsAre("in their order", 5060708);
        b.due("its RULES, too", b.x.line(3, 2), 2);
        b.x.feed(5, 6, 7, 8, -1);
        b.due("four bytes are a number", b.x.check(4), -1);
        b.x.feed(0x05000000, 0, 0, 0, 0);
        b.due("the highest is first", b.x.check(1), 0);
    }

    private static void fullTape(Bench b) {
        for (int n = 20; n <= 200; n += 20) {
            b.due("feed", b.x.feed(0, 0, 0, 0, 0), n);
        }
        b.due("the last that it can take", b.x.feed(1, 2, 3, 4, 5), 220);
        b.due("one more", b.x.feed(6, 7, 8, 9, 10), -1);
        b.due("it stays", b.x.count(2), 220);
        b.due("emptied", b.x.check(0), -1);
        b.due("feed again", b.x.feed(1, 2, 3, 4, 5), 20);
    }

    private static void firstBytesAlone(Bench b) {
        b.feed("5=a0;6=s0;7=s1");
        b.due("proof(4)", b.x.proof(4), 1);
        b.feed("5=a0;6=s0;7=s1");
        b.due("proof(9)", b.x.proof(9), 2);
        b.feed("5=a0;6=s0;7=s1");
        b.due("proof(8)", b.x.proof(8), -1008);
        b.feed("50=a0");
        b.due("proof(1) of 50", b.x.proof(1), -1001);
        b.feed("5=a0;5=s01");
        b.due("proof(9) of s01", b.x.proof(9), 2);
        b.due("has s0", b.x.line(1, 2), 0);
    }

    private static void proofLengths(Bench b) {
        b.feed("5=a0");
        b.due("proof(1)", b.x.proof(1), -1001);
        b.due("empty behind a FAULT", b.x.count(2), 0);
        b.feed("5=a0");
        b.due("proof(4)", b.x.proof(4), 1);
        b.due("empty", b.x.count(2), 0);
        b.due("nothing is left", b.x.proof(4), -1);
        b.feed("5=a0" + "x".repeat(216));
        b.due("proof(200) of 220", b.x.proof(200), -1004);
        b.due("empty of all 220", b.x.count(2), 0);
        b.due("feed begins anew", b.x.feed(0x363d6130, 0, 0, 0, 0), 20);
        b.due("proof(4)", b.x.proof(4), 1);
        b.claimsAre("of the new one", 6);
    }

    private static void inPlace(Bench b) {
        b.proofIs("5=a0;6=s0;7=*0,1", 3);
        b.proofIs("8=a3", 1);
        b.claimsAre("of the second alone", 8);
        b.due("line 1 is none", b.x.line(1, 0), -1);
        b.due("no LINE has it any more", b.x.line(0, 7), 0);
        b.proofIs("1=a0;2=a0;3=n0;4=+2,0", 4);
        b.claimsAre("of the third alone", 1020304);
        int[] has = {2, 0, 1, 0};
        for (int i = 0; i < 4; i++) {
            b.due("how many have line " + i, b.x.line(i, 7), has[i]);
        }
        b.due("stands(2, 1)", b.x.stands(2, 1), 1);
        b.proofIs("1=a0;1=s0;1=s1;1=s2", 4);
        b.proofIs("1=a0;1=a0;1=s0;1=+1,2", 4);
        int[] depths = {0, 0, 1, 2};
        for (int i = 0; i < 4; i++) {
            b.due("DEPTH of line " + i, b.x.line(i, 6), depths[i]);
        }
        shorterThanBefore(b);
    }

    /** Of a PROOF of twenty LINES nothing is left behind the last LINE of one that is shorter. */
    private static void shorterThanBefore(Bench b) {
        b.proofIs("1=a0" + ";2=s0".repeat(19), 20);
        b.due("all of the longer one are WRONG", b.x.wrong(), (1 << 20) - 1);
        b.proofIs("1=a0;2=s0", 2);
        b.due("wrong()", b.x.wrong(), 3);
        b.due("untrue()", b.x.untrue(), 3);
        b.due("stands(0, 0)", b.x.stands(0, 0), 2);
        b.due("unread(1023)", b.x.unread(1023), 3);
        b.due("anew(0, 4, 0)", b.x.anew(0, 4, 0), -1);
        b.due("added(1)", b.x.added(1), 0);
        b.due("order(0, 2)", b.x.order(0, 2), -1);
        b.due("cancel(0)", b.x.cancel(0), 96);
        b.due("honest()", b.x.honest(), 2);
        b.due("keep()", b.x.keep(), 2);
    }

    private static void faultLeavesProof(Bench b) {
        b.school(Bench.SLIPPED);
        String[] texts = {"x", "5=a0;", "10=a0", "5=s0", "1=a0;2=s0;3=s2", "1=a0;" + "5=a0;".repeat(19) + "5=a0"};
        int[] faults = {-1000, -1005, -3000, -6003, -6013, -4100};
        for (int i = 0; i < texts.length; i++) {
            b.proofIs(texts[i], faults[i]);
            b.due("LINES stay", b.x.count(0), 6);
            b.claimsAre("stay", 30408040406L);
            b.due("what they have stays", b.x.line(3, 2), 2);
            b.due("DEPTHS stay", b.x.line(5, 6), 4);
            b.due("what they need stays", b.x.stands(5, 1), 31);
        }
    }

    private static void noSuchLength(Bench b) {
        b.proofIs("1=a0", 1);
        b.feed("2=a0;3=a0;4=a0;5=a0;");
        for (int n : new int[] {0, -1, -4, 21, 22, 200, 201, Integer.MAX_VALUE, Integer.MIN_VALUE}) {
            b.due("proof(" + n + ")", b.x.proof(n), -1);
            b.due("the tape stays", b.x.count(2), 20);
            b.claimsAre("stay", 1);
        }
        b.due("proof(20), all it has", b.x.proof(20), -1020);
        b.feed("6=a0;7=a0;8=a0;9=a0");
        b.due("proof(19)", b.x.proof(19), 4);
        b.due("of an empty tape: proof(1)", b.x.proof(1), -1);
    }
}
