/** Boundary cases of LINES and of SLIPS in the honest PROOF: promises 7 to 13, 18 to 22 and their terms. */
final class LineEdges {
    static void all(Edges e) {
        terms(e);
        slipTerms(e);
        linePromises(e);
        slipPromises(e);
    }

    private static void terms(Edges e) {
        e.of("Terms", "A LINE is WRONG if its CLAIM is not what its RULE makes of the CLAIMS it has",
                LineEdges::wrongByClaims);
        e.of("Terms", "(of AXIOMS their numbers as they are).", LineEdges::wrongByAxioms);
        e.of("Terms", "Its TRUTH is what RULES make from AXIOMS alone.", LineEdges::truths);
        e.of("Terms", "A SLIP at a LINE: it has a told CLAIM; all LINES behind it get what their RULES make"
                + " of CLAIMS as they are then (those ahead stay).", LineEdges::slips);
        e.of("==== 2.", "MENDED by a CLAIM: one LINE gets another CLAIM (all others stay), and none is WRONG then;",
                LineEdges::mendedByClaim);
        e.of("==== 2.", "by a REFERENCE: one LINE has another LINE ahead in one of its places (first or second),"
                + " and none is WRONG then.", LineEdges::mendedByReference);
    }

    private static void slipTerms(Edges e) {
        e.of("==== 2.", "BLIND at a LINE (the honest PROOF): other CLAIMS there by which the last LINE stays its TRUTH.",
                LineEdges::blindClaims);
        e.of("==== 2.", "CANCEL (the honest PROOF): SLIPS at two LINES, the second one behind",
                LineEdges::cancelBehind);
        e.of("==== 2.", "(by another CLAIM than it would honestly have then)", LineEdges::cancelByAnother);
        e.of("==== 2.", ", after which the last LINE is its TRUTH, though it would not be by the first alone:",
                LineEdges::cancelNotAlone);
        e.of("==== 2.", "how many such (LINE, CLAIM, LINE, CLAIM); the first (in that order);", LineEdges::cancelFirst);
        e.of("==== 2.", "of PROOFS of at most 8 LINES.", LineEdges::cancelEightLines);
        e.of("==== 2.", "STANDS: all LINES that have a LINE, or have one that stands on it."
                + " NEEDS: all LINES on which a LINE stands.", LineEdges::standing);
        e.of("==== 2.", "ANEW: the fewest LINES (neither the one nor told ones) that would have to be AXIOMS,"
                + " so that none of told LINES stands on the one any more;", LineEdges::fewestAnew);
        e.of("==== 2.", "any more; of like ones the least bits.", LineEdges::leastAnew);
        e.of("==== 2.", "ADDED: the fewest LINES to be said again at the end (s), so that a HEARER who reads just these"
                + " and the last LINE of THE PROOF, and knows their TRUTHS, sees any one SLIP", LineEdges::fewestAdded);
        e.of("==== 2.", "(in the honest PROOF, by any other CLAIM): some of these LINES is not its TRUTH then;",
                LineEdges::anyOtherClaim);
        e.of("==== 2.", "is not its TRUTH then; of like ones the least bits.", LineEdges::leastAdded);
    }

    private static void linePromises(Edges e) {
        e.of("Promise 7", "Of a LINE, what 0 CLAIM, 1 KIND, 2 the first it has (an AXIOM's number, too),",
                LineEdges::lineFirst);
        e.of("Promise 7", "3 the second (-2: none), 4 TRUTH, 5 what its RULE makes now, 6 DEPTH, 7 how many have it,"
                + " 8 whether it is WRONG (1, 0);", LineEdges::lineRest);
        e.of("Promise 7", "NONE for others.", LineEdges::lineNone);
        e.of("Promise 8", "WRONG LINES, as bits.", LineEdges::wrongBits);
        e.of("Promise 9", "LINES whose CLAIM is not their TRUTH, as bits.", LineEdges::untrueBits);
        e.of("Promise 10", "The last LINE's CLAIM behind a SLIP at a LINE by a CLAIM (nothing is changed by asking);",
                LineEdges::slipAsked);
        e.of("Promise 10", "NONE: no such ones.", LineEdges::noSuchSlip);
        e.of("Promise 11", "Each CLAIM becomes its TRUTH: how many were not.", LineEdges::honest);
        e.of("Promise 12", "MENDED by a CLAIM, what 0 in how many ways, 1 LINE, 2 CLAIM of the first"
                + " (by LINE, then CLAIM; -2: none);", LineEdges::mendedFirst);
        e.of("Promise 12", "NONE: no such what, no PROOF, none is WRONG.", LineEdges::mendedNone);
        e.of("Promise 13", "MENDED by a REFERENCE, what 0 in how many ways, 1 LINE, 2 place (0, 1),"
                + " 3 the LINE it has then, of the first (in that order; -2: none);", LineEdges::referredFirst);
        e.of("Promise 13", "NONE: as above.", LineEdges::referredNone);
    }

    private static void slipPromises(Edges e) {
        e.of("Promise 18", "BLIND at a LINE: how many CLAIMS;", LineEdges::blindMany);
        e.of("Promise 18", "NONE: no such one.", LineEdges::blindNone);
        e.of("Promise 19", "CANCEL, what 0 how many, 1 to 4 LINE, CLAIM, LINE, CLAIM of the first; -2: none (of 1 to 4);",
                LineEdges::cancelAsked);
        e.of("Promise 19", "NONE: no such what, no PROOF, more than 8 LINES.", LineEdges::cancelNone);
        e.of("Promise 20", "What STANDS on a LINE (what 0), what it NEEDS (1), as bits;", LineEdges::standsBits);
        e.of("Promise 20", "NONE: no such ones.", LineEdges::standsNone);
        e.of("Promise 21", "ANEW for LINES (bits, without the one), what 0 how many, 1 which (bits);",
                LineEdges::anewBits);
        e.of("Promise 21", "-2: it can't be (one has it itself);", LineEdges::anewCannotBe);
        e.of("Promise 21", "NONE: no such ones.", LineEdges::anewNone);
        e.of("Promise 22", "ADDED, what 0 how many, 1 which (bits);", LineEdges::addedBits);
        e.of("Promise 22", "NONE: no such what, no PROOF.", LineEdges::addedNone);
    }

    /** A chain: LINE 0 is an AXIOM, each other one says the one just ahead again. */
    private static String chain(int lines) {
        StringBuilder text = new StringBuilder("0=a0");
        for (int i = 1; i < lines; i++) {
            text.append(";0=s").append(i - 1);
        }
        return text.toString();
    }

    private static void wrongByClaims(Bench b) {
        b.school("3=a0;4=a1;8=+0,1;4=*2,0;4=s3;6=n4");
        b.due("one that is not by its RULE", b.x.wrong(), 4);
        b.school("3=a0;4=a1;8=+0,1;1=*2,0;1=s3;9=n4");
        b.due("one that is true, but not by the CLAIMS it has", b.x.wrong(), 4 + 8);
        b.school("3=a0;3=s0;7=n1;6=+0,1;9=*0,1");
        b.due("none", b.x.wrong(), 0);
        b.school("4=a0;4=s0;8=n1;9=+0,1;7=*0,1");
        b.due("each of its own", b.x.wrong(), 1 + 4 + 8 + 16);
        b.school("0=a2;0=n0;0=+0,1;0=*0,1");
        b.due("all 0", b.x.wrong(), 0);
    }

    private static void wrongByAxioms(Bench b) {
        b.school("3=a0;4=a1");
        b.due("as they are", b.x.wrong(), 0);
        b.x.axiom(1, 5);
        b.due("as it is now", b.x.wrong(), 2);
        b.x.axiom(0, 0);
        b.due("both", b.x.wrong(), 3);
        b.x.axiom(0, 3);
        b.x.axiom(1, 4);
        b.due("again", b.x.wrong(), 0);
        b.x.axiom(2, 9);
        b.due("another one does not matter", b.x.wrong(), 0);
    }

    private static void truths(Bench b) {
        b.school("0=a0;0=a1;0=+0,1;0=*2,0;0=s3;0=n4");
        int[] truths = {3, 4, 7, 1, 1, 9};
        for (int i = 0; i < 6; i++) {
            b.due("line(" + i + ", 4)", b.x.line(i, 4), truths[i]);
        }
        b.x.axiom(0, 0);
        int[] others = {0, 4, 4, 0, 0, 0};
        for (int i = 0; i < 6; i++) {
            b.due("by another AXIOM: line(" + i + ", 4)", b.x.line(i, 4), others[i]);
        }
    }

    private static void slips(Bench b) {
        b.school("9=a0;9=a1;9=+0,1;9=+2,0;9=s3");
        b.due("those ahead stay: 9 + 9 = 8, 8 + 9 = 7", b.x.slip(1, 9), 7);
        b.due("at the first: 1 + 4 = 5, 5 + 1 = 6", b.x.slip(0, 1), 6);
        b.due("at LINE 3 nothing ahead matters", b.x.slip(3, 2), 2);
        b.due("at the last", b.x.slip(4, 6), 6);
        b.due("by its own CLAIM, all behind is worked on", b.x.slip(2, 9), 8);
        b.school("3=a0;4=a1;0=s0");
        b.due("an AXIOM behind gets its number", b.x.slip(0, 7), 7);
        b.school("9=a0;9=a1");
        b.due("an AXIOM behind gets its number at the end", b.x.slip(0, 7), 4);
    }

    private static void mendedByClaim(Bench b) {
        b.school("3=a0;4=a1;8=+0,1");
        mendedIs(b, 1, 2, 7);
        b.school("9=a0;4=a1;7=+1,1");
        mendedIs(b, 0, -2, -2);
        b.school("9=a0;4=a1;7=+0,1");
        mendedIs(b, 1, 0, 3);
        b.school("3=a0;4=a1;8=+0,1;8=s2");
        mendedIs(b, 0, -2, -2);
        b.school("3=a0;4=a1;8=+0,1;7=s2");
        mendedIs(b, 1, 2, 7);
        b.school("3=a0;4=a1;8=+0,1;7=s2;7=s2;1=*0,3");
        mendedIs(b, 1, 2, 7);
        b.x.modulus(2);
        b.x.axiom(0, 1);
        b.proof("0=a0");
        mendedIs(b, 1, 0, 1);
    }

    private static void mendedIs(Bench b, int... due) {
        for (int what = 0; what < 3; what++) {
            b.due(b.claims() + ": mended(" + what + ")", b.x.mended(what), due[what]);
        }
    }

    private static void mendedByReference(Bench b) {
        b.school("3=a0;4=a1;4=s0");
        referredIs(b, 1, 2, 0, 1);
        b.school("3=a0;4=a1;6=n0");
        referredIs(b, 1, 2, 0, 1);
        b.school("3=a0;4=a1;8=+0,1");
        referredIs(b, 1, 2, 0, 1);
        b.school("3=a0;4=a1;6=+0,1");
        referredIs(b, 1, 2, 1, 0);
        b.school("3=a0;4=a1;9=*0,1;9=s2");
        referredIs(b, 1, 2, 1, 0);
        b.school("4=a0;4=s0");
        referredIs(b, 0, -2, -2, -2);
        b.school("3=a0;4=s0;4=a1");
        referredIs(b, 0, -2, -2, -2);
        b.school("3=a0;4=a1;4=s0;5=s2");
        referredIs(b, 0, -2, -2, -2);
        // An AXIOM is no LINE ahead, though another one would be right.
        b.school("3=a0;4=a1;4=a0");
        referredIs(b, 0, -2, -2, -2);
    }

    private static void referredIs(Bench b, int... due) {
        for (int what = 0; what < 4; what++) {
            b.due(b.claims() + ": referred(" + what + ")", b.x.referred(what), due[what]);
        }
    }

    private static void blindClaims(Bench b) {
        b.school("0=a0;0=a1;0=s1");
        b.due("the last does not stand on it: all 9 others", b.x.blind(0), 9);
        b.due("the last has it", b.x.blind(1), 0);
        b.due("the last itself", b.x.blind(2), 0);
        b.school("0=a5;0=a1;0=*0,1;0=+2,2");
        b.due("by 0 all others are blind", b.x.blind(1), 9);
        b.due("0 itself: 4 c + 4 c is 0 for 5 alone", b.x.blind(0), 1);
        b.due("c + c is 0 for 5 alone", b.x.blind(2), 1);
        b.x.modulus(2);
        b.proof("0=a0;0=*0,0;0=+1,1");
        b.due("by 2: c + c is 0", b.x.blind(1), 1);
        b.proof("0=a0;0=s0");
        b.due("by 2: the other one shows", b.x.blind(0), 0);
        b.fresh();
        b.x.axiom(0, 5);
        b.proof("0=a0;0=*0,0");
        b.due("by 97: the square of 5 is that of 92", b.x.blind(0), 1);
    }

    private static void cancelIs(Bench b, int... due) {
        for (int what = 0; what < 5; what++) {
            b.due("cancel(" + what + ")", b.x.cancel(what), due[what]);
        }
    }

    private static void cancelBehind(Bench b) {
        b.x.modulus(2);
        b.x.axiom(0, 1);
        b.proof("0=a0");
        cancelIs(b, 0, -2, -2, -2, -2);
        b.proof("0=a0;0=s0");
        cancelIs(b, 1, 0, 0, 1, 1);
        b.proof("0=a0;0=s0;0=s0");
        // LINE 1 does not matter for the last one: only 0, then the last.
        cancelIs(b, 1, 0, 0, 2, 1);
        b.proof("0=a0;0=a0;0=+0,1");
        // 0 then 1, 0 then 2, 1 then 2; never 1 ahead of 0.
        cancelIs(b, 3, 0, 0, 1, 0);
    }

    private static void cancelByAnother(Bench b) {
        b.x.modulus(3);
        b.x.axiom(0, 1);
        b.proof("0=a0;0=*0,0");
        // 1 by 2: the square stays 1, so that does not show; by 0: the last must be 1, not its honest 0.
        cancelIs(b, 1, 0, 0, 1, 1);
        b.proof("0=a0;0=s0;0=*0,1;0=s1");
        // Back to 1 at LINE 1 (by 0 and by 2 at LINE 0), at the last one behind 0, and behind LINE 1.
        cancelIs(b, 6, 0, 0, 1, 1);
    }

    private static void cancelNotAlone(Bench b) {
        b.x.modulus(3);
        b.proof("0=a0;0=a0;0=s0");
        // LINE 1 never shows; LINE 0 by 1 and 2 is mended at the last one.
        cancelIs(b, 2, 0, 1, 2, 0);
        b.proof("0=a0;0=a0");
        cancelIs(b, 0, -2, -2, -2, -2);
        b.x.axiom(0, 1);
        b.proof("0=a0;0=a1;0=*0,1;0=s2");
        // All of LINE 0 is lost by 0; LINE 1 shows by 1 and 2, and is mended at 2 and at 3; LINE 2 at 3.
        cancelIs(b, 6, 1, 1, 2, 0);
    }

    private static void cancelFirst(Bench b) {
        b.x.modulus(5);
        b.x.axiom(0, 2);
        b.x.axiom(1, 3);
        b.proof("0=a0;0=a1;0=+0,1");
        // 0 by c: 1 by 5 - c, or the last by 0; 1 by c: the last by 0. Four other CLAIMS each.
        cancelIs(b, 12, 0, 0, 1, 0);
        b.x.axiom(0, 0);
        b.proof("0=a0;0=a1;0=+0,1");
        // TRUTHS 0, 3, 3: 0 by 1, then 1 by 2.
        cancelIs(b, 12, 0, 1, 1, 2);
        b.proof("4=a0;4=a1;4=+0,1");
        cancelIs(b, 12, 0, 1, 1, 2);
        b.claimsAre("do not matter and stay", 40404);
    }

    private static void cancelEightLines(Bench b) {
        b.x.modulus(2);
        b.proof(chain(8));
        // Each pair of the 28, by the one other CLAIM.
        cancelIs(b, 28, 0, 1, 1, 0);
        b.proof(chain(9));
        cancelIs(b, -1, -1, -1, -1, -1);
        b.proof(chain(20));
        cancelIs(b, -1, -1, -1, -1, -1);
        b.proof(chain(7));
        cancelIs(b, 21, 0, 1, 1, 0);
        b.fresh();
        b.proof(chain(8));
        // By 97: the first by 96 others, the second back to the TRUTH alone.
        cancelIs(b, 28 * 96, 0, 1, 1, 0);
    }

    private static void standing(Bench b) {
        b.proof("0=a1;0=a0;0=s0;0=n2;0=+1,3;0=*4,4;0=a3");
        int[] on = {4 + 8 + 16 + 32, 16 + 32, 8 + 16 + 32, 16 + 32, 32, 0, 0};
        int[] needs = {0, 0, 1, 1 + 4, 1 + 2 + 4 + 8, 1 + 2 + 4 + 8 + 16, 0};
        for (int i = 0; i < 7; i++) {
            b.due("what stands on " + i, b.x.stands(i, 0), on[i]);
            b.due("what " + i + " needs", b.x.stands(i, 1), needs[i]);
        }
        b.proof(chain(20));
        b.due("all but the first", b.x.stands(0, 0), (1 << 20) - 2);
        b.due("all but the last", b.x.stands(19, 1), (1 << 19) - 1);
        b.due("the last alone", b.x.stands(18, 0), 1 << 19);
        b.due("the first needs none", b.x.stands(0, 1), 0);
        b.due("on the last stands none", b.x.stands(19, 0), 0);
    }

    private static void anewIs(Bench b, int i, int lines, int due) {
        b.due("anew(" + i + ", " + lines + ", 1)", b.x.anew(i, lines, 1), due);
        b.due("anew(" + i + ", " + lines + ", 0)", b.x.anew(i, lines, 0), due < 0 ? due : Integer.bitCount(due));
    }

    private static void fewestAnew(Bench b) {
        b.proof("0=a0;0=s0;0=s0;0=s0;0=+1,2;0=+3,4;0=s5;0=s6");
        anewIs(b, 0, 128, 32);
        anewIs(b, 0, 64, 32);
        anewIs(b, 0, 32, 8 + 16);
        anewIs(b, 0, 16, 2 + 4);
        // 4 is told: it may not be one of them; 1, 2 stop it, 3 stops the rest.
        anewIs(b, 0, 16 + 32, 2 + 4 + 8);
        anewIs(b, 0, 16 + 64, 2 + 4 + 8);
        anewIs(b, 0, 64 + 128, 32);
        // The one itself may not be one of them.
        anewIs(b, 1, 128, 16);
        anewIs(b, 3, 64, 32);
        anewIs(b, 5, 128, 64);
        b.proof("0=a0;0=s0;0=s1;0=*1,2;0=a1;0=s4");
        anewIs(b, 0, 8, 2);
        anewIs(b, 0, 32, 0);
        anewIs(b, 0, 8 + 32, 2);
        anewIs(b, 4, 8, 0);
    }

    private static void leastAnew(Bench b) {
        b.proof(chain(20));
        for (int told = 2; told < 20; told++) {
            anewIs(b, 0, 1 << told, 2);
        }
        anewIs(b, 7, 1 << 19, 1 << 8);
        // Two ways of their own, each by two LINES.
        b.proof("0=a0;0=s0;0=s0;0=s1;0=s2;0=+3,4");
        anewIs(b, 0, 32, 2 + 4);
        // The first way can be stopped at 1 or 4, the second at 2 alone, as 2 leads to 3 and 5.
        b.proof("0=a0;0=s0;0=s0;0=s2;0=s1;0=s2;0=+3,4;0=+5,6");
        anewIs(b, 0, 128, 2 + 4);
        // 1 and 2 meet in 3: one is fewer than two, though its bits are more.
        b.proof("0=a0;0=s0;0=s0;0=+1,2;0=s3");
        anewIs(b, 0, 16, 8);
    }

    private static void addedIs(Bench b, int due) {
        b.due("added(1)", b.x.added(1), due);
        b.due("added(0)", b.x.added(0), Integer.bitCount(due));
    }

    private static void fewestAdded(Bench b) {
        b.proof("0=a0");
        addedIs(b, 0);
        b.proof(chain(20));
        addedIs(b, 0);
        b.proof("0=a0;0=a1");
        addedIs(b, 1);
        b.proof("0=a0" + ";0=a0".repeat(19));
        addedIs(b, (1 << 19) - 1);
        // LINE 2 shows 0, 1 and itself; 3 has to be said for itself.
        b.proof("0=a0;0=s0;0=s1;0=a1;0=a2");
        addedIs(b, 4 + 8);
        // A LINE that shows two others: one instead of two.
        b.proof("0=a0;0=a1;0=+0,1;0=a2");
        addedIs(b, 4);
        // By 6 the last one is three times the sum of 0 and 1, so that even SLIPS there do not show; 3 shows
        // both, which is fewer than 0 and 1, though its bits are more. 2 is lost by 0: it is said for itself.
        b.x.modulus(6);
        b.x.axiom(2, 2);
        b.proof("0=a0;0=a0;2=a2;0=+0,1;0=*2,0;0=*2,1;0=+3,4;0=+6,5");
        addedIs(b, 4 + 8);
    }

    private static void anyOtherClaim(Bench b) {
        b.x.modulus(4);
        b.x.axiom(0, 2);
        // 0 by 0 has the square 0, as 2 has: that does not show at the last one.
        b.proof("0=a0;0=*0,0");
        addedIs(b, 1);
        b.proof("3=a0;1=*0,0");
        b.due("CLAIMS do not matter", b.x.added(1), 1);
        b.claimsAre("stay", 301);
        b.x.modulus(97);
        b.x.axiom(0, 0);
        b.proof("0=a0;0=*0,0");
        // By a prime, only 0 has the square 0: any other CLAIM shows.
        addedIs(b, 0);
        b.x.axiom(0, 1);
        b.proof("0=a0;0=*0,0");
        // 96 has the square 1, too: one of 96 CLAIMS that does not show.
        addedIs(b, 1);
    }

    private static void leastAdded(Bench b) {
        b.x.modulus(4);
        b.x.axiom(0, 2);
        // A SLIP at 0 by 0 is seen at 0, 1 and 2 alike, and LINES 1, 2 have others to show at the last one.
        b.proof("0=a0;0=s0;0=s1;0=*2,2");
        // At 2 by 0 only 2 shows it; at 1 only 1, 2; so 2 shows all.
        addedIs(b, 4);
        b.proof("0=a0;0=s0;0=*1,1;0=a1");
        // LINE 2 must be said for itself; a SLIP at 1 by 0 shows at 1 alone; at 0 by 0 at 0, 1.
        addedIs(b, 2 + 4);
        b.x.modulus(6);
        b.x.axiom(0, 0);
        b.x.axiom(1, 2);
        b.proof("0=a0;2=a1;0=*0,1;0=s2;0=s3");
        // 0 by 3 shows at 0 alone, and 1 is lost by 0.
        addedIs(b, 1 + 2);
        b.proof("0=a0;2=a1;0=*0,1;1=a2;0=s0;0=+2,4");
        // 0 by 2: 4 + 2 is 0: seen at 0, 2, 4 alike: the lowest of them. 1 and 3 for themselves.
        addedIs(b, 1 + 2 + 8);
    }

    private static void lineFirst(Bench b) {
        b.school("3=a0;4=a9;8=+1,0;4=*02,01;4=s3;6=n4");
        int[][] due = {{3, 0, 0}, {4, 0, 9}, {8, 3, 1}, {4, 4, 2}, {4, 1, 3}, {6, 2, 4}};
        for (int i = 0; i < due.length; i++) {
            for (int what = 0; what < 3; what++) {
                b.due("line(" + i + ", " + what + ")", b.x.line(i, what), due[i][what]);
            }
        }
    }

    private static void lineRest(Bench b) {
        b.school("3=a0;4=a9;8=+1,0;4=*02,01;4=s3;6=n4");
        int[][] due = {{-2, 3, 3, 0, 1, 0}, {-2, 0, 0, 0, 2, 1}, {0, 3, 7, 1, 1, 1}, {1, 0, 2, 2, 1, 1},
            {-2, 0, 4, 3, 1, 0}, {-2, 0, 6, 4, 0, 0}};
        for (int i = 0; i < due.length; i++) {
            for (int what = 3; what < 9; what++) {
                b.due("line(" + i + ", " + what + ")", b.x.line(i, what), due[i][what - 3]);
            }
        }
        b.x.axiom(9, 4);
        b.due("what its RULE makes now", b.x.line(1, 5), 4);
        b.due("it is WRONG no more", b.x.line(1, 8), 0);
    }

    private static void lineNone(Bench b) {
        b.due("without a PROOF", b.x.line(0, 0), -1);
        b.proof(chain(20));
        for (int what = 0; what <= 8; what++) {
            for (int i : new int[] {-1, 20, 21, Integer.MAX_VALUE, Integer.MIN_VALUE}) {
                b.due("line(" + i + ", " + what + ")", b.x.line(i, what), -1);
            }
            b.due("line(19, " + what + ") is one", b.x.line(19, what) == -1, false);
        }
        for (int what : new int[] {-1, 9, 10, Integer.MAX_VALUE, Integer.MIN_VALUE}) {
            b.due("line(0, " + what + ")", b.x.line(0, what), -1);
        }
    }

    private static void wrongBits(Bench b) {
        b.due("without a PROOF", b.x.wrong(), 0);
        b.proof("1=a0" + ";1=a0".repeat(19));
        b.due("all twenty", b.x.wrong(), (1 << 20) - 1);
        b.x.axiom(0, 1);
        b.due("none", b.x.wrong(), 0);
        b.proof("1=a0" + ";1=a0".repeat(18) + ";2=a0");
        b.due("the last alone", b.x.wrong(), 1 << 19);
        b.proof("2=a0" + ";1=a0".repeat(19));
        b.due("the first alone", b.x.wrong(), 1);
    }

    private static void untrueBits(Bench b) {
        b.due("without a PROOF", b.x.untrue(), 0);
        b.proof("1=a0" + ";1=s0".repeat(19));
        b.due("all twenty", b.x.untrue(), (1 << 20) - 1);
        b.due("though one alone is WRONG", b.x.wrong(), 1);
        b.x.axiom(0, 1);
        b.due("none", b.x.untrue(), 0);
        b.proof("1=a0" + ";1=s0".repeat(18) + ";2=s0");
        b.due("the last alone", b.x.untrue(), 1 << 19);
        b.proof("2=a0;1=s0");
        b.due("the first alone", b.x.untrue(), 1);
        b.due("though both are WRONG", b.x.wrong(), 3);
    }

    private static void slipAsked(Bench b) {
        b.school(Bench.HONEST);
        b.due("by 0", b.x.slip(2, 0), 0);
        b.due("by the highest CLAIM", b.x.slip(2, 9), 3);
        b.due("by its own", b.x.slip(2, 7), 9);
        b.due("at the first", b.x.slip(0, 0), 0);
        b.due("at the last", b.x.slip(5, 2), 2);
        b.claimsAre("stay", 30407010109L);
        b.due("nothing is WRONG", b.x.wrong(), 0);
        b.proof("5=a0");
        b.due("of one LINE", b.x.slip(0, 8), 8);
    }

    private static void noSuchSlip(Bench b) {
        b.due("without a PROOF", b.x.slip(0, 0), -1);
        b.school(Bench.HONEST);
        for (int i : new int[] {-1, 6, 7, 20, Integer.MAX_VALUE, Integer.MIN_VALUE}) {
            b.due("slip(" + i + ", 0)", b.x.slip(i, 0), -1);
        }
        for (int v : new int[] {-1, 10, 11, 97, Integer.MAX_VALUE, Integer.MIN_VALUE}) {
            b.due("slip(0, " + v + ")", b.x.slip(0, v), -1);
        }
        b.claimsAre("stay", 30407010109L);
    }

    private static void honest(Bench b) {
        b.due("without a PROOF", b.x.honest(), 0);
        b.school(Bench.HONEST);
        b.due("of an honest one", b.x.honest(), 0);
        b.claimsAre("stay", 30407010109L);
        b.school(Bench.SLIPPED);
        b.due("how many were not", b.x.honest(), 4);
        b.claimsAre("are TRUTHS", 30407010109L);
        b.due("again", b.x.honest(), 0);
        b.proof("1=a9" + ";1=s0".repeat(19));
        b.due("all twenty", b.x.honest(), 20);
        b.due("none is untrue", b.x.untrue(), 0);
        b.school("3=a0;7=a1;7=+0,1");
        b.due("one alone, though two are WRONG", b.x.honest(), 1);
    }

    private static void mendedFirst(Bench b) {
        b.school("3=a0;4=a1;8=+0,1");
        mendedIs(b, 1, 2, 7);
        b.school(Bench.SLIPPED);
        mendedIs(b, 0, -2, -2);
        b.school("5=a0;3=s0;3=s1");
        mendedIs(b, 1, 0, 3);
        b.claimsAre("stay", 50303);
        b.school("0=a0;3=s0;3=s0;3=s0");
        mendedIs(b, 1, 0, 3);
        b.school("3=a0;9=s0;0=s0");
        mendedIs(b, 0, -2, -2);
        b.school("3=a0;3=s0;9=s0");
        mendedIs(b, 1, 2, 3);
        b.school("5=a9");
        mendedIs(b, 1, 0, 0);
    }

    private static void mendedNone(Bench b) {
        for (int what = -1; what <= 3; what++) {
            b.due("no PROOF: mended(" + what + ")", b.x.mended(what), -1);
        }
        b.school(Bench.HONEST);
        for (int what = -1; what <= 3; what++) {
            b.due("none is WRONG: mended(" + what + ")", b.x.mended(what), -1);
        }
        b.school("3=a0;9=s0");
        for (int what : new int[] {-1, 3, 4, Integer.MAX_VALUE, Integer.MIN_VALUE}) {
            b.due("mended(" + what + ")", b.x.mended(what), -1);
        }
    }

    private static void referredFirst(Bench b) {
        b.school("3=a0;4=a1;4=a1;4=s0");
        referredIs(b, 2, 3, 0, 1);
        b.school("3=a0;4=a1;3=a0;6=+1,0");
        referredIs(b, 2, 3, 0, 0);
        b.school("3=a0;4=a1;3=a0;6=+0,1");
        referredIs(b, 2, 3, 1, 0);
        // 3 + 4 is 7; 5 + 4 and 3 + 6 are 9: the first place is first.
        b.x.axiom(2, 5);
        b.x.axiom(3, 6);
        b.school("3=a0;6=a3;4=a1;5=a2;9=+0,2");
        referredIs(b, 2, 4, 0, 3);
        b.claimsAre("stay", 306040509);
        b.due("what it has stays", b.x.line(4, 2), 0);
        b.school("3=a0;4=s0");
        referredIs(b, 0, -2, -2, -2);
    }

    private static void referredNone(Bench b) {
        for (int what = -1; what <= 4; what++) {
            b.due("no PROOF: referred(" + what + ")", b.x.referred(what), -1);
        }
        b.school(Bench.HONEST);
        for (int what = -1; what <= 4; what++) {
            b.due("none is WRONG: referred(" + what + ")", b.x.referred(what), -1);
        }
        b.school("3=a0;4=a1;4=s0");
        for (int what : new int[] {-1, 4, 5, Integer.MAX_VALUE, Integer.MIN_VALUE}) {
            b.due("referred(" + what + ")", b.x.referred(what), -1);
        }
    }

    private static void blindMany(Bench b) {
        b.proof("0=a0;0=a0");
        b.due("all others by 97", b.x.blind(0), 96);
        b.due("none", b.x.blind(1), 0);
        b.x.modulus(2);
        b.proof("0=a0;0=a0");
        b.due("all others by 2", b.x.blind(0), 1);
        b.proof("0=a0");
        b.due("of one LINE", b.x.blind(0), 0);
        b.proof("1=a0;1=a0");
        b.due("CLAIMS do not matter", b.x.blind(0), 1);
        b.claimsAre("stay", 101);
    }

    private static void blindNone(Bench b) {
        b.due("without a PROOF", b.x.blind(0), -1);
        b.school(Bench.HONEST);
        for (int i : new int[] {-1, 6, 7, Integer.MAX_VALUE, Integer.MIN_VALUE}) {
            b.due("blind(" + i + ")", b.x.blind(i), -1);
        }
        b.due("blind(5)", b.x.blind(5), 0);
    }

    private static void cancelAsked(Bench b) {
        b.x.modulus(10);
        b.x.axiom(0, 3);
        b.proof("0=a0;0=n0");
        // 3 by 0: the last one honestly 0, by 7 its TRUTH. Nine other CLAIMS.
        cancelIs(b, 9, 0, 0, 1, 7);
        b.proof("0=a0;0=a0");
        cancelIs(b, 0, -2, -2, -2, -2);
    }

    private static void cancelNone(Bench b) {
        for (int what = -1; what <= 5; what++) {
            b.due("no PROOF: cancel(" + what + ")", b.x.cancel(what), -1);
        }
        b.x.modulus(2);
        b.proof(chain(9));
        for (int what = -1; what <= 5; what++) {
            b.due("9 LINES: cancel(" + what + ")", b.x.cancel(what), -1);
        }
        b.proof(chain(2));
        for (int what : new int[] {-1, 5, 6, Integer.MAX_VALUE, Integer.MIN_VALUE}) {
            b.due("cancel(" + what + ")", b.x.cancel(what), -1);
        }
    }

    private static void standsBits(Bench b) {
        b.proof("0=a0");
        b.due("of one LINE", b.x.stands(0, 0), 0);
        b.due("of one LINE", b.x.stands(0, 1), 0);
        b.proof("0=a0;0=a1;0=+1,0");
        b.due("stands(0, 0)", b.x.stands(0, 0), 4);
        b.due("stands(1, 0)", b.x.stands(1, 0), 4);
        b.due("stands(2, 0)", b.x.stands(2, 0), 0);
        b.due("stands(2, 1)", b.x.stands(2, 1), 3);
        b.due("stands(1, 1)", b.x.stands(1, 1), 0);
    }

    private static void standsNone(Bench b) {
        b.due("no PROOF: stands(0, 0)", b.x.stands(0, 0), -1);
        b.due("no PROOF: stands(0, 1)", b.x.stands(0, 1), -1);
        b.school(Bench.HONEST);
        for (int i : new int[] {-1, 6, 7, Integer.MAX_VALUE, Integer.MIN_VALUE}) {
            b.due("stands(" + i + ", 0)", b.x.stands(i, 0), -1);
            b.due("stands(" + i + ", 1)", b.x.stands(i, 1), -1);
        }
        for (int what : new int[] {-1, 2, 3, Integer.MAX_VALUE, Integer.MIN_VALUE}) {
            b.due("stands(0, " + what + ")", b.x.stands(0, what), -1);
        }
    }

    private static void anewBits(Bench b) {
        b.proof(chain(20));
        anewIs(b, 0, 0, 0);
        anewIs(b, 19, 0, 0);
        anewIs(b, 19, (1 << 19) - 1, 0);
        anewIs(b, 0, 1 << 19, 2);
        anewIs(b, 17, 1 << 19, 1 << 18);
        anewIs(b, 0, (1 << 20) - 4, 2);
        anewIs(b, 10, (1 << 20) - 1 - (1 << 10) - (1 << 11), 1 << 11);
        b.due("without the one", b.x.anew(10, (1 << 20) - 1 - (1 << 11), 0), -1);
        b.proof("0=a0");
        anewIs(b, 0, 0, 0);
        b.due("of one LINE: the one itself", b.x.anew(0, 1, 0), -1);
    }

    private static void anewCannotBe(Bench b) {
        b.proof("0=a0;0=s0;0=*1,0;0=*0,0;0=n2;0=a0");
        anewIs(b, 0, 2, -2);
        anewIs(b, 0, 4, -2);
        anewIs(b, 0, 8, -2);
        anewIs(b, 0, 16, 4);
        anewIs(b, 0, 16 + 8, -2);
        anewIs(b, 1, 4, -2);
        anewIs(b, 2, 16, -2);
        anewIs(b, 1, 16, 4);
        // The AXIOM's number 0 is not LINE 0.
        anewIs(b, 0, 32, 0);
        anewIs(b, 0, 63 - 1, -2);
    }

    private static void anewNone(Bench b) {
        b.due("no PROOF", b.x.anew(0, 0, 0), -1);
        b.proof(chain(6));
        for (int i : new int[] {-1, 6, 7, Integer.MAX_VALUE, Integer.MIN_VALUE}) {
            b.due("anew(" + i + ", 0, 0)", b.x.anew(i, 0, 0), -1);
        }
        for (int lines : new int[] {1, 64, 64 + 32, -1, -2, 1 << 20, Integer.MAX_VALUE, Integer.MIN_VALUE}) {
            b.due("anew(0, " + lines + ", 0)", b.x.anew(0, lines, 0), -1);
        }
        for (int what : new int[] {-1, 2, 3, Integer.MAX_VALUE, Integer.MIN_VALUE}) {
            b.due("anew(0, 32, " + what + ")", b.x.anew(0, 32, what), -1);
            b.due("anew(0, 2, " + what + ")", b.x.anew(0, 2, what), -1);
        }
    }

    private static void addedBits(Bench b) {
        b.proof("0=a0;0=a1");
        b.due("added(0)", b.x.added(0), 1);
        b.due("added(1)", b.x.added(1), 1);
        b.proof("0=a0;0=a1;0=a2");
        b.due("added(0)", b.x.added(0), 2);
        b.due("added(1)", b.x.added(1), 3);
        b.proof("0=a0;0=s0");
        b.due("added(0) of none", b.x.added(0), 0);
        b.due("added(1) of none", b.x.added(1), 0);
        b.proof("0=a0" + ";0=a0".repeat(19));
        for (int time = 0; time < 200; time++) {
            b.due("asked often", b.x.added(1), (1 << 19) - 1);
        }
    }

    private static void addedNone(Bench b) {
        for (int what = -1; what <= 2; what++) {
            b.due("no PROOF: added(" + what + ")", b.x.added(what), -1);
        }
        b.proof("0=a0;0=a1");
        for (int what : new int[] {-1, 2, 3, Integer.MAX_VALUE, Integer.MIN_VALUE}) {
            b.due("added(" + what + ")", b.x.added(what), -1);
        }
    }
}
