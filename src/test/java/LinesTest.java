/** Promises 7 to 13 and 18 to 22: LINES, what stands on what, and SLIPS in the honest PROOF. */
public final class LinesTest {
    public static void main(String[] args) {
        Bench bench = new Bench();
        bench.test("7 line", LinesTest::line);
        bench.test("8 wrong, 9 untrue", LinesTest::wrongAndUntrue);
        bench.test("10 slip", LinesTest::slip);
        bench.test("11 honest", LinesTest::honest);
        bench.test("12 mended", LinesTest::mended);
        bench.test("13 referred", LinesTest::referred);
        bench.test("18 blind", LinesTest::blind);
        bench.test("19 cancel", LinesTest::cancel);
        bench.test("20 stands", LinesTest::stands);
        bench.test("21 anew", LinesTest::anew);
        bench.test("21 anew: the least bits", LinesTest::anewLeast);
        bench.test("22 added", LinesTest::added);
        bench.test("22 added: one for two", LinesTest::addedShared);
        bench.end();
    }

    private static void line(Bench b) {
        b.due("line(0, 0) without a proof", b.x.line(0, 0), -1);
        b.school(Bench.SLIPPED);
        int[][] due = {{3, 0, 0, -2, 3, 3, 0, 2, 0}, {4, 0, 1, -2, 4, 4, 0, 1, 0}, {8, 3, 0, 1, 7, 7, 1, 1, 1},
            {4, 4, 2, 0, 1, 4, 2, 1, 0}, {4, 1, 3, -2, 1, 4, 3, 1, 0}, {6, 2, 4, -2, 9, 6, 4, 0, 0}};
        for (int i = 0; i < 6; i++) {
            for (int what = 0; what < 9; what++) {
                b.due("line(" + i + ", " + what + ")", b.x.line(i, what), due[i][what]);
            }
            b.due("line(" + i + ", 9)", b.x.line(i, 9), -1);
            b.due("line(" + i + ", -1)", b.x.line(i, -1), -1);
        }
        b.due("line(6, 0)", b.x.line(6, 0), -1);
        b.due("line(-1, 0)", b.x.line(-1, 0), -1);
        b.school("3=a0;9=*0,0;0=n0");
        b.due("a line that has it twice is one line", b.x.line(0, 7), 2);
        b.school("0=a5;0=n0");
        b.due("the negative of 0", b.x.line(1, 5), 0);
    }

    private static void wrongAndUntrue(Bench b) {
        b.due("wrong() without a proof", b.x.wrong(), 0);
        b.due("untrue() without a proof", b.x.untrue(), 0);
        b.school(Bench.HONEST);
        b.due("wrong()", b.x.wrong(), 0);
        b.due("untrue()", b.x.untrue(), 0);
        b.school(Bench.SLIPPED);
        b.due("wrong()", b.x.wrong(), 4);
        b.due("untrue()", b.x.untrue(), 60);
        b.school("2=a0;3=a0;4=s1;4=s2;3=s1");
        b.due("two wrong ones", b.x.wrong(), 5);
        b.due("untrue()", b.x.untrue(), 13);
        b.x.axiom(0, 2);
        b.due("wrong() by another axiom", b.x.wrong(), 6);
        b.due("untrue() by another axiom", b.x.untrue(), 30);
    }

    private static void slip(Bench b) {
        b.due("slip(0, 0) without a proof", b.x.slip(0, 0), -1);
        b.school(Bench.HONEST);
        b.due("slip(2, 8)", b.x.slip(2, 8), 6);
        b.due("slip(5, 0)", b.x.slip(5, 0), 0);
        b.due("slip(0, 5)", b.x.slip(0, 5), 5);
        b.due("slip(1, 4)", b.x.slip(1, 4), 9);
        b.due("slip(2, 10)", b.x.slip(2, 10), -1);
        b.due("slip(2, -1)", b.x.slip(2, -1), -1);
        b.due("slip(6, 0)", b.x.slip(6, 0), -1);
        b.due("slip(-1, 0)", b.x.slip(-1, 0), -1);
        b.due("nothing is changed", b.claims(), 30407010109L);
        b.school("3=a0;5=a1;0=+0,1");
        b.due("a claim ahead stays as it is", b.x.slip(1, 5), 8);
        b.due("a wrong claim behind is worked on", b.x.slip(0, 1), 5);
    }

    private static void honest(Bench b) {
        b.due("honest() without a proof", b.x.honest(), 0);
        b.school(Bench.SLIPPED);
        b.due("honest()", b.x.honest(), 4);
        b.due("claims", b.claims(), 30407010109L);
        b.due("honest() again", b.x.honest(), 0);
    }

    private static void mended(Bench b) {
        b.due("mended(0) without a proof", b.x.mended(0), -1);
        b.school(Bench.HONEST);
        b.due("mended(0) where none is wrong", b.x.mended(0), -1);
        b.school(Bench.SLIPPED);
        b.due("mended(0)", b.x.mended(0), 0);
        b.due("mended(1)", b.x.mended(1), -2);
        b.due("mended(2)", b.x.mended(2), -2);
        b.school("3=a0;4=a1;8=+0,1;1=*2,0;1=s3;9=n4");
        b.due("mended(0) of 8", b.x.mended(0), 1);
        b.due("mended(1) of 8", b.x.mended(1), 2);
        b.due("mended(2) of 8", b.x.mended(2), 7);
        b.due("mended(3)", b.x.mended(3), -1);
        b.due("mended(-1)", b.x.mended(-1), -1);
        b.due("nothing is changed", b.claims(), 30408010109L);
        b.school("3=a0;2=s0;2=s1");
        b.due("all behind it would have to change", b.x.mended(0), 0);
        b.school("2=a0;3=s0;3=s1");
        b.due("two are righted by one", b.x.mended(0), 1);
        b.due("that is line 0", b.x.mended(1), 0);
        b.due("which is 3", b.x.mended(2), 3);
        b.x.axiom(2, 5);
        b.school("4=a0;5=a2;5=*1,0;5=s2");
        b.due("a cause with a second wrong one behind", b.x.mended(0), 1);
        b.due("the first", b.x.mended(1), 0);
        b.school("4=a0;4=a0;8=+0,1");
        b.due("two wrong ones with no cause in common", b.x.mended(0), 0);
    }

    private static void referred(Bench b) {
        b.due("referred(0) without a proof", b.x.referred(0), -1);
        b.school(Bench.HONEST);
        b.due("referred(0) where none is wrong", b.x.referred(0), -1);
        b.school(Bench.SLIPPED);
        int[] due = {1, 2, 0, 1};
        for (int what = 0; what < 4; what++) {
            b.due("referred(" + what + ")", b.x.referred(what), due[what]);
        }
        b.due("referred(4)", b.x.referred(4), -1);
        b.due("referred(-1)", b.x.referred(-1), -1);
        b.due("nothing is changed", b.x.line(2, 2), 0);
        b.school("3=a0;4=a1;3=a0;6=+1,0;6=s3");
        int[] sums = {2, 3, 0, 0};
        for (int what = 0; what < 4; what++) {
            b.due("3 + 3: referred(" + what + ")", b.x.referred(what), sums[what]);
        }
        b.school("3=a0;4=a1;2=a2;5=+0,1");
        int[] second = {1, 3, 1, 2};
        b.x.axiom(2, 2);
        for (int what = 0; what < 4; what++) {
            b.due("3 + 2: referred(" + what + ")", b.x.referred(what), second[what]);
        }
        b.school("4=a0;4=a1;4=s0");
        b.due("an axiom's number is no line", b.x.referred(0), 0);
        b.due("referred(1)", b.x.referred(1), -2);
        b.due("referred(3)", b.x.referred(3), -2);
        b.school("3=a0;4=a1;4=s0;3=s1");
        b.due("two wrong ones", b.x.referred(0), 0);
        b.school("3=a0;4=a1;4=a1;4=s0");
        b.due("two ways", b.x.referred(0), 2);
        b.due("the first line that does", b.x.referred(3), 1);
    }

    private static void blind(Bench b) {
        b.due("blind(0) without a proof", b.x.blind(0), -1);
        b.x.modulus(4);
        b.x.axiom(0, 2);
        b.proof("2=a0;0=*0,0;0=+1,1");
        b.due("blind(0)", b.x.blind(0), 1);
        b.due("blind(1)", b.x.blind(1), 1);
        b.due("blind(2)", b.x.blind(2), 0);
        b.due("blind(3)", b.x.blind(3), -1);
        b.due("blind(-1)", b.x.blind(-1), -1);
        b.proof("1=a0;3=*0,0;1=+1,1");
        b.due("claims do not matter", b.x.blind(0), 1);
        b.due("and stay", b.claims(), 10301);
        b.proof("2=a0;1=a1");
        b.due("the last does not stand on it", b.x.blind(0), 3);
    }

    private static void cancel(Bench b) {
        b.due("cancel(0) without a proof", b.x.cancel(0), -1);
        b.x.modulus(3);
        b.x.axiom(0, 1);
        b.proof("1=a0;1=s0;1=s1");
        // First at 0 (2 claims): then back at 1 or at 2; first at 1: back at 2.
        b.due("cancel(0)", b.x.cancel(0), 6);
        int[] first = {0, 0, 1, 1};
        for (int what = 1; what <= 4; what++) {
            b.due("cancel(" + what + ")", b.x.cancel(what), first[what - 1]);
        }
        b.due("cancel(5)", b.x.cancel(5), -1);
        b.due("cancel(-1)", b.x.cancel(-1), -1);
        b.proof("2=a0;0=s0;0=s1");
        b.due("claims do not matter", b.x.cancel(0), 6);
        b.due("and stay", b.claims(), 20000);
        b.proof("1=a0");
        b.due("one line", b.x.cancel(0), 0);
        b.due("none", b.x.cancel(1), -2);
        b.due("none", b.x.cancel(4), -2);
        b.proof("1=a0;1=a0");
        b.due("it shows by the first alone never", b.x.cancel(0), 0);
        b.proof("1=a0" + ";1=s0".repeat(7));
        b.due("8 lines: the last has only the first", b.x.cancel(0), 2);
        b.proof("1=a0" + ";1=s0".repeat(8));
        b.due("9 lines", b.x.cancel(0), -1);
        b.due("9 lines", b.x.cancel(1), -1);
    }

    private static void stands(Bench b) {
        b.due("stands(0, 0) without a proof", b.x.stands(0, 0), -1);
        b.school(Bench.HONEST);
        int[] on = {60, 60, 56, 48, 32, 0};
        int[] needs = {0, 0, 3, 7, 15, 31};
        for (int i = 0; i < 6; i++) {
            b.due("stands(" + i + ", 0)", b.x.stands(i, 0), on[i]);
            b.due("stands(" + i + ", 1)", b.x.stands(i, 1), needs[i]);
        }
        b.due("stands(6, 0)", b.x.stands(6, 0), -1);
        b.due("stands(-1, 0)", b.x.stands(-1, 0), -1);
        b.due("stands(0, 2)", b.x.stands(0, 2), -1);
        b.due("stands(0, -1)", b.x.stands(0, -1), -1);
        b.school("3=a0;4=a1;3=s0;3=s2");
        b.due("an axiom's number is no line", b.x.stands(1, 0), 0);
        b.due("what stands on line 0", b.x.stands(0, 0), 12);
    }

    private static void anew(Bench b) {
        b.due("anew(0, 0, 0) without a proof", b.x.anew(0, 0, 0), -1);
        b.school(Bench.HONEST);
        b.due("anew(0, 32, 0)", b.x.anew(0, 32, 0), 1);
        b.due("anew(0, 32, 1)", b.x.anew(0, 32, 1), 8);
        b.due("anew(1, 32, 1)", b.x.anew(1, 32, 1), 4);
        b.due("anew(0, 4, 0): it has it", b.x.anew(0, 4, 0), -2);
        b.due("anew(0, 4, 1): it has it", b.x.anew(0, 4, 1), -2);
        b.due("anew(0, 36, 0): one has it", b.x.anew(0, 36, 0), -2);
        b.due("anew(0, 0, 0)", b.x.anew(0, 0, 0), 0);
        b.due("anew(0, 0, 1)", b.x.anew(0, 0, 1), 0);
        b.due("anew(4, 3, 0): none stands on it", b.x.anew(4, 3, 0), 0);
        b.due("anew(1, 48, 1): not a told one", b.x.anew(1, 48, 1), 4);
        b.due("anew(0, 1, 0): the one itself", b.x.anew(0, 1, 0), -1);
        b.due("anew(0, 64, 0): no such line", b.x.anew(0, 64, 0), -1);
        b.due("anew(0, -1, 0)", b.x.anew(0, -1, 0), -1);
        b.due("anew(0, MIN, 0)", b.x.anew(0, Integer.MIN_VALUE, 0), -1);
        b.due("anew(6, 0, 0)", b.x.anew(6, 0, 0), -1);
        b.due("anew(-1, 0, 0)", b.x.anew(-1, 0, 0), -1);
        b.due("anew(0, 32, 2)", b.x.anew(0, 32, 2), -1);
        b.due("anew(0, 32, -1)", b.x.anew(0, 32, -1), -1);
    }

    private static void anewLeast(Bench b) {
        // 0 leads by 1, 2, 3 to 4 and 5, which meet in 6, 7.
        b.school("3=a0;3=s0;3=s0;3=s0;6=+1,2;6=+2,3;2=+4,5;2=s6");
        b.due("one is fewer than two or three", b.x.anew(0, 128, 1), 64);
        b.due("two are fewer than three", b.x.anew(0, 64, 1), 48);
        b.due("how many", b.x.anew(0, 64, 0), 2);
        b.due("for 4 and 5 all three", b.x.anew(0, 48, 1), 14);
        b.due("for 4 two", b.x.anew(0, 16, 1), 6);
        b.school("3=a0;3=s0;3=s1;3=s2;3=s0;3=s4;6=+3,5");
        b.due("the lowest on each way", b.x.anew(0, 64, 1), 2 + 16);
        // Ways that cross: by 1 to 3 and 4, by 2 to 4 alone.
        b.school("3=a0;3=s0;3=s0;3=s1;6=+1,2;9=+3,4");
        b.due("two ways that cross", b.x.anew(0, 32, 1), 2 + 4);
        b.due("for 3 alone", b.x.anew(0, 8, 1), 2);
    }

    private static void added(Bench b) {
        b.due("added(0) without a proof", b.x.added(0), -1);
        b.school(Bench.HONEST);
        b.due("added(0)", b.x.added(0), 0);
        b.due("added(1)", b.x.added(1), 0);
        b.due("added(2)", b.x.added(2), -1);
        b.due("added(-1)", b.x.added(-1), -1);
        b.school("3=a0;3=s0;3=s1;4=a1");
        b.due("one shows all three", b.x.added(0), 1);
        b.due("the last of them", b.x.added(1), 4);
        b.due("nothing is changed", b.claims(), 3030304);
        b.school("3=a0");
        b.due("one line", b.x.added(1), 0);
        b.x.modulus(4);
        b.x.axiom(0, 2);
        b.proof("2=a0;0=*0,0;0=+1,1");
        b.due("added(0)", b.x.added(0), 2);
        b.due("added(1)", b.x.added(1), 3);
    }

    private static void addedShared(Bench b) {
        // By 6, even SLIPS at 0 and at 1 come to the last LINE three times, so that they do not show
        // there; LINE 3 shows both. LINE 2 is multiplied by 0 only, so that it must be said again.
        b.x.modulus(6);
        b.x.axiom(2, 2);
        b.proof("0=a0;0=a0;2=a2;0=+0,1;0=*2,0;0=*2,1;0=+3,4;0=+6,5");
        b.due("claims are honest", b.x.untrue(), 0);
        b.due("added(0)", b.x.added(0), 2);
        b.due("added(1)", b.x.added(1), 4 + 8);
        b.proof("0=a0;2=a2;0=*0,1;1=a1;0=s0;0=+2,4");
        b.due("of 0, 2 and 4, which show the same, the lowest", b.x.added(1), 1 + 2 + 8);
    }
}
