/** Promises 1 to 6: a new object, THE MODULUS, AXIOMS, the tape, and the TEXTS with their FAULTS. */
public final class TextsTest {
    public static void main(String[] args) {
        Bench bench = new Bench();
        bench.test("1 a new object", TextsTest::newObject);
        bench.test("2 modulus", TextsTest::modulus);
        bench.test("3 axiom", TextsTest::axiom);
        bench.test("4 feed", TextsTest::feed);
        bench.test("5 proof", TextsTest::proof);
        bench.test("5 proof: faults", TextsTest::proofFaults);
        bench.test("5 proof: the tape", TextsTest::proofTape);
        bench.test("6 law", TextsTest::law);
        bench.test("6 law: faults", TextsTest::lawFaults);
        bench.test("6 law: what is open", TextsTest::lawOpen);
        bench.test("6 law: the tape", TextsTest::lawTape);
        bench.test("6 law: numbers", TextsTest::lawNumbers);
        bench.test("6 law: letters", TextsTest::lawLetters);
        bench.test("6 law: conditions", TextsTest::lawConditions);
        bench.test("6 law: bounds", TextsTest::lawBounds);
        bench.end();
    }

    private static void newObject(Bench b) {
        b.due("NONE", OneSlip.NONE, -1);
        b.due("count(0)", b.x.count(0), 0);
        b.due("count(1)", b.x.count(1), 0);
        b.due("count(2)", b.x.count(2), 0);
        b.due("count(3)", b.x.count(3), 1);
        b.due("count(4)", b.x.count(4), 97);
        for (int a = 0; a < 10; a++) {
            b.due("count(10 + " + a + ")", b.x.count(10 + a), 0);
        }
        for (int p = 0; p < 8; p++) {
            b.due("points(" + p + ")", b.x.points(p), 0);
        }
        b.due("undo()", b.x.undo(), false);
        b.proof("5=a0");
        OneSlip other = new OneSlip();
        b.due("count(0) of another one", other.count(0), 0);
        other.modulus(5);
        other.axiom(0, 3);
        b.due("count(4)", b.x.count(4), 97);
        b.due("count(10)", b.x.count(10), 0);
        b.due("count(0)", b.x.count(0), 1);
    }

    private static void modulus(Bench b) {
        b.x.axiom(0, 96);
        b.x.axiom(9, 50);
        b.x.seed(77);
        b.proof("5=a0");
        b.x.corrects(2, 0, 96);
        b.law("r(1=1)");
        b.feed("abc");
        for (int m : new int[] {1, 0, -1, 98, Integer.MIN_VALUE, Integer.MAX_VALUE}) {
            b.due("modulus(" + m + ")", b.x.modulus(m), false);
        }
        b.due("the proof behind refused ones", b.x.count(0), 1);
        b.due("axiom 0 behind refused ones", b.x.count(10), 96);
        b.due("modulus(10)", b.x.modulus(10), true);
        b.due("count(4)", b.x.count(4), 10);
        b.due("count(0)", b.x.count(0), 0);
        b.due("count(10)", b.x.count(10), 6);
        b.due("count(19)", b.x.count(19), 0);
        b.due("count(1)", b.x.count(1), 1);
        b.due("count(2)", b.x.count(2), 20);
        b.due("count(3)", b.x.count(3), 77);
        b.due("points(2)", b.x.points(2), 1);
        b.due("modulus(97)", b.x.modulus(97), true);
        b.due("axiom 0 stays by the one before", b.x.count(10), 6);
        b.proof("5=a0");
        b.due("modulus(97) again", b.x.modulus(97), true);
        b.due("no proof by the same modulus", b.x.count(0), 0);
        b.due("modulus(2)", b.x.modulus(2), true);
        b.due("count(10)", b.x.count(10), 0);
    }

    private static void axiom(Bench b) {
        b.x.modulus(10);
        b.due("axiom(-1, 0)", b.x.axiom(-1, 0), false);
        b.due("axiom(10, 0)", b.x.axiom(10, 0), false);
        b.due("axiom(0, -1)", b.x.axiom(0, -1), false);
        b.due("axiom(0, 10)", b.x.axiom(0, 10), false);
        b.due("count(10)", b.x.count(10), 0);
        b.due("axiom(0, 9)", b.x.axiom(0, 9), true);
        b.due("axiom(9, 4)", b.x.axiom(9, 4), true);
        b.due("count(10)", b.x.count(10), 9);
        b.due("count(19)", b.x.count(19), 4);
        b.proof("9=a0;9=s0");
        b.x.axiom(0, 7);
        b.due("claims stay", b.claims(), 909);
        b.due("the truth is another", b.x.line(1, 4), 7);
        b.due("wrong()", b.x.wrong(), 1);
    }

    private static void feed(Bench b) {
        for (int n = 20; n <= 220; n += 20) {
            b.due("feed", b.x.feed(1, 2, 3, 4, 5), n);
            b.due("count(2)", b.x.count(2), n);
        }
        b.due("feed beyond 220", b.x.feed(1, 2, 3, 4, 5), -1);
        b.due("count(2)", b.x.count(2), 220);
        b.x.check(0);
        b.x.feed(0x353d6130, 0x3b363d73, 0x30000000, -1, -1);
        b.due("the highest byte is first", b.x.proof(9), 2);
        b.due("claims", b.claims(), 506);
        b.x.feed(5, 6, 0, 0, 0);
        b.due("check(2)", b.x.check(2), -1);
        b.x.feed(5, -6, 0, 0, 0);
        b.due("a number below 0", b.x.check(2), 1);
    }

    private static void proof(Bench b) {
        b.proofIs("5=a0", 1);
        b.proofIs("05=a9;96=s0;00=n01;7=+1,2;8=*03,00", 5);
        int[][] lines = {{5, 0, 9, -2}, {96, 1, 0, -2}, {0, 2, 1, -2}, {7, 3, 1, 2}, {8, 4, 3, 0}};
        for (int i = 0; i < lines.length; i++) {
            for (int what = 0; what < 4; what++) {
                b.due("line(" + i + ", " + what + ")", b.x.line(i, what), lines[i][what]);
            }
        }
        StringBuilder longest = new StringBuilder("00=a0;00=s00");
        for (int i = 2; i < 20; i++) {
            longest.append(i < 13 ? ";00=+00,01" : ";00=+0,1");
        }
        b.proofIs(longest.toString(), 20);
        b.due("line(19, 3)", b.x.line(19, 3), 1);
    }

    private static void proofFaults(Bench b) {
        b.proof("1=a0;2=a1");
        String[] texts = {" ", "=", "5", "5;", "5==", "5= ", "5=x0", "5=A0", "5=a", "5=ax", "5=a10", "5=a0x",
            "5=a0 ", "5=a0;", "5=a0;;", "5=a0,", "5=a0;x", "-5=a0", "5=s", "5=sx", "5=+", "5=n;"};
        int[] faults = {-1000, -1000, -1001, -1001, -1002, -1002, -1002, -1002, -1003, -1003, -1004, -1004,
            -1004, -1005, -1005, -1004, -1005, -1000, -1003, -1003, -1003, -1003};
        for (int i = 0; i < texts.length; i++) {
            b.proofIs(texts[i], faults[i]);
        }
        b.proofIs("5\0=a0", -1001);
        b.proofIs("5" + (char) 189 + "a0", -1001);
        b.proofIs("97=a0", -3000);
        b.proofIs("97", -3000);
        b.proofIs("97x", -3000);
        b.proofIs("975", -3000);
        b.proofIs("965", -1002);
        b.proofIs("96", -1002);
        b.proofIs("5=a0;98=s7", -3005);
        b.proofIs("5=s0", -6003);
        b.proofIs("5=n99", -6003);
        b.proofIs("5=+0,0", -6003);
        b.proofIs("5=a0;5=s1", -6008);
        b.proofIs("5=a0;5=s1x", -6008);
        b.proofIs("5=a0;5=s10", -6008);
        b.proofIs("5=a0;5=s000", -1010);
        b.proofIs("5=a0;5=s010", -6008);
        b.proofIs("5=a0;5=s0,0", -1009);
        b.proofIs("5=a0;5=+0", -1009);
        b.proofIs("5=a0;5=+0;", -1009);
        b.proofIs("5=a0;5=+0,", -1010);
        b.proofIs("5=a0;5=+0,x", -1010);
        b.proofIs("5=a0;5=*0,1", -6010);
        b.proofIs("5=a0;5=*1,0", -6008);
        b.proofIs("5=a0;5=*0,00,", -1012);
        b.due("the one before stays", b.claims(), 102);
        String twenty = "5=a0;".repeat(20);
        b.proofIs(twenty, -1100);
        b.proofIs(twenty + "5", -4100);
        b.proofIs(twenty + "99", -4100);
        b.proofIs(twenty + "=", -1100);
        b.due("the one before stays", b.claims(), 102);
        b.x.modulus(5);
        b.proofIs("5=a0", -3000);
        b.proofIs("12=a0", -3000);
        b.proofIs("4=a0", 1);
        b.proofIs("04=a0", 1);
        b.proofIs("05=a0", -3000);
        b.proofIs("04=a0;6", -3006);
    }

    private static void proofTape(Bench b) {
        b.proof("1=a0");
        b.feed("2=a0;3=a0");
        for (int n : new int[] {0, -1, 21, 200, 201, Integer.MAX_VALUE, Integer.MIN_VALUE}) {
            b.due("proof(" + n + ")", b.x.proof(n), -1);
        }
        b.due("the tape stays", b.x.count(2), 20);
        b.due("the proof stays", b.claims(), 1);
        b.due("proof(9)", b.x.proof(9), 2);
        b.due("the tape is empty", b.x.count(2), 0);
        b.feed("x");
        b.due("proof(1)", b.x.proof(1), -1000);
        b.due("the tape is empty behind a fault", b.x.count(2), 0);
        for (int i = 0; i < 11; i++) {
            b.feed("5=a0");
        }
        b.due("proof(201)", b.x.proof(201), -1);
        b.due("proof(200)", b.x.proof(200), -1004);
    }

    private static void law(Bench b) {
        b.lawIs("r(i=0)", 1);
        b.due("count(1)", b.x.count(1), 1);
        b.lawIs("r(i=0);t1(i=0);w2(i=0);c3(i=0)", 4);
        b.due("count(1)", b.x.count(1), 4);
        b.lawIs("ti+k*v-d/u%l(m<h&!i=v|(k>d))", 1);
        b.lawIs("t99999(00000=00001)", 1);
        b.lawIs("r(1=1);".repeat(13) + "r(1=1)", 14);
        b.due("count(1)", b.x.count(1), 14);
        b.proof("5=a0;5=s0");
        b.lawIs("t9(0=1);".repeat(12) + "r(i=1);t7(i=1)", 14);
        b.due("the last clause", b.x.reads(0, 2), 7);
    }

    private static void lawFaults(Bench b) {
        b.law("r(1=1);r(1=1)");
        String[] texts = {"x", " r(1=1)", "r", "r1", "r(", "r()", "r(i", "r(i)", "r(i=", "r(i=)", "r(i=0",
            "r(i=0]", "r(i=0=0)", "r(i=0) ", "r(i=0)x", "r(i=0);", "r(i=0);;", "r(i=0)r", "t(i=0)", "t", "t1",
            "t1;", "t1[", "t1+(", "t+1(", "ti2(", "t2i(", "t[1(", "t[1)", "t[]", "t1](1=1)", "r(!", "r(!)",
            "r(i!=0)", "r(i=0&)", "r(&i=0)", "r(i=0|)", "r(i=0&|", "r(i==0)", "r(i<=0)", "r((i)=0)", "r((i=0)=0)",
            "r([i=0])", "r(i=!0)", "r(i=(0))", "r(R=0)", "r(-1=0)", "r(i=0))", "ta(1=1)"};
        int[] faults = {-1000, -1000, -1001, -1001, -1002, -1002, -1003, -1003, -1004, -1004, -1005,
            -1005, -1005, -1006, -1006, -1007, -1007, -1006, -1001, -1001, -1002,
            -1002, -1002, -1003, -1001, -1002, -1002, -1003, -1003, -1002, -1002, -1003, -1003,
            -1003, -1006, -1002, -1006, -1006, -1004, -1004, -1004, -1007,
            -1004, -1004, -1004, -1002, -1002, -1006, -1001};
        for (int i = 0; i < texts.length; i++) {
            b.lawIs(texts[i], faults[i]);
        }
        b.lawIs("r(i=\0)", -1004);
        b.lawIs("r(i=" + (char) 233 + ")", -1004);
        b.lawIs("t123456(i=0)", -2006);
        b.lawIs("t000000(i=0)", -2006);
        b.lawIs("t12345x(i=0)", -1006);
        b.lawIs("t1+[123456", -2009);
        b.lawIs("r(1=123456)", -2009);
        b.lawIs("r(123456", -2007);
        b.due("the one before stays", b.x.count(1), 2);
        String fourteen = "r(1=1);".repeat(14);
        b.lawIs(fourteen, -1098);
        b.lawIs(fourteen + "r", -4098);
        b.lawIs(fourteen + "c", -4098);
        b.lawIs(fourteen + "i", -1098);
        b.lawIs(fourteen + ";", -1098);
        b.due("the one before stays", b.x.count(1), 2);
    }

    private static void lawOpen(Bench b) {
        b.lawIs("r((((((i=0))))))", 1);
        b.lawIs("r(((((((i=0)))))))", -5007);
        b.lawIs("r(!!!!!i=0)", 1);
        b.lawIs("r(!!!!!!i=0)", -5007);
        b.lawIs("r([[[[[i]]]]]=0)", 1);
        b.lawIs("r([[[[[[i]]]]]]=0)", -5007);
        b.lawIs("r(!(![!", -1006);
        b.lawIs("r(!(!([i]=0)))", 1);
        b.lawIs("r(!(!([[i]]=0)))", -5007);
        b.lawIs("r(!!!!!i=0&!!!!!i=0|!!!!!(", -5025);
        b.lawIs("r(!!!!(i=0)&!!!!!i=0&!(!(!i=0&!i=1)))", 1);
        b.lawIs("r(!!!!([", -5007);
        b.lawIs("r(!!!!([i]=0))", -5007);
        b.lawIs("t[[[[[[5]]]]]]((((((i=0))))))", 1);
        b.lawIs("t[[[[[[[5", -5007);
        b.lawIs("t[[[[[[5]]]]]]+[[[[[[5]]]]]](i=0)", 1);
        b.lawIs("r(i=[[[[[5]]]]]+[[[[[[", -5021);
        b.lawIs("r(((((((", -5007);
        b.lawIs("r((((((i(", -1008);
    }

    private static void lawTape(Bench b) {
        b.law("r(1=1)");
        b.feed("r(1=1);t1(1=1)");
        for (int n : new int[] {0, -1, 21, 200, 201, Integer.MAX_VALUE, Integer.MIN_VALUE}) {
            b.due("law(" + n + ")", b.x.law(n), -1);
        }
        b.due("the tape stays", b.x.count(2), 20);
        b.due("the law stays", b.x.count(1), 1);
        b.due("law(14)", b.x.law(14), 2);
        b.due("the tape is empty", b.x.count(2), 0);
        b.feed("r(2");
        b.due("law(3)", b.x.law(3), -1003);
        b.due("the tape is empty behind a fault", b.x.count(2), 0);
        b.due("the law stays", b.x.count(1), 2);
        b.lawIs("r(1" + "+1".repeat(97) + "=99", -1200);
        b.lawIs("r(9" + "+1".repeat(97) + ">9)", 1);
        b.proof("5=a0");
        b.due("a law of 200 bytes", b.x.reads(0, 0), 1);
        b.feed("r(1=1)".repeat(34));
        b.due("law(201) of 220 bytes", b.x.law(201), -1);
        b.due("the tape stays", b.x.count(2), 220);
    }

    private static void lawNumbers(Bench b) {
        b.proof("5=a0");
        b.minutesAre("t7-2-1(1=1)", 4);
        b.minutesAre("t2+3*4(1=1)", 14);
        b.minutesAre("t[2+3]*4(1=1)", 20);
        b.minutesAre("t20-3*4-1(1=1)", 7);
        b.minutesAre("t100/7%5*3(1=1)", 12);
        b.minutesAre("t2*3%4+1(1=1)", 3);
        b.minutesAre("t60/3/5(1=1)", 4);
        b.minutesAre("t[0-7]/2+50(1=1)", 47);
        b.minutesAre("t[0-7]%3+50(1=1)", 49);
        b.minutesAre("t7%[0-3]+50(1=1)", 51);
        b.minutesAre("t99999*99999/10000/10000(1=1)", 14);
        b.minutesAre("t[0-32768]*32768*2/[0-1]/32768/32768+50(1=1)", 48);
        b.minutesAre("t[0-32768]*32768*2%[0-1]+50(1=1)", 50);
        b.minutesAre("t32768*32768*2-1+2/[0-1](1=1)", 99);
        b.minutesAre("t5/0(1=1);t7(1=1)", 0);
        b.minutesAre("t5%0(1=1)", 0);
        b.minutesAre("t5+[7/0](1=1)", 0);
        b.minutesAre("t5/[1-1]+5(1=1)", 0);
        b.minutesAre("t0/5+9(1=1)", 9);
    }

    private static void lawLetters(Bench b) {
        b.x.modulus(50);
        b.proof("11=a0;12=s0;13=n1;14=+0,2;15=*3,3");
        String[] letters = {"i", "k", "v", "d", "u", "l", "m", "h"};
        int[] sums = {0 + 1 + 2 + 3 + 4, 0 + 1 + 2 + 3 + 4, 65, 0 + 1 + 2 + 3 + 4, 2 + 1 + 1 + 1 + 0, 25, 250, 15};
        for (int i = 0; i < letters.length; i++) {
            b.law("r(1=1);t" + letters[i] + "(1=1)");
            b.due("the sum of " + letters[i], b.x.reads(3, 2), sums[i]);
        }
        b.law("wh(1=1);t1(1=1)");
        b.due("in w the hearer is 0", b.x.order(3, 31), 1);
        b.law("w1(h=3);t1(1=1)");
        b.due("in the C of w, too", b.x.order(3, 31), 1);
        b.law("ch(1=1);c10(h=3)");
        b.due("in c the hearer is 0", b.x.copied(20), 0);
        b.law("r(h=3)");
        b.due("in r it is the one", b.x.reads(3, 0), 31);
        b.due("and no other", b.x.reads(4, 0), 0);
    }

    private static void lawConditions(Bench b) {
        b.proof("5=a0");
        b.holds("1<2", true);
        b.holds("2<2", false);
        b.holds("2>1", true);
        b.holds("2>2", false);
        b.holds("2=2", true);
        b.holds("0-1<0", true);
        b.holds("1=1|0=1&0=1", true);
        b.holds("0=1&0=1|1=1", true);
        b.holds("0=1&(0=1|1=1)", false);
        b.holds("!0=1", true);
        b.holds("!0=1&0=1", false);
        b.holds("!(0=1&0=1)", true);
        b.holds("!!1=1", true);
        b.holds("!1=1|1=1", true);
        b.holds("1/0=0", false);
        b.holds("!1/0=0", false);
        b.holds("!(1/0=0)", false);
        b.holds("1=1|1/0=0", true);
        b.holds("1/0=0|1=1", false);
        b.holds("(1/0=0)|1=1", false);
        b.holds("0=1&1/0=0|1=1", true);
        b.holds("1=1&1/0=0|1=1", false);
        b.holds("1=1&(1=1|1%0=0)", true);
        b.holds("!(0=1&1%0=0)", true);
        b.holds("h=3&i=0&v=5", true);
        b.law("r(1/0=0);r(1=1)");
        b.due("any r will do", b.x.reads(0, 0), 1);
        b.law("r(0=1);r(0=1)");
        b.due("none holds", b.x.reads(0, 0), 0);
    }

    private static void lawBounds(Bench b) {
        b.proof("5=a0;5=a0");
        b.minutesAre("t100(1=1)", 99);
        b.minutesAre("t99(1=1)", 99);
        b.minutesAre("t0-1(1=1)", 0);
        b.minutesAre("t3(i=1);t4(i=0);t5(1=1)", 4);
        b.minutesAre("t3(1/0=1);t4(1=1)", 4);
        b.minutesAre("w3(1=1);c4(1=1)", 0);
        b.law("w500(i=0);w1(1=1);t1(1=1)");
        b.due("likely 99 and 1: above", b.x.order(0, 30), 101);
        b.due("likely 99 and 1: below", b.x.order(0, 31), 100);
        b.law("w0-5(i=0);w1(1=1);t1(1=1)");
        b.due("likely 0 and 1: the first is last", b.x.order(0, 1), 0);
        b.due("likely 0 and 1: below", b.x.order(0, 31), 1);
        b.law("c10(1=1)");
        b.due("ten tenths", b.x.copied(20), 20);
        b.law("c99(1=1)");
        b.due("no more than ten", b.x.copied(20), 20);
        b.law("c0-9(1=1)");
        b.due("no less than 0", b.x.copied(20), 0);
    }
}
