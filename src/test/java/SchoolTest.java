/** Promises 14 to 17 and 23 to 32: HEARERS, THE ORDER, COPIES, PUPILS, and what is KEPT. */
public final class SchoolTest {
    public static void main(String[] args) {
        Bench bench = new Bench();
        bench.test("14 reads", SchoolTest::reads);
        bench.test("15 hidden", SchoolTest::hidden);
        bench.test("15 hidden: by the claim", SchoolTest::hiddenByClaim);
        bench.test("16 unread", SchoolTest::unread);
        bench.test("17 readers", SchoolTest::readers);
        bench.test("23 order", SchoolTest::order);
        bench.test("23 order: of like ones", SchoolTest::orderTies);
        bench.test("23 order: the mean", SchoolTest::orderMean);
        bench.test("24 seed", SchoolTest::seed);
        bench.test("25 copied", SchoolTest::copied);
        bench.test("26 author", SchoolTest::author);
        bench.test("26 author: the tape", SchoolTest::authorTape);
        bench.test("27 corrects", SchoolTest::corrects);
        bench.test("28 points", SchoolTest::points);
        bench.test("29 keep, 30 undo", SchoolTest::keepAndUndo);
        bench.test("31 check", SchoolTest::check);
        bench.test("32 count", SchoolTest::count);
        bench.end();
    }

    private static void reads(Bench b) {
        b.due("without a proof and a law", b.x.reads(0, 0), 0);
        b.law("r(1=1);t5(1=1)");
        b.due("without a proof", b.x.reads(9, 2), 0);
        b.school(Bench.SLIPPED);
        b.law("r(k>2|h=1&i<2);r(h=2);td+1+h(i<5);t7(1=1)");
        int[][] due = {{12, 4, 2 + 3}, {15, 4, 2 + 2 + 3 + 4}, {63, 4, 3 + 3 + 4 + 5 + 6 + 7}, {12, 4, 5 + 6}};
        for (int h = 0; h < 4; h++) {
            for (int what = 0; what < 3; what++) {
                b.due("reads(" + h + ", " + what + ")", b.x.reads(h, what), due[h][what]);
            }
        }
        b.due("reads(9, 0)", b.x.reads(9, 0), 12);
        b.due("reads(10, 0)", b.x.reads(10, 0), -1);
        b.due("reads(-1, 0)", b.x.reads(-1, 0), -1);
        b.due("reads(0, 3)", b.x.reads(0, 3), -1);
        b.due("reads(0, -1)", b.x.reads(0, -1), -1);
        b.law("r(v=8)");
        b.due("claims as they are", b.x.reads(0, 0), 4);
        b.x.honest();
        b.due("claims as they are now", b.x.reads(0, 0), 0);
    }

    private static void hidden(Bench b) {
        b.due("without a proof", b.x.hidden(1, 0), -1);
        b.school(Bench.HONEST);
        b.due("without a law: line", b.x.hidden(1023, 0), 0);
        b.due("without a law: claim", b.x.hidden(1023, 1), 0);
        b.due("without a law: finders", b.x.hidden(1023, 2), 0);
        b.law("r(k>2|h=1&i<2);r(h=2)");
        int[][] due = {{3, 4, 0, 0}, {4, 0, 0, 1}, {7, 4, 0, 1}, {6, 4, 0, 1}, {2, 4, 0, 0}};
        for (int[] row : due) {
            for (int what = 0; what < 3; what++) {
                b.due("hidden(" + row[0] + ", " + what + ")", b.x.hidden(row[0], what), row[what + 1]);
            }
        }
        for (int hearers : new int[] {0, 1024, -1, Integer.MIN_VALUE}) {
            b.due("hidden(" + hearers + ", 0)", b.x.hidden(hearers, 0), -1);
        }
        b.due("hidden(1, 3)", b.x.hidden(1, 3), -1);
        b.due("hidden(1, -1)", b.x.hidden(1, -1), -1);
        b.law("r(1=1)");
        b.due("all find all", b.x.hidden(1023, 2), 10);
        b.due("all find all: line", b.x.hidden(1023, 0), 0);
        b.school("0=a0;0=s0");
        b.due("in the honest one: claim", b.x.hidden(1, 1), 0);
        b.due("nothing is changed", b.claims(), 0);
        b.x.axiom(0, 0);
        b.due("another claim than the truth", b.x.hidden(1, 1), 1);
    }

    private static void hiddenByClaim(Bench b) {
        b.school(Bench.HONEST);
        b.law("r(v<6|h=0&v<9)");
        b.due("line", b.x.hidden(3, 0), 0);
        b.due("claim", b.x.hidden(3, 1), 9);
        b.due("finders", b.x.hidden(3, 2), 0);
        b.law("r(v<6|h=0&v<8|h=0)");
        b.due("claim", b.x.hidden(3, 1), 6);
        b.due("finders", b.x.hidden(3, 2), 1);
        b.law("r(!(i=2&v=7)&!(i=3&v=5))");
        b.due("not by its truth: line", b.x.hidden(1, 0), 3);
        b.due("not by its truth: claim", b.x.hidden(1, 1), 5);
        b.law("t1(v=3);r(i<5)");
        b.due("v in another clause: line", b.x.hidden(1, 0), 5);
        b.due("v in another clause: claim", b.x.hidden(1, 1), 0);
    }

    private static void unread(Bench b) {
        b.due("without a proof", b.x.unread(1), 0);
        b.due("without a proof, beyond", b.x.unread(1024), -1);
        b.school(Bench.HONEST);
        b.due("without a law", b.x.unread(1023), 63);
        b.law("r(k>2|h=1&i<2);r(h=2)");
        b.due("unread(0)", b.x.unread(0), 63);
        b.due("unread(1)", b.x.unread(1), 51);
        b.due("unread(2)", b.x.unread(2), 48);
        b.due("unread(3)", b.x.unread(3), 48);
        b.due("unread(4)", b.x.unread(4), 0);
        b.due("unread(1023)", b.x.unread(1023), 0);
        b.due("unread(1024)", b.x.unread(1024), -1);
        b.due("unread(-1)", b.x.unread(-1), -1);
        b.law("r(v=h)");
        b.due("claims as they are", b.x.unread(2), 63 - 8 - 16);
    }

    private static void readers(Bench b) {
        b.due("without a proof", b.x.readers(3, 0), 0);
        b.due("without a proof: who", b.x.readers(3, 1), 0);
        b.school(Bench.HONEST);
        b.due("none of none", b.x.readers(0, 0), -2);
        b.law("r(k>2|h=1&i<2);r(h=2)");
        b.due("readers(7, 0)", b.x.readers(7, 0), 1);
        b.due("readers(7, 1)", b.x.readers(7, 1), 4);
        b.due("readers(3, 0)", b.x.readers(3, 0), -2);
        b.due("readers(3, 1)", b.x.readers(3, 1), -2);
        b.due("readers(3, 2)", b.x.readers(3, 2), -1);
        b.due("readers(3, -1)", b.x.readers(3, -1), -1);
        b.due("readers(1024, 0)", b.x.readers(1024, 0), -1);
        b.due("readers(-1, 0)", b.x.readers(-1, 0), -1);
        b.law("r(i%3=h%3)");
        b.due("three of ten", b.x.readers(1023, 0), 3);
        b.due("the least bits", b.x.readers(1023, 1), 7);
        b.due("of the higher ones", b.x.readers(1020, 1), 4 + 8 + 16);
        b.due("not by two kinds", b.x.readers(1023 - 2 - 16 - 128, 0), -2);
        b.law("r(h<3&i%3=h);r(h=8&i<3);r(h=9&i>2)");
        b.due("two higher ones are fewer", b.x.readers(1023, 0), 2);
        b.due("two higher ones: who", b.x.readers(1023, 1), 768);
        b.proof("3=a0" + ";3=s0".repeat(9));
        b.law("r(i=h)");
        b.due("all ten", b.x.readers(1023, 0), 10);
        b.due("all ten: who", b.x.readers(1023, 1), 1023);
        b.law("r(i=h|i=8&h=9)");
        b.due("nine of ten", b.x.readers(1023, 1), 1023 - 256);
    }

    private static void order(Bench b) {
        b.due("without a proof", b.x.order(0, 0), -1);
        b.due("without a proof: the mean", b.x.order(0, 30), -1);
        b.school(Bench.HONEST);
        b.law("td+1(1=1);wk(1=1)");
        int[] row = {2, 3, 5, 4, 0, 1};
        for (int place = 0; place < 6; place++) {
            b.due("order(0, " + place + ")", b.x.order(0, place), row[place]);
        }
        b.due("order(0, 30)", b.x.order(0, 30), 6);
        b.due("order(0, 31)", b.x.order(0, 31), 1);
        for (int what : new int[] {6, 20, 29, 32, -1}) {
            b.due("order(0, " + what + ")", b.x.order(0, what), -1);
        }
        b.due("order(10, 0)", b.x.order(10, 0), -1);
        b.due("order(-1, 0)", b.x.order(-1, 0), -1);
        b.law("t1(h=i);t9(1=1);w1(1=1)");
        b.due("by the hearer", b.x.order(3, 0), 3);
        b.due("by another hearer", b.x.order(9, 0), 0);
        b.due("nothing is changed", b.claims(), 30407010109L);
    }

    private static void orderTies(Bench b) {
        b.school(Bench.HONEST);
        b.due("without a law", rowOf(b, 0), 12345);
        b.law("t5(1=1);w3(1=1)");
        b.due("all alike", rowOf(b, 0), 12345);
        b.law("t2(i%2=0);t4(1=1);w1(i%2=0);w2(1=1)");
        b.due("alike by their quotient", rowOf(b, 0), 12345);
        b.law("t9(1=1);w0(i<5);w1(1=1)");
        b.due("the likely one first", rowOf(b, 0), 501234);
        b.law("t0(i=4);t9(1=1);w1(1=1)");
        b.due("the one that takes no time first", rowOf(b, 0), 401235);
        // LINE 1 takes no time and is never the one: it may stand anywhere, and is the lowest then.
        b.law("t5(i=0);t0(i=1);t1(1=1);w0(i<2);w1(1=1)");
        b.due("5 0, 0 0, 1 1", rowOf(b, 0), 123450);
        b.law("t0(i=3);t5(i=0);t1(1=1);w0(i=3|i=0);w1(1=1)");
        b.due("one that may stand anywhere, in its place", rowOf(b, 0), 123450);
        b.law("t0(i=5);t7-i(1=1);w0(i=5);w1(1=1)");
        b.due("one that may stand anywhere, late", rowOf(b, 0), 432105);
    }

    private static long rowOf(Bench b, int h) {
        long row = 0;
        for (int place = 0; place < b.x.count(0); place++) {
            row = row * 10 + b.x.order(h, place);
        }
        return row;
    }

    private static void orderMean(Bench b) {
        b.school("3=a0;4=a1;7=+0,1");
        b.due("without a law: above", b.x.order(0, 30), 0);
        b.due("without a law: below", b.x.order(0, 31), 1);
        b.law("t1(1=1);w1(1=1)");
        b.due("(1 + 2 + 3) / 3: above", b.x.order(0, 30), 2);
        b.due("(1 + 2 + 3) / 3: below", b.x.order(0, 31), 1);
        b.law("t1(1=1);w2(i=0);w1(1=1)");
        b.due("(2 + 2 + 3) / 4: above", b.x.order(0, 30), 7);
        b.due("(2 + 2 + 3) / 4: below", b.x.order(0, 31), 4);
        b.law("w5(1=1)");
        b.due("no time: above", b.x.order(0, 30), 0);
        b.due("no time: below", b.x.order(0, 31), 1);
        b.law("t7(1=1)");
        b.due("not likely: above", b.x.order(0, 30), 0);
        b.due("not likely: below", b.x.order(0, 31), 1);
        b.law("t99(1=1);w99(i<2);w98(1=1)");
        b.due("high: above", b.x.order(0, 30), 99 * 99 + 198 * 99 + 297 * 98);
        b.due("high: below", b.x.order(0, 31), 296);
        b.law("t3(1=1);w2(1=1)");
        b.due("through all: above", b.x.order(0, 30), 6);
        b.due("through all: below", b.x.order(0, 31), 1);
    }

    private static void seed(Bench b) {
        b.due("seed(0)", b.x.seed(0), true);
        b.due("count(3)", b.x.count(3), 0);
        b.due("seed(65535)", b.x.seed(65535), true);
        b.due("count(3)", b.x.count(3), 65535);
        b.due("seed(65536)", b.x.seed(65536), false);
        b.due("seed(-1)", b.x.seed(-1), false);
        b.due("count(3)", b.x.count(3), 65535);
        b.proof("0=a0");
        b.x.copied(1);
        // 25173 * 65535 + 13849 = 1649726404, of which 65536 leaves 54212.
        b.due("the next one", b.x.count(3), 54212);
    }

    private static void copied(Bench b) {
        b.due("without a proof", b.x.copied(1), -1);
        b.due("X stays", b.x.count(3), 1);
        b.school(Bench.HONEST);
        for (int n : new int[] {0, -1, 21, Integer.MAX_VALUE}) {
            b.due("copied(" + n + ")", b.x.copied(n), -1);
        }
        b.due("X stays", b.x.count(3), 1);
        b.due("without a law", b.x.copied(20), 0);
        b.due("claims stay", b.claims(), 30407010109L);
        b.law("c10(1=1)");
        b.x.seed(1);
        // X = 39022: LINE 39022 % 6 = 4, CLAIM 1 + 1 + 76 % 9 = 6; LINE 5 is its negative.
        b.due("copied(1)", b.x.copied(1), 1);
        b.due("X", b.x.count(3), 39022);
        b.due("claims", b.claims(), 30407010604L);
        // X = 61087: LINE 1, CLAIM 4 + 1 + 119 % 9 = 7; then 0, 0, 0, 0 behind it.
        b.due("copied(1)", b.x.copied(1), 1);
        b.due("X", b.x.count(3), 61087);
        b.due("claims", b.claims(), 30700000000L);
        b.x.honest();
        b.law("c9(1=1)");
        b.x.seed(1);
        // 39022 / 32 % 10 = 9, 61087 / 32 % 10 = 8.
        b.due("9 is not below 9", b.x.copied(1), 0);
        b.due("8 is", b.x.copied(1), 1);
        b.x.honest();
        b.x.seed(1);
        b.due("both", b.x.copied(2), 1);
        b.law("c10(v=1)");
        b.x.honest();
        b.x.seed(1);
        b.due("claims as they are then", b.x.copied(2), 1);
        b.x.modulus(2);
        b.proof("1=a0");
        b.law("c10(1=1)");
        b.x.copied(1);
        b.due("by 2 it is the other one", b.x.line(0, 0), 0);
    }

    private static void author(Bench b) {
        b.school(Bench.HONEST);
        int[] one = {3, 4, 8, 4, 4, 6};
        int[] two = {3, 4, 8, 4, 2, 8};
        authorIs(b, 1, new int[] {36, 2, 0}, one);
        authorIs(b, 2, new int[] {1, 2, 8}, one, two);
        authorIs(b, 1, new int[] {0, -2, -2}, new int[] {3, 4, 99, 4, 4, 6});
        authorIs(b, 1, new int[] {0, -2, -2}, new int[] {3, 4, 8, 4, 4, 16});
        // A copy that is honest comes from any SLIP by its truth there.
        authorIs(b, 1, new int[] {54, 0, 0}, new int[] {3, 4, 7, 1, 1, 9});
        // Two SLIPS in a copy: one is the author's.
        authorIs(b, 1, new int[] {1, 2, 8}, two);
        authorIs(b, 1, new int[] {0, -2, -2}, new int[] {4, 5, 8, 4, 4, 6});
        authorIs(b, 5, new int[] {1, 2, 8}, one, two, one, two, new int[] {3, 4, 8, 4, 4, 5});
        authorIs(b, 2, new int[] {0, -2, -2}, two, new int[] {3, 4, 7, 2, 3, 7});
        b.due("nothing is changed", b.claims(), 30407010109L);
        b.school(Bench.SLIPPED);
        authorIs(b, 2, new int[] {1, 2, 8}, one, two);
        b.due("claims do not matter and stay", b.claims(), 30408040406L);
    }

    private static void authorIs(Bench b, int k, int[] due, int[]... copies) {
        int[] bytes = new int[k * 6];
        for (int p = 0; p < bytes.length; p++) {
            bytes[p] = copies[p / 6][p % 6];
        }
        for (int what = 0; what < 3; what++) {
            b.x.check(0);
            b.feed(bytes);
            b.due("author(" + k + ", " + what + ") of " + java.util.Arrays.toString(bytes),
                    b.x.author(k, what), due[what]);
            b.due("the tape is empty", b.x.count(2), 0);
        }
    }

    private static void authorTape(Bench b) {
        b.feed(3, 4);
        b.due("without a proof", b.x.author(1, 0), -1);
        b.school(Bench.HONEST);
        b.feed(3, 4, 8, 4, 4, 6);
        b.due("author(0, 0)", b.x.author(0, 0), -1);
        b.due("author(6, 0)", b.x.author(6, 0), -1);
        b.due("author(-1, 0)", b.x.author(-1, 0), -1);
        b.due("author(1, 3)", b.x.author(1, 3), -1);
        b.due("author(1, -1)", b.x.author(1, -1), -1);
        b.due("author(4, 0): 24 bytes", b.x.author(4, 0), -1);
        b.due("the tape stays", b.x.count(2), 20);
        b.due("author(1, 0)", b.x.author(1, 0), 36);
        b.due("the tape is empty", b.x.count(2), 0);
        b.due("author(1, 0) of nothing", b.x.author(1, 0), -1);
        b.feed(new int[40]);
        b.due("author(6, 0) of 40 bytes", b.x.author(6, 0), -1);
        b.due("author(0, 0) of 40 bytes", b.x.author(0, 0), -1);
        b.due("the tape stays", b.x.count(2), 40);
    }

    private static void corrects(Bench b) {
        b.due("without a proof", b.x.corrects(0, 0, 0), -1000);
        b.school(Bench.SLIPPED);
        b.due("corrects(8, 2, 7)", b.x.corrects(8, 2, 7), -1000);
        b.due("corrects(-1, 2, 7)", b.x.corrects(-1, 2, 7), -1000);
        b.due("corrects(0, 6, 7)", b.x.corrects(0, 6, 7), -1000);
        b.due("corrects(0, -1, 7)", b.x.corrects(0, -1, 7), -1000);
        b.due("corrects(0, 2, 10)", b.x.corrects(0, 2, 10), -1000);
        b.due("corrects(0, 2, -1)", b.x.corrects(0, 2, -1), -1000);
        b.due("points(0)", b.x.points(0), 0);
        b.due("by another claim", b.x.corrects(1, 2, 6), -1);
        b.due("where none is wrong", b.x.corrects(2, 3, 4), -1);
        b.due("where none is wrong, by its truth", b.x.corrects(2, 3, 1), -2);
        b.due("claims stay", b.claims(), 30408040406L);
        b.due("right", b.x.corrects(0, 2, 7), 1);
        b.due("all behind is honest", b.claims(), 30407010109L);
        b.due("right no more", b.x.corrects(0, 2, 7), 0);
        b.due("and below", b.x.corrects(0, 2, 7), -1);
        b.school("4=a0;4=a1;9=+0,1");
        b.due("what its rule makes of claims as they are", b.x.corrects(7, 2, 8), 1);
        b.due("claims ahead stay", b.claims(), 40408);
        b.due("the first one", b.x.corrects(7, 0, 3), 2);
        b.due("all behind is worked on", b.claims(), 30407);
    }

    private static void points(Bench b) {
        b.school(Bench.HONEST);
        for (int n = 1; n <= 101; n++) {
            b.due("one less", b.x.corrects(3, 0, 0), Math.max(-99, -n));
        }
        b.due("points(3)", b.x.points(3), -99);
        for (int n = 1; n <= 101; n++) {
            b.x.axiom(0, n % 2 == 0 ? 3 : 5);
            b.due("one more", b.x.corrects(4, 0, n % 2 == 0 ? 3 : 5), Math.min(99, n));
        }
        b.due("points(4)", b.x.points(4), 99);
        b.due("one less than 99", b.x.corrects(4, 0, 0), 98);
        b.due("points(0)", b.x.points(0), 0);
        b.due("points(8)", b.x.points(8), -1000);
        b.due("points(-1)", b.x.points(-1), -1000);
    }

    private static void keepAndUndo(Bench b) {
        b.due("undo() where none was kept", b.x.undo(), false);
        b.due("keep() without a proof", b.x.keep(), 0);
        b.school(Bench.HONEST);
        b.x.seed(5);
        b.due("undo()", b.x.undo(), true);
        b.due("no proof", b.x.count(0), 0);
        b.due("the modulus", b.x.count(4), 97);
        b.due("an axiom", b.x.count(10), 0);
        b.due("X", b.x.count(3), 1);
        b.school(Bench.SLIPPED);
        b.x.seed(5);
        b.x.corrects(6, 0, 0);
        b.law("r(1=1)");
        b.due("keep()", b.x.keep(), 6);
        b.due("right", b.x.corrects(6, 2, 7), 0);
        b.x.copied(3);
        b.law("r(1=1);r(1=1)");
        b.x.modulus(50);
        b.x.axiom(1, 44);
        b.proof("9=a0");
        b.feed("abc");
        for (int time = 0; time < 2; time++) {
            b.due("undo()", b.x.undo(), true);
            b.due("the modulus", b.x.count(4), 10);
            b.due("an axiom", b.x.count(11), 4);
            b.due("claims", b.claims(), 30408040406L);
            b.due("line(3, 2)", b.x.line(3, 2), 2);
            b.due("line(2, 7)", b.x.line(2, 7), 1);
            b.due("line(5, 6)", b.x.line(5, 6), 4);
            b.due("stands(5, 1)", b.x.stands(5, 1), 31);
            b.due("X", b.x.count(3), 5);
            b.due("points(6)", b.x.points(6), -1);
            b.due("the law is not kept", b.x.count(1), 2);
            b.x.honest();
            b.x.axiom(1, 9);
            b.x.corrects(6, 0, 0);
        }
        b.due("the tape is not kept", b.x.count(2), 20);
    }

    private static void check(Bench b) {
        b.due("check(0)", b.x.check(0), -1);
        b.x.feed(0, 0, 0, 0, 0);
        b.due("check(1) without a proof", b.x.check(1), 0);
        b.school("3=a0;4=a1;7=+0,1");
        int[][] rows = {{3, 3, 4, 7, 0, 0, -1}, {3, 3, 4, 8, 0, 0, 2}, {3, 4, 3, 7, 0, 0, 0}, {2, 3, 4, 9, 0, 0, -1},
            {4, 3, 4, 7, 0, 0, 3}, {5, 3, 4, 7, 0, 0, 3}, {5, 3, 5, 7, 0, 0, 1}, {0, 9, 9, 9, 9, 9, -1},
            {3, 3, 4 + 256, 7, 0, 0, 1}, {1, 3 - 256, 0, 0, 0, 0, 0}, {1, 3 + (1 << 24), 0, 0, 0, 0, 0},
            {2, 3, 4 + (1 << 16), 0, 0, 0, 1}};
        for (int[] row : rows) {
            b.x.feed(row[1], row[2], row[3], row[4], row[5]);
            b.due("check(" + row[0] + ") of " + java.util.Arrays.toString(row), b.x.check(row[0]), row[6]);
            b.due("the tape is empty", b.x.count(2), 0);
        }
        b.x.feed(3, 4, 7, 0, 0);
        for (int n : new int[] {6, 21, -1, Integer.MAX_VALUE, Integer.MIN_VALUE, 1 << 30}) {
            b.due("check(" + n + ")", b.x.check(n), -2);
        }
        b.due("the tape stays", b.x.count(2), 20);
        for (int i = 0; i < 4; i++) {
            b.x.feed(3, 4, 7, 0, 0);
        }
        b.due("check(21) of 25 numbers", b.x.check(21), -2);
        b.due("the tape stays", b.x.count(2), 100);
        b.proofIs("0=a5" + ";0=s0".repeat(19), 20);
        for (int i = 0; i < 4; i++) {
            b.x.feed(0, 0, 0, 0, i / 3);
        }
        b.due("check(20)", b.x.check(20), 19);
    }

    private static void count(Bench b) {
        b.due("count(5) without lines", b.x.count(5), -1);
        b.due("count(6) without lines", b.x.count(6), -1);
        b.school(Bench.SLIPPED);
        b.law("r(1=1);t1(1=1)");
        b.x.seed(9);
        b.feed("abc");
        int[] due = {6, 2, 20, 9, 10, 6, 9, -1, -1, -1, 3, 4, 0, 0, 0, 0, 0, 0, 0, 0, -1};
        for (int what = 0; what < due.length; what++) {
            b.due("count(" + what + ")", b.x.count(what), due[what]);
        }
        b.due("count(-1)", b.x.count(-1), -1);
        b.due("count(MAX)", b.x.count(Integer.MAX_VALUE), -1);
    }
}
