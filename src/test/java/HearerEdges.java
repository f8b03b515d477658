/** Boundary cases of HEARERS: promises 14 to 17 and 23, and their terms. */
final class HearerEdges {
    private static final int[] NO_HEARERS = {1024, 1025, 2047, -1, -1024, Integer.MAX_VALUE, Integer.MIN_VALUE};

    static void all(Edges e) {
        terms(e);
        promises(e);
        order(e);
    }

    private static void terms(Edges e) {
        e.of("==== 2.", "HIDDEN from told HEARERS: in THE PROOF, made honest first (each CLAIM its TRUTH),"
                + " a SLIP at a LINE by another CLAIM,", HearerEdges::hiddenByAnother);
        e.of("==== 2.", "which as few of them as can be FIND: who reads that LINE as it is then;",
                HearerEdges::hiddenFromMost);
        e.of("==== 2.", "of like ones the lowest LINE, then CLAIM.", HearerEdges::hiddenLowest);
        e.of("==== 2.", "UNREAD: LINES that none of told HEARERS reads.", HearerEdges::unreadLines);
        e.of("==== 2.", "READERS: of told HEARERS the fewest who together read all LINES;",
                HearerEdges::fewestReaders);
        e.of("==== 2.", "read all LINES; of like ones the least bits.", HearerEdges::leastReaders);
    }

    private static void promises(Edges e) {
        e.of("Promise 14", "LINES that a HEARER reads (what 0), of these WRONG ones (1), as bits;"
                + " MINUTES of all it reads (2);", HearerEdges::readsAsked);
        e.of("Promise 14", "NONE: no such ones.", HearerEdges::readsNone);
        e.of("Promise 15", "HIDDEN from HEARERS (bits, not empty), what 0 LINE, 1 CLAIM, 2 how many FIND it;",
                HearerEdges::hiddenAsked);
        e.of("Promise 15", "NONE: no such ones, no PROOF.", HearerEdges::hiddenNone);
        e.of("Promise 16", "UNREAD by HEARERS (bits), as bits;", HearerEdges::unreadAsked);
        e.of("Promise 16", "NONE: no such ones.", HearerEdges::unreadNone);
        e.of("Promise 17", "READERS of HEARERS (bits), what 0 how many, 1 who (bits);", HearerEdges::readersAsked);
        e.of("Promise 17", "-2: they do not read all;", HearerEdges::readersNotAll);
        e.of("Promise 17", "NONE: no such ones.", HearerEdges::readersNone);
    }

    private static void order(Edges e) {
        e.of("==== 2.", "THE ORDER of a HEARER: all LINES one behind the other; a SLIP is at one of them as likely as w;",
                HearerEdges::orderOfAll);
        e.of("==== 2.", "reading a LINE takes t (of LINES it would not read, too):", HearerEdges::orderOfUnread);
        e.of("==== 2.", "in which order MINUTES till it is found are fewest on the mean;", HearerEdges::orderFewest);
        e.of("==== 2.", "of like ones the least row;", HearerEdges::orderLeastRow);
        e.of("==== 2.", "the mean as a fraction through all w.", HearerEdges::orderMean);
        e.of("Promise 23", "THE ORDER of a HEARER, what 30, 31 the mean above and below the line,"
                + " without a common divisor", HearerEdges::orderShortened);
        e.of("Promise 23", "(all w 0: 0, 1)", HearerEdges::orderNotLikely);
        e.of("Promise 23", ", else the LINE at place what;", HearerEdges::orderPlaces);
        e.of("Promise 23", "NONE: no such ones, no such place, no PROOF.", HearerEdges::orderNone);
    }

    private static void hiddenIs(Bench b, int hearers, int line, int claim, int finders) {
        b.due("hidden(" + hearers + ", 0)", b.x.hidden(hearers, 0), line);
        b.due("hidden(" + hearers + ", 1)", b.x.hidden(hearers, 1), claim);
        b.due("hidden(" + hearers + ", 2)", b.x.hidden(hearers, 2), finders);
    }

    private static void hiddenByAnother(Bench b) {
        b.school(Bench.SLIPPED);
        // The last LINE is 6 now, its TRUTH is 9: 9 is no other CLAIM, 6 is one.
        b.law("r(i<5|!v=9)");
        hiddenIs(b, 1, 0, 0, 1);
        b.law("r(i<5|!v=6)");
        hiddenIs(b, 1, 5, 6, 0);
        b.claimsAre("stay", 30408040406L);
        b.x.axiom(0, 0);
        b.law("r(1=1)");
        hiddenIs(b, 1, 0, 1, 1);
        b.x.modulus(2);
        b.x.axiom(0, 1);
        b.proof("1=a0");
        hiddenIs(b, 1, 0, 0, 1);
        b.x.axiom(0, 0);
        hiddenIs(b, 1, 0, 1, 1);
    }

    private static void hiddenFromMost(Bench b) {
        b.school(Bench.HONEST);
        b.law("r(i<5);r(h=3)");
        hiddenIs(b, 1, 5, 0, 0);
        hiddenIs(b, 8, 0, 0, 1);
        hiddenIs(b, 9, 5, 0, 1);
        hiddenIs(b, 1023, 5, 0, 1);
        hiddenIs(b, 1023 - 8, 5, 0, 0);
        // By its CLAIM as it is then: HEARER h reads those below 9 - h.
        b.law("r(v<9-h)");
        hiddenIs(b, 1, 0, 9, 0);
        hiddenIs(b, 2, 0, 8, 0);
        hiddenIs(b, 512, 0, 0, 0);
        hiddenIs(b, 3, 0, 9, 0);
        b.law("r(v<9-h|v=9)");
        hiddenIs(b, 3, 0, 8, 1);
        hiddenIs(b, 2, 0, 8, 0);
        // Those behind it are no matter, though their CLAIMS change.
        b.law("r(i=0&v>0);r(i>0)");
        hiddenIs(b, 1023, 0, 0, 0);
    }

    private static void hiddenLowest(Bench b) {
        b.school(Bench.HONEST);
        hiddenIs(b, 1023, 0, 0, 0);
        b.law("r(i=0);r(i=1&v<8)");
        hiddenIs(b, 1, 1, 8, 0);
        b.law("r(i=0&!v=9);r(i=1&v<8)");
        hiddenIs(b, 1, 0, 9, 0);
        b.law("r(i=0&h<2);r(i=1&h<1);r(i=2&h<1);r(i>2)");
        hiddenIs(b, 1023, 1, 0, 1);
        b.law("r(1=1)");
        hiddenIs(b, 1023, 0, 0, 10);
    }

    private static void unreadLines(Bench b) {
        b.school(Bench.HONEST);
        b.due("without a LAW", b.x.unread(1023), 63);
        b.law("r(i=h)");
        for (int h = 0; h < 10; h++) {
            b.due("unread(" + (1 << h) + ")", b.x.unread(1 << h), 63 & ~(1 << h));
        }
        b.due("by two", b.x.unread(1 + 32), 63 - 1 - 32);
        b.due("by all", b.x.unread(1023), 0);
        b.due("by all but one", b.x.unread(1023 - 4), 4);
        b.law("r(1=1)");
        b.due("one reads all", b.x.unread(512), 0);
    }

    private static void readersAre(Bench b, int hearers, int due) {
        b.due("readers(" + hearers + ", 1)", b.x.readers(hearers, 1), due);
        b.due("readers(" + hearers + ", 0)", b.x.readers(hearers, 0), due < 0 ? due : Integer.bitCount(due));
    }

    private static void fewestReaders(Bench b) {
        b.school(Bench.HONEST);
        b.law("r(h=9);r(h<6&i=h)");
        readersAre(b, 1023, 512);
        readersAre(b, 511, 63);
        readersAre(b, 63, 63);
        b.law("r(h<3&i%3=h);r(h=7&i<3);r(h=8&i>2)");
        readersAre(b, 1023, 128 + 256);
        readersAre(b, 7 + 128, 7);
        readersAre(b, 7 + 128 + 256, 128 + 256);
        b.proof("0=a0" + ";0=s0".repeat(9));
        b.law("r(i=h)");
        readersAre(b, 1023, 1023);
        readersAre(b, 1022, -2);
        readersAre(b, 511, -2);
    }

    private static void leastReaders(Bench b) {
        b.school(Bench.HONEST);
        b.law("r(1=1)");
        readersAre(b, 1023, 1);
        readersAre(b, 1022, 2);
        readersAre(b, 512, 512);
        b.law("r(i%2=h%2)");
        readersAre(b, 1023, 3);
        readersAre(b, 1022, 2 + 4);
        readersAre(b, 1020, 4 + 8);
        readersAre(b, 512 + 256, 512 + 256);
        readersAre(b, 1 + 4 + 512, 1 + 512);
    }

    private static void readsAsked(Bench b) {
        b.due("no PROOF, no LAW", b.x.reads(0, 0), 0);
        b.law("r(1=1);t99(1=1)");
        for (int what = 0; what < 3; what++) {
            b.due("no PROOF: reads(9, " + what + ")", b.x.reads(9, what), 0);
        }
        b.proof("1=a0" + ";1=s0".repeat(19));
        b.due("all twenty", b.x.reads(0, 0), (1 << 20) - 1);
        b.due("the WRONG one", b.x.reads(0, 1), 1);
        b.due("the most MINUTES", b.x.reads(0, 2), 20 * 99);
        b.law("r(i>0);t5(1=1)");
        b.due("all but the first", b.x.reads(0, 0), (1 << 20) - 2);
        b.due("the WRONG one is not read", b.x.reads(0, 1), 0);
        b.due("MINUTES of those it reads alone", b.x.reads(0, 2), 19 * 5);
        b.law("t5(1=1)");
        b.due("none is read", b.x.reads(0, 0), 0);
        b.due("no MINUTES", b.x.reads(0, 2), 0);
    }

    private static void readsNone(Bench b) {
        b.due("no PROOF: reads(10, 0)", b.x.reads(10, 0), -1);
        b.school(Bench.HONEST);
        b.law("r(1=1)");
        for (int h : new int[] {-1, 10, 11, Integer.MAX_VALUE, Integer.MIN_VALUE}) {
            for (int what = 0; what < 3; what++) {
                b.due("reads(" + h + ", " + what + ")", b.x.reads(h, what), -1);
            }
        }
        for (int what : new int[] {-1, 3, 4, Integer.MAX_VALUE, Integer.MIN_VALUE}) {
            b.due("reads(0, " + what + ")", b.x.reads(0, what), -1);
        }
        b.due("reads(9, 2)", b.x.reads(9, 2), 0);
    }

    private static void hiddenAsked(Bench b) {
        b.school(Bench.HONEST);
        b.law("r(i<5|h=9)");
        hiddenIs(b, 1, 5, 0, 0);
        hiddenIs(b, 512, 0, 0, 1);
        hiddenIs(b, 1023, 5, 0, 1);
        b.proof(Bench.SLIPPED);
        hiddenIs(b, 1023, 5, 0, 1);
        b.proof("3=a0" + ";3=s0".repeat(19));
        b.law("r(i<19)");
        hiddenIs(b, 1023, 19, 0, 0);
    }

    private static void hiddenNone(Bench b) {
        b.law("r(1=1)");
        for (int what = -1; what <= 3; what++) {
            b.due("no PROOF: hidden(1, " + what + ")", b.x.hidden(1, what), -1);
        }
        b.school(Bench.HONEST);
        for (int what = 0; what < 3; what++) {
            b.due("hidden(0, " + what + "): empty", b.x.hidden(0, what), -1);
            for (int hearers : NO_HEARERS) {
                b.due("hidden(" + hearers + ", " + what + ")", b.x.hidden(hearers, what), -1);
            }
        }
        for (int what : new int[] {-1, 3, 4, Integer.MAX_VALUE, Integer.MIN_VALUE}) {
            b.due("hidden(1, " + what + ")", b.x.hidden(1, what), -1);
        }
        b.due("hidden(1023, 2)", b.x.hidden(1023, 2), 10);
    }

    private static void unreadAsked(Bench b) {
        b.due("no PROOF: unread(0)", b.x.unread(0), 0);
        b.due("no PROOF: unread(1023)", b.x.unread(1023), 0);
        b.school(Bench.SLIPPED);
        b.law("r(v=4)");
        b.due("by none", b.x.unread(0), 63);
        b.due("CLAIMS as they are", b.x.unread(1), 63 - 2 - 8 - 16);
        b.x.honest();
        b.due("CLAIMS as they are now", b.x.unread(1), 63 - 2);
        b.proof("3=a0" + ";3=s0".repeat(19));
        b.due("all twenty", b.x.unread(1023), (1 << 20) - 1);
    }

    private static void unreadNone(Bench b) {
        b.due("no PROOF: unread(1024)", b.x.unread(1024), -1);
        b.school(Bench.HONEST);
        for (int hearers : NO_HEARERS) {
            b.due("unread(" + hearers + ")", b.x.unread(hearers), -1);
        }
        b.due("unread(1023)", b.x.unread(1023), 63);
    }

    private static void readersAsked(Bench b) {
        readersAre(b, 0, 0);
        readersAre(b, 1023, 0);
        b.school(Bench.HONEST);
        b.law("r(h=9)");
        readersAre(b, 1023, 512);
        readersAre(b, 512, 512);
        b.law("r(h=9&i<3);r(h=8&i>2)");
        readersAre(b, 1023, 768);
        b.school(Bench.SLIPPED);
        b.law("r(v=h)");
        readersAre(b, 1023, 8 + 16 + 64 + 256);
        b.x.honest();
        readersAre(b, 1023, 2 + 8 + 16 + 128 + 512);
    }

    private static void readersNotAll(Bench b) {
        b.school(Bench.HONEST);
        readersAre(b, 1023, -2);
        b.law("r(i<5)");
        readersAre(b, 1023, -2);
        b.law("r(h<9)");
        readersAre(b, 512, -2);
        readersAre(b, 0, -2);
        readersAre(b, 511, 1);
    }

    private static void readersNone(Bench b) {
        b.due("no PROOF: readers(1024, 0)", b.x.readers(1024, 0), -1);
        b.due("no PROOF: readers(1, 2)", b.x.readers(1, 2), -1);
        b.school(Bench.HONEST);
        for (int hearers : NO_HEARERS) {
            b.due("readers(" + hearers + ", 0)", b.x.readers(hearers, 0), -1);
            b.due("readers(" + hearers + ", 1)", b.x.readers(hearers, 1), -1);
        }
        for (int what : new int[] {-1, 2, 3, Integer.MAX_VALUE, Integer.MIN_VALUE}) {
            b.due("readers(1023, " + what + ")", b.x.readers(1023, what), -1);
        }
    }

    /** The row of THE ORDER (by one digit each), and the mean. */
    private static void orderIs(Bench b, int h, long row, long above, long below) {
        long got = 0;
        for (int place = 0; place < b.x.count(0); place++) {
            got = got * 10 + b.x.order(h, place);
        }
        b.due("the row for " + h, got, row);
        b.due("above for " + h, b.x.order(h, 30), above);
        b.due("below for " + h, b.x.order(h, 31), below);
    }

    private static void orderOfAll(Bench b) {
        b.school("3=a0");
        b.law("t7(1=1);w2(1=1)");
        orderIs(b, 0, 0, 7, 1);
        b.school("3=a0;4=a1;7=+0,1");
        b.law("t1(1=1);wi(1=1)");
        // w 0, 1, 2: 2 first, 1, 0: (2 * 1 + 1 * 2 + 0 * 3) / 3.
        orderIs(b, 0, 210, 4, 3);
        b.law("t1(1=1);w7(i=1)");
        orderIs(b, 0, 102, 1, 1);
        b.proof("0=a0" + ";0=s0".repeat(19));
        b.law("t1(1=1);wi(1=1)");
        for (int place = 0; place < 20; place++) {
            b.due("order(0, " + place + ")", b.x.order(0, place), 19 - place);
        }
    }

    private static void orderOfUnread(Bench b) {
        b.school("3=a0;4=a1;7=+0,1");
        b.law("r(i=1);t3(i=0);t2(i=1);t1(i=2);w1(1=1)");
        // 2, 1, 0, though 1 alone is read: 1 + 3 + 6 through 3.
        orderIs(b, 0, 210, 10, 3);
        b.law("t3(i=0);t2(i=1);t1(i=2);w1(1=1)");
        orderIs(b, 0, 210, 10, 3);
    }

    private static void orderFewest(Bench b) {
        b.school("3=a0;4=a1;7=+0,1");
        b.law("t9-h(i=0);t5(1=1);w1(1=1)");
        // 9, 5, 5 minutes: 5 + 10 + 19 through 3.
        orderIs(b, 0, 120, 34, 3);
        orderIs(b, 4, 12, 10, 1);
        orderIs(b, 9, 12, 5, 1);
        // By t / w: 99 / 98, 98 / 97, 1: the last one first, then 0 (99 * 97 is less than 98 * 98).
        b.law("t99-i(i<2);t7(1=1);w98-i(i<2);w7(1=1)");
        b.due("the first", b.x.order(0, 0), 2);
        b.due("the second", b.x.order(0, 1), 0);
        b.due("the third", b.x.order(0, 2), 1);
        b.law("t98(i=0);t99(i=1);t7(1=1);w97(i=0);w98(i=1);w7(1=1)");
        b.due("the second", b.x.order(0, 1), 1);
        b.due("the third", b.x.order(0, 2), 0);
    }

    private static void orderLeastRow(Bench b) {
        b.school("3=a0;4=a1;7=+0,1;1=*2,0");
        orderIs(b, 0, 123, 0, 1);
        b.law("t9(1=1);w4(1=1)");
        orderIs(b, 0, 123, 45, 2);
        // 1 / 1, 2 / 2, 3 / 3, 4 / 4: (1 + 6 + 18 + 40) / 10.
        b.law("ti+1(1=1);wi+1(1=1)");
        orderIs(b, 0, 123, 13, 2);
        // t 0 with w 0 may stand anywhere: 0 does not wait, and 3 is last.
        b.law("t0(i=0|i=3);t1(1=1);w0(i=0|i=3);w1(1=1)");
        orderIs(b, 0, 123, 3, 2);
        // 0 takes time and is never the one: it waits for all that are likely; 1 has neither.
        b.law("t5(i=0);t0(i=1);t1(1=1);w0(i<2);w1(1=1)");
        orderIs(b, 0, 1230, 3, 2);
        // Of two that take no time the lower one is first, though the other is likelier.
        b.law("t0(1=1);wi(1=1)");
        orderIs(b, 0, 123, 0, 1);
        // Of two that are not likely the lower one is first, though the other is quicker.
        b.law("t9-i(1=1);w0(1=1)");
        orderIs(b, 0, 123, 0, 1);
    }

    private static void orderMean(Bench b) {
        b.school("3=a0;4=a1;7=+0,1");
        b.law("t2(i=0);t3(i=1);t5(i=2);w7(i=0);w6(i=1);w5(i=2)");
        // 2 * 7 + 5 * 6 + 10 * 5 = 94 through 18.
        orderIs(b, 0, 12, 47, 9);
        b.law("t2(i=0);t3(i=1);t5(i=2);w7(i=0);w0(i=1);w5(i=2)");
        // The one that is not likely is last: 2 * 7 + 7 * 5 = 49 through 12.
        orderIs(b, 0, 21, 49, 12);
        b.fresh();
        b.proof("0=a0" + ";0=s0".repeat(19));
        b.law("t99(1=1);w99(1=1)");
        // 99 (1 + 2 + .. + 20) / 20, the highest mean there is.
        b.due("above", b.x.order(0, 30), 2079);
        b.due("below", b.x.order(0, 31), 2);
        b.law("t99(1=1);w99(i>0);w98(1=1)");
        b.due("above, the highest sum", b.x.order(0, 30), 99L * 99 * 190 + 99 * 98 * 20);
        b.due("below, the highest sum", b.x.order(0, 31), 99 * 19 + 98);
    }

    private static void orderShortened(Bench b) {
        b.school("3=a0;4=a1");
        b.law("t6(1=1);w4(1=1)");
        // 24 + 48 through 8.
        orderIs(b, 0, 1, 9, 1);
        b.law("t1(1=1);w9(i=0);w6(i=1)");
        // 9 + 12 through 15.
        orderIs(b, 0, 1, 7, 5);
        b.law("t1(1=1);w3(i=0);w1(i=1)");
        // 3 + 2 through 4: no common divisor.
        orderIs(b, 0, 1, 5, 4);
        b.law("w5(1=1)");
        // No time at all: 0 through 10.
        orderIs(b, 0, 1, 0, 1);
    }

    private static void orderNotLikely(Bench b) {
        b.school("3=a0;4=a1");
        b.due("no LAW: above", b.x.order(0, 30), 0);
        b.due("no LAW: below", b.x.order(0, 31), 1);
        b.law("t7(1=1)");
        b.due("no w: above", b.x.order(0, 30), 0);
        b.due("no w: below", b.x.order(0, 31), 1);
        b.law("t7(1=1);w0(1=1);w9(1=1)");
        b.due("w 0: above", b.x.order(9, 30), 0);
        b.due("w 0: below", b.x.order(9, 31), 1);
    }

    private static void orderPlaces(Bench b) {
        b.proof("0=a0" + ";0=s0".repeat(19));
        b.due("the first", b.x.order(0, 0), 0);
        b.due("the last of twenty", b.x.order(0, 19), 19);
        b.due("no place 20", b.x.order(0, 20), -1);
        b.proof("0=a0");
        b.due("the only one", b.x.order(0, 0), 0);
        b.due("no place 1", b.x.order(0, 1), -1);
    }

    private static void orderNone(Bench b) {
        b.law("t1(1=1);w1(1=1)");
        for (int what : new int[] {-1, 0, 1, 29, 30, 31, 32}) {
            b.due("no PROOF: order(0, " + what + ")", b.x.order(0, what), -1);
        }
        b.school(Bench.HONEST);
        for (int h : new int[] {-1, 10, 11, Integer.MAX_VALUE, Integer.MIN_VALUE}) {
            for (int what : new int[] {0, 5, 30, 31}) {
                b.due("order(" + h + ", " + what + ")", b.x.order(h, what), -1);
            }
        }
        for (int what : new int[] {-1, 6, 7, 19, 20, 29, 32, 33, Integer.MAX_VALUE, Integer.MIN_VALUE}) {
            b.due("order(0, " + what + ")", b.x.order(0, what), -1);
        }
        b.due("order(9, 5)", b.x.order(9, 5), 5);
    }
}
