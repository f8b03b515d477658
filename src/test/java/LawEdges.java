/** Boundary cases of THE LAW: its TEXT, its FAULTS and how it is reckoned (promise 6 and its terms). */
final class LawEdges {
    private static final String FACTORS = "0123456789ikvdulmh[";
    private static final String PIECES = FACTORS + "(!";
    private static final String SUMS = "+-*/%";

    static void all(Edges e) {
        clauses(e);
        reckoning(e);
        faults(e);
        promise(e);
    }

    private static void clauses(Edges e) {
        e.of("Terms", "THE LAW: a TEXT of at most 200 bytes", LawEdges::longLaws);
        e.of("Terms", "no blanks (none at first): CLAUSES", LawEdges::noBlanks);
        e.of("Terms", "(14 at most) with a ; (59) between two: r", LawEdges::fourteenClauses);
        e.of("Terms", "and (C): a HEARER reads a LINE (any r will do);", LawEdges::anyReading);
        e.of("Terms", "t, E and (C): MINUTES that takes (0 to 99);", LawEdges::minutes);
        e.of("Terms", "w, E and (C): how likely a SLIP is there (0 to 99);", LawEdges::likely);
        e.of("Terms", "c, E and (C): tenths for a SLIP at a LINE by copying (0 to 10):", LawEdges::tenths);
        e.of("Terms", "of t, w, c the E of the first CLAUSE whose C holds", LawEdges::firstThatHolds);
        e.of("Terms", "(beyond its bounds the bound; none: 0).", LawEdges::bounds);
    }

    private static void reckoning(Edges e) {
        e.of("Terms", "C: PARTS with a | between two, one of which must hold;", LawEdges::parts);
        e.of("Terms", "a PART: PIECES with an & between two, all of which must;", LawEdges::pieces);
        e.of("Terms", "of which must hold; a PART: PIECES with an & between two, all", LawEdges::partsOfPieces);
        e.of("Terms", "a PIECE: !PIECE, (C), or E, one of < > =, and E.", LawEdges::piece);
        e.of("Terms", "E: TERMS with + or - between two; a TERM: FACTORS with one of * / % between two;"
                + " from the left on; a FACTOR: [E],", LawEdges::fromTheLeft);
        e.of("Terms", "a number of one to five digits, or a letter:", LawEdges::numbers);
        e.of("Terms", "i the LINE, k its KIND (0 a, 1 s, 2 n, 3 +, 4 *), v its CLAIM,", LawEdges::ownLetters);
        e.of("Terms", "d its DEPTH (0 of an AXIOM, else one more than the deepest it has),", LawEdges::depths);
        e.of("Terms", "u how many LINES have it, l how many LINES there are, m THE MODULUS;", LawEdges::otherLetters);
        e.of("Terms", "h the HEARER (0 to 9; in w, c 0).", LawEdges::hearers);
        e.of("Terms", "All is reckoned with 32 bits, as the machine does;", LawEdges::bits);
        e.of("Terms", "what is divided by 0 is REFUSED: then a C does not hold, an E is 0.", LawEdges::refused);
        e.of("Terms", "Of a C as much is asked, from the left, as matters.", LawEdges::asMuchAsMatters);
    }

    private static void faults(Edges e) {
        e.of("Terms", "FAULTS, the first from the left: 1 what can't stand there (the end, too); 2",
                LawEdges::whatCanStand);
        e.of("Terms", "a sixth digit, at it; 4", LawEdges::sixthDigit);
        e.of("Terms", "a 15th CLAUSE, at its letter (if that can stand there); 5", LawEdges::clauseFifteen);
        e.of("Terms", "a seventh of ( [ ! that are open in one another, at it", LawEdges::seventhOpen);
        e.of("Terms", "(the ( of the CLAUSE counts;", LawEdges::openOfClause);
        e.of("Terms", "a ! is open till its PIECE ends;", LawEdges::openNot);
        e.of("Terms", "the E of a CLAUSE stands ahead of it).", LawEdges::openAhead);
    }

    private static void promise(Edges e) {
        e.of("Promise 6", "THE LAW by the first n bytes of the tape", LawEdges::firstBytesAlone);
        e.of("Promise 6", "(1 to 200; empty then)", LawEdges::lawLengths);
        e.of("Promise 6", ", in place of the one before: how many CLAUSES;", LawEdges::inPlace);
        e.of("Promise 6", "a FAULT: as above (the one before stays);", LawEdges::faultLeavesLaw);
        e.of("Promise 6", "NONE: no such n, it has not so many (the tape stays).", LawEdges::noSuchLength);
    }

    private static void longLaws(Bench b) {
        b.proof("5=a0");
        String two = "r(9" + "+1".repeat(97) + ">9)";
        b.due("its bytes", two.length(), 200);
        b.lawIs(two, 1);
        b.due("its last sign matters", b.x.reads(0, 0), 1);
        b.lawIs("r(9" + "+1".repeat(97) + "<9)", 1);
        b.due("so does the one ahead of it", b.x.reads(0, 0), 0);
        b.lawIs("r(9" + "+1".repeat(97) + ">99", -1200);
        b.feed(two + ";r(1=1)");
        b.due("201 bytes", b.x.law(201), -1);
        b.due("they are still there", b.x.count(2), 220);
        b.due("200 bytes", b.x.law(200), 1);
    }

    private static void noBlanks(Bench b) {
        b.due("none at first", b.x.count(1), 0);
        String text = "t[12+i]*3(!i<5&(h=0|v>7));r(1=1)";
        b.lawIs(text, 2);
        for (char blank : new char[] {' ', '\t', '\n', '\r', '\0', 160}) {
            for (int place = 0; place <= text.length(); place++) {
                b.fresh();
                int answer = b.law(text.substring(0, place) + blank + text.substring(place));
                b.due("a blank (" + (int) blank + ") at " + place, answer, -1000 - place);
            }
        }
    }

    private static void fourteenClauses(Bench b) {
        b.proof("5=a0");
        for (int clauses = 1; clauses <= 14; clauses++) {
            b.lawIs("t7(0=1);".repeat(clauses - 1) + "r(i=0)", clauses);
            b.due("count(1)", b.x.count(1), clauses);
            b.due("the last one is asked", b.x.reads(0, 0), 1);
        }
        b.proof("5=a0;5=a0");
        b.lawIs("t7(0=1);".repeat(13) + "r(i=1)", 14);
        b.due("the fourteenth holds or not", b.x.reads(0, 0), 2);
        b.lawIs("r(1=1);".repeat(13) + "t9(i=1)", 14);
        b.due("the fourteenth has its E", b.x.reads(0, 2), 9);
        b.lawIs("t7(0=1);".repeat(14) + "r(i=0)", -4112);
        b.due("the fourteen stay", b.x.count(1), 14);
        b.fresh();
        for (char other : new char[] {58, 60, ',', '|'}) {
            b.lawIs("r(1=1)" + other + "r(1=1)", -1006);
        }
        b.lawIs(";r(1=1)", -1000);
        b.lawIs("r(1=1);;r(1=1)", -1007);
        b.lawIs("r(1=1);", -1007);
    }

    private static void anyReading(Bench b) {
        b.proof("5=a0;5=s0;5=s1;5=s2");
        b.law("r(0=1)");
        b.due("none holds", b.x.reads(0, 0), 0);
        b.law("r(i=0);r(i=1)");
        b.due("each does for its LINE", b.x.reads(0, 0), 3);
        b.law("r(0=1);t5(1=1);r(0=1);r(i=3)");
        b.due("the last will do", b.x.reads(0, 0), 8);
        b.law("r(i=3);r(0=1)");
        b.due("the first will do", b.x.reads(0, 0), 8);
        b.law("t1(1=1);w1(1=1);c1(1=1)");
        b.due("others do not read", b.x.reads(0, 0), 0);
    }

    private static void minutes(Bench b) {
        b.proof("5=a0");
        b.minutesAre("t0(1=1)", 0);
        b.minutesAre("t1(1=1)", 1);
        b.minutesAre("t98(1=1)", 98);
        b.minutesAre("t99(1=1)", 99);
        b.minutesAre("t100(1=1)", 99);
        b.minutesAre("t99999(1=1)", 99);
        b.minutesAre("t0-1(1=1)", 0);
        b.minutesAre("t32768*65536(1=1)", 0);
        b.minutesAre("t32768*65536-1(1=1)", 99);
    }

    /** Of two LINES, each of which takes 1: the mean is (w of 0 + 2 w of 1) / both, where 0 is the likelier. */
    private static void meanIs(Bench b, String clauses, int above, int below) {
        b.due("sound", b.law("t1(1=1);" + clauses) > 0, true);
        b.due("above, by " + clauses, b.x.order(0, 30), above);
        b.due("below, by " + clauses, b.x.order(0, 31), below);
    }

    private static void likely(Bench b) {
        b.proof("5=a0;5=a0");
        meanIs(b, "w98(i=0);w1(1=1)", 100, 99);
        meanIs(b, "w99(i=0);w1(1=1)", 101, 100);
        meanIs(b, "w100(i=0);w1(1=1)", 101, 100);
        meanIs(b, "w99999(i=0);w1(1=1)", 101, 100);
        meanIs(b, "w1(i=0);w0(1=1)", 1, 1);
        meanIs(b, "w1(i=0);w0-1(1=1)", 1, 1);
        meanIs(b, "w1(i=0);w32768*65536(1=1)", 1, 1);
    }

    /** Copies till X / 32 modulo 10 has been each of 0 to 9: at how many of these a SLIP came. */
    private static int slipsOfTen(Bench b, String clauses) {
        b.due("sound", b.law(clauses) > 0, true);
        int slips = 0;
        boolean[] seen = new boolean[10];
        b.x.seed(1);
        for (int time = 0; time < 60; time++) {
            int came = b.x.copied(1);
            int tenth = b.x.count(3) / 32 % 10;
            slips += seen[tenth] ? 0 : came;
            seen[tenth] = true;
        }
        for (boolean one : seen) {
            b.due("each tenth is drawn", one, true);
        }
        return slips;
    }

    private static void tenths(Bench b) {
        for (int c = 0; c <= 12; c++) {
            b.fresh();
            b.proof("5=a0");
            b.due("by c" + c, slipsOfTen(b, "c" + c + "(1=1)"), Math.min(10, c));
        }
        b.fresh();
        b.proof("5=a0");
        b.due("below 0", slipsOfTen(b, "c0-1(1=1)"), 0);
        b.fresh();
        b.proof("5=a0");
        b.due("far above", slipsOfTen(b, "c99999(1=1)"), 10);
    }

    private static void firstThatHolds(Bench b) {
        b.proof("5=a0");
        b.minutesAre("t3(i=0);t4(i=0)", 3);
        b.minutesAre("t3(i=1);t4(i=0);t5(i=0)", 4);
        b.minutesAre("t3(i=1);t4(i=2);t5(i=0)", 5);
        b.minutesAre("t0(i=0);t4(i=0)", 0);
        b.minutesAre("w3(i=0);c4(i=0);t5(i=0)", 5);
        b.minutesAre("t1/0(i=0);t5(i=0)", 0);
        b.minutesAre("t1(1/0=0);t5(i=0)", 5);
        b.proof("5=a0;5=a0");
        meanIs(b, "w2(i=0);w5(i=0);w1(i=1);w9(1=1)", 4, 3);
        b.fresh();
        b.proof("5=a0");
        b.due("c", slipsOfTen(b, "t9(i=0);c0(i=1);c4(i=0);c9(i=0)"), 4);
    }

    private static void bounds(Bench b) {
        b.proof("5=a0");
        b.minutesAre("t7(i=1)", 0);
        b.minutesAre("w7(i=0);c7(i=0)", 0);
        b.minutesAre("t500-401(1=1)", 99);
        b.minutesAre("t500-400(1=1)", 99);
        b.minutesAre("t400-401(1=1)", 0);
        b.proof("5=a0;5=a0");
        meanIs(b, "w3(i=0)", 1, 1);
        meanIs(b, "w3(i=7)", 0, 1);
        b.law("c10(i=7)");
        b.due("no c holds", b.x.copied(20), 0);
    }

    private static void parts(Bench b) {
        b.proof("5=a0");
        for (int bits = 0; bits < 8; bits++) {
            StringBuilder c = new StringBuilder();
            for (int part = 0; part < 3; part++) {
                c.append(part == 0 ? "" : "|").append((bits >> part & 1) == 1 ? "1=1" : "1=0");
            }
            b.holds(c.toString(), bits != 0);
        }
        b.holds("1=0|1=0&1=1|1=1&1=1", true);
        b.holds("1=0|1=0&1=1|1=1&1=0", false);
    }

    private static void pieces(Bench b) {
        b.proof("5=a0");
        for (int bits = 0; bits < 8; bits++) {
            StringBuilder c = new StringBuilder();
            for (int piece = 0; piece < 3; piece++) {
                c.append(piece == 0 ? "" : "&").append((bits >> piece & 1) == 1 ? "1=1" : "1=0");
            }
            b.holds(c.toString(), bits == 7);
        }
        b.holds("1=1|1=1&1=0", true);
        b.holds("1=0&1=1|1=1", true);
        b.holds("1=0&(1=1|1=1)", false);
        b.holds("(1=1|1=1)&1=0", false);
    }

    /** Three PIECES of each kind, with each of & and | between two, in clauses with an E and without. */
    private static void partsOfPieces(Bench b) {
        String[] pieces = {"1=0", "1=1", "!1=1", "!1=0", "(1=0)", "(1=1|1=0)"};
        for (int which = 0; which < 6 * 6 * 6 * 4; which++) {
            b.fresh();
            b.proof("5=a0");
            int[] chosen = {which % 6, which / 6 % 6, which / 36 % 6};
            boolean[] holds = {chosen[0] % 2 == 1, chosen[1] % 2 == 1, chosen[2] % 2 == 1};
            boolean and = which / 216 % 2 == 0;
            boolean nextAnd = which / 432 == 0;
            String c = pieces[chosen[0]] + (and ? "&" : "|") + pieces[chosen[1]] + (nextAnd ? "&" : "|") + pieces[chosen[2]];
            // In Java, too, && binds two more closely than ||.
            boolean due = and && nextAnd ? holds[0] && holds[1] && holds[2]
                    : and ? holds[0] && holds[1] || holds[2]
                    : nextAnd ? holds[0] || holds[1] && holds[2] : holds[0] || holds[1] || holds[2];
            b.law("r(" + c + ");t5(" + c + ");r(1=1)");
            b.due("MINUTES by " + c, b.x.reads(0, 2), due ? 5 : 0);
            b.holds(c, due);
            b.law("t5(" + c + ");r(1=1)");
            b.due("MINUTES by " + c + ", first", b.x.reads(0, 2), due ? 5 : 0);
        }
    }

    private static void piece(Bench b) {
        b.proof("5=a0");
        for (int left = 0; left < 3; left++) {
            b.holds(left + "<1", left < 1);
            b.holds(left + ">1", left > 1);
            b.holds(left + "=1", left == 1);
            b.holds("!" + left + "<1", left >= 1);
            b.holds("!" + left + ">1", left <= 1);
            b.holds("!!" + left + "=1", left == 1);
            b.holds("!(" + left + "=1)", left != 1);
            b.holds("(!" + left + "=1)", left != 1);
        }
        b.fresh();
        b.proof("5=a0");
        b.holds("!1=0&1=0", false);
        b.holds("!(1=0&1=0)", true);
        b.holds("!1=1|1=1", true);
        b.holds("!(1=1|1=1)", false);
        b.holds("0-1<0", true);
        b.holds("0-1>0", false);
        b.lawIs("r(1<=2)", -1004);
        b.lawIs("r(1<2<3)", -1005);
    }

    private static void fromTheLeft(Bench b) {
        b.proof("5=a0");
        b.minutesAre("t9-3-2(1=1)", 4);
        b.minutesAre("t9-3+2(1=1)", 8);
        b.minutesAre("t9-[3+2](1=1)", 4);
        b.minutesAre("t60/6/5(1=1)", 2);
        b.minutesAre("t60/6*5(1=1)", 50);
        b.minutesAre("t60/[6*5](1=1)", 2);
        b.minutesAre("t17%10%4(1=1)", 3);
        b.minutesAre("t17%[10%4](1=1)", 1);
        b.minutesAre("t3*17%10(1=1)", 1);
        b.minutesAre("t2+3*4(1=1)", 14);
        b.minutesAre("t2*3+4(1=1)", 10);
        b.minutesAre("t[2+3]*4(1=1)", 20);
        b.minutesAre("t20-2*3-4/2(1=1)", 12);
        b.minutesAre("t[[[5]]](1=1)", 5);
    }

    private static void numbers(Bench b) {
        b.proof("5=a0");
        b.minutesAre("t9(1=1)", 9);
        b.minutesAre("t00009(1=1)", 9);
        b.minutesAre("t99999-99998(1=1)", 1);
        b.minutesAre("t10000/1000(1=1)", 10);
        b.minutesAre("t12345%100(1=1)", 45);
        b.holds("99999>9999&9999>999&999>99&99>9&9>0", true);
        b.lawIs("t(1=1)", -1001);
        b.lawIs("t000000(1=1)", -2006);
        b.lawIs("t1i(1=1)", -1002);
        b.lawIs("ti1(1=1)", -1002);
        b.lawIs("tii(1=1)", -1002);
        b.lawIs("ti[1](1=1)", -1002);
    }

    /** What a letter is at each LINE, for a HEARER. */
    private static void lettersAre(Bench b, String letter, int h, int... due) {
        for (int i = 0; i < due.length; i++) {
            b.law("r(i=" + i + ");t" + letter + "(1=1)");
            b.due(letter + " at line " + i + " for " + h, b.x.reads(h, 2), due[i]);
        }
    }

    private static void ownLetters(Bench b) {
        b.proof("0=a0;96=s0;13=n1;14=+0,2;15=*3,3");
        lettersAre(b, "i", 0, 0, 1, 2, 3, 4);
        lettersAre(b, "k", 0, 0, 1, 2, 3, 4);
        lettersAre(b, "v", 0, 0, 96, 13, 14, 15);
        b.x.honest();
        lettersAre(b, "v", 0, 0, 0, 0, 0, 0);
        b.fresh();
        b.proof("5=a0" + ";5=s0".repeat(19));
        b.law("r(i=19);ti(1=1)");
        b.due("the twentieth LINE", b.x.reads(0, 2), 19);
    }

    private static void depths(Bench b) {
        b.proof("0=a0;0=a9;0=s0;0=+0,2;0=+3,0;0=*1,1;0=n4;0=+5,6;0=*6,5");
        int[] depths = {0, 0, 1, 2, 3, 1, 4, 5, 5};
        lettersAre(b, "d", 0, depths);
        for (int i = 0; i < depths.length; i++) {
            b.due("line(" + i + ", 6)", b.x.line(i, 6), depths[i]);
        }
        b.fresh();
        StringBuilder chain = new StringBuilder("0=a0");
        for (int i = 1; i < 20; i++) {
            chain.append(";0=s").append(i - 1);
        }
        b.proofIs(chain.toString(), 20);
        b.due("the deepest that can be", b.x.line(19, 6), 19);
        b.law("r(i=19);td(1=1)");
        b.due("the deepest that can be, as a letter", b.x.reads(0, 2), 19);
    }

    private static void otherLetters(Bench b) {
        b.proof("0=a1;0=a0;0=s0;0=+0,2;0=*0,0;0=n4");
        int[] users = {3, 0, 1, 0, 1, 0};
        lettersAre(b, "u", 0, users);
        for (int i = 0; i < users.length; i++) {
            b.due("line(" + i + ", 7)", b.x.line(i, 7), users[i]);
        }
        lettersAre(b, "l", 0, 6, 6, 6, 6, 6, 6);
        lettersAre(b, "m", 0, 97, 97);
        b.fresh();
        b.x.modulus(2);
        b.proof("0=a0" + ";0=s0".repeat(19));
        lettersAre(b, "u", 0, 19, 0);
        lettersAre(b, "l", 0, 20);
        lettersAre(b, "m", 0, 2);
    }

    private static void hearers(Bench b) {
        b.proof("0=a0;0=a0");
        b.law("r(1=1);th(i=1)");
        for (int h = 0; h <= 9; h++) {
            b.due("t of " + h, b.x.reads(h, 2), h);
        }
        b.due("reads(10, 2)", b.x.reads(10, 2), -1);
        b.due("reads(-1, 2)", b.x.reads(-1, 2), -1);
        for (int h = 0; h <= 9; h++) {
            b.law("r(h=" + h + ")");
            for (int other = 0; other <= 9; other++) {
                b.due("whether " + other + " is " + h, b.x.reads(other, 0), other == h ? 3 : 0);
            }
        }
        b.law("t1(1=1);wh+1(i=0);w1(1=1)");
        b.due("h in the E of w is 0", b.x.order(9, 31), 2);
        b.law("t1(1=1);w5(h>0);w1(i=0)");
        b.due("h in the C of w is 0", b.x.order(9, 31), 1);
        b.law("t1(h=9&i=0);t2(1=1);w1(i=0)");
        b.due("h in t of THE ORDER is the one", b.x.order(9, 30), 1);
        b.due("of another one", b.x.order(8, 30), 2);
        b.law("ch(1=1)");
        b.due("h in the E of c is 0", b.x.copied(20), 0);
        b.law("c10(h>0)");
        b.due("h in the C of c is 0", b.x.copied(20), 0);
        b.law("c10(h=0)");
        b.due("it is 0", b.x.copied(20), 20);
    }

    private static void bits(Bench b) {
        b.proof("5=a0");
        b.holds("65536*65536=0", true);
        b.holds("32768*65536<0", true);
        b.holds("32768*65536-1>0", true);
        b.holds("32767*65536+65535>0", true);
        b.holds("32767*65536+65535+1<0", true);
        b.holds("32767*65536+65535+1=32768*65536", true);
        b.holds("0-32768*65536=32768*65536", true);
        b.holds("32768*65536/[0-1]=32768*65536", true);
        b.holds("32768*65536%[0-1]=0", true);
        b.holds("99999*99999=14098*[99999+1]+65409", true);
        b.holds("[0-7]/2=0-3", true);
        b.holds("7/[0-2]=0-3", true);
        b.holds("[0-7]/[0-2]=3", true);
        b.holds("[0-7]%2=0-1", true);
        b.holds("7%[0-2]=1", true);
        b.holds("[0-7]%[0-2]=0-1", true);
        b.holds("0/7=0&0%7=0", true);
    }

    private static void refused(Bench b) {
        b.proof("5=a0");
        for (String c : new String[] {"1/0=0", "0/0=0", "1%0=0", "1=1/0", "1/[1-1]=0", "!1/0=0", "!(1/0=0)",
            "!1=1%0", "(1/0=0)|1=1", "!(1=1&1/0=5)", "1+[2*[3/0]]>0", "1/i=0", "1%h=0&1=1|1=1"}) {
            boolean isByHearer = c.contains("h");
            b.law("r(" + c + ")");
            b.due("0 reads by " + c, b.x.reads(0, 0), 0);
            b.due("3 reads by " + c, b.x.reads(3, 0), isByHearer ? 1 : 0);
        }
        b.minutesAre("t5/0(1=1)", 0);
        b.minutesAre("t5%0(1=1)", 0);
        b.minutesAre("t5+1/0(1=1)", 0);
        b.minutesAre("t1/0+5(1=1)", 0);
        b.minutesAre("t5+[1/0](1=1)", 0);
        b.minutesAre("t[1/0]*0+7(1=1)", 0);
        b.minutesAre("t5/[i+1](1=1)", 5);
        b.minutesAre("t5(1/0=0);t6(1=1)", 6);
        b.proof("5=a0;5=a0");
        meanIs(b, "w3/i(1=1);w7(1=1)", 1, 1);
        b.law("c10/0(1=1);c10(1=1)");
        b.due("c is 0", b.x.copied(20), 0);
    }

    private static void asMuchAsMatters(Bench b) {
        b.proof("5=a0");
        b.holds("1=1|1/0=0", true);
        b.holds("1/0=0|1=1", false);
        b.holds("1=0&1/0=0", false);
        b.holds("!(1=0&1/0=0)", true);
        b.holds("1=0&1/0=0|1=1", true);
        b.holds("1=1&1/0=0|1=1", false);
        b.holds("1=0|1=1|1/0=0", true);
        b.holds("1=0|1=0|1/0=0|1=1", false);
        b.holds("1=1|1/0=0&1/0=0", true);
        b.holds("1=0&1=1&1/0=0|1=1", true);
        b.holds("(1=1|1/0=0)&1=1", true);
        b.holds("(1=0&1/0=0)|1=1", true);
        b.holds("!(1=1|1/0=0)|1=1", true);
        b.holds("(1=1|1/0=0)&1/0=0", false);
        b.holds("!(1=0&1/0=0)&1=1", true);
    }

    /** As with THE PROOF: what cannot stand behind a beginning is FAULT 1 there, and so is the end. */
    private static void canStand(Bench b, String begin, String signs) {
        for (char sign = 0; sign < 256; sign++) {
            b.fresh();
            boolean isFault = b.law(begin + sign) == -1000 - begin.length();
            b.due("whether byte " + (int) sign + " can't stand behind " + begin, isFault, signs.indexOf(sign) < 0);
        }
        if (!begin.isEmpty()) {
            b.fresh();
            b.due("the end behind " + begin, b.law(begin), signs.equals(";") ? 1 : -1000 - begin.length());
        }
    }

    private static void whatCanStand(Bench b) {
        canStand(b, "", "rtwc");
        canStand(b, "r", "(");
        for (String letter : new String[] {"t", "w", "c"}) {
            canStand(b, letter, FACTORS);
            canStand(b, letter + "i", SUMS + "(");
        }
        canStand(b, "t1", SUMS + "(0123456789");
        canStand(b, "t12345", SUMS + "(0123456789");
        canStand(b, "t[", FACTORS);
        canStand(b, "t[i", SUMS + "]");
        canStand(b, "t[i]", SUMS + "(");
        canStand(b, "ti(", PIECES);
        for (char sign : SUMS.toCharArray()) {
            canStand(b, "ti" + sign, FACTORS);
            canStand(b, "r(i" + sign, FACTORS);
        }
        canStand(b, "r(", PIECES);
        canStand(b, "r(!", PIECES);
        canStand(b, "r((", PIECES);
        canStand(b, "r(i", SUMS + "<>=");
        canStand(b, "r(1", SUMS + "<>=0123456789");
        canStand(b, "r([i", SUMS + "]");
        canStand(b, "r([i]", SUMS + "<>=");
        for (String sign : new String[] {"<", ">", "="}) {
            canStand(b, "r(i" + sign, FACTORS);
        }
        canStand(b, "r(i=i", SUMS + "&|)");
        canStand(b, "r(!i=i", SUMS + "&|)");
        canStand(b, "r(i=1", SUMS + "&|)0123456789");
        canStand(b, "r(i=[i", SUMS + "]");
        canStand(b, "r(i=[i]", SUMS + "&|)");
        canStand(b, "r(i=i&", PIECES);
        canStand(b, "r(i=i|", PIECES);
        canStand(b, "r((i=i", SUMS + "&|)");
        canStand(b, "r((i=i)", "&|)");
        canStand(b, "r(!(i=i)", "&|)");
        canStand(b, "r(i=i)", ";");
        canStand(b, "r(i=i);", "rtwc");
        b.fresh();
        b.lawIs("x123456", -1000);
        b.lawIs("t123456x", -2006);
        b.lawIs("r(x(((((((", -1002);
        b.lawIs("r(((((((x", -5007);
    }

    private static void sixthDigit(Bench b) {
        b.lawIs("t12345(1=1)", 1);
        b.lawIs("t123456(1=1)", -2006);
        b.lawIs("t123456", -2006);
        b.lawIs("t000001(1=1)", -2006);
        b.lawIs("t1234567(1=1)", -2006);
        b.lawIs("t12345+123456(1=1)", -2012);
        b.lawIs("t[123456](1=1)", -2007);
        b.lawIs("r(123456=1)", -2007);
        b.lawIs("r(1=123456)", -2009);
        b.lawIs("r(1=12345)", 1);
        b.lawIs("t12345x", -1006);
        b.lawIs("t12345", -1006);
    }

    private static void clauseFifteen(Bench b) {
        String fourteen = "r(1=1);".repeat(14);
        for (char letter : "rtwc".toCharArray()) {
            b.lawIs(fourteen + letter, -4098);
            b.lawIs(fourteen + letter + "x", -4098);
        }
        b.lawIs(fourteen + "r(1=1)", -4098);
        b.lawIs(fourteen, -1098);
        for (char other : "ikx0(;R".toCharArray()) {
            b.lawIs(fourteen + other, -1098);
        }
        b.lawIs(fourteen.substring(0, 97), 14);
    }

    /** Five of ( and ! in any order, and [ behind them: with the ( of the CLAUSE, six are open. */
    private static void seventhOpen(Bench b) {
        for (int outer = 0; outer <= 5; outer++) {
            for (int bits = 0; bits < 1 << outer; bits++) {
                b.fresh();
                StringBuilder open = new StringBuilder("r(");
                StringBuilder close = new StringBuilder();
                for (int place = 0; place < outer; place++) {
                    boolean isNot = (bits >> place & 1) == 1;
                    open.append(isNot ? "!" : "(");
                    close.append(isNot ? "" : ")");
                }
                String inner = "[".repeat(5 - outer);
                String six = open + inner;
                b.lawIs(six + "i" + "]".repeat(5 - outer) + "=0" + close + ")", 1);
                b.lawIs(six + "[i", -5007);
                b.lawIs(open + "i=" + inner + "[i", -5000 - (open.length() + 2 + inner.length()));
                if (outer == 5) {
                    b.lawIs(six + "(i", -5007);
                    b.lawIs(six + "!i", -5007);
                }
            }
        }
    }

    private static void openOfClause(Bench b) {
        b.lawIs("r(((((((", -5007);
        b.lawIs("r(((((([", -5007);
        b.lawIs("r((((((!", -5007);
        b.lawIs("r((((((i=0))))))", 1);
        b.lawIs("t1(((((((", -5008);
        b.lawIs("t1((((((i=0))))))", 1);
        b.lawIs("r((((((i=0))))));r(((((((", -5024);
    }

    private static void openNot(Bench b) {
        b.lawIs("r(!!!!!i=0)", 1);
        b.lawIs("r(!!!!!!", -5007);
        b.lawIs("r(!!!!!i=0&!!!!!i=0|!!!!!i=0)", 1);
        b.lawIs("r(!!!!!i=0&!!!!!!", -5016);
        b.lawIs("r(!!!!(i=0)&!!!!(i=0))", 1);
        b.lawIs("r(!(i=0)&((((((", -5014);
        b.lawIs("r(!(i=0)&(((((i=0))))))", 1);
        b.lawIs("r(!(i=0&!!!(", -5011);
        b.lawIs("r(!(i=0&!!(i=0)&!!(i=1)))", 1);
        b.lawIs("r(!!!!!i=[", -5009);
        b.lawIs("r(!!!!i=[i]&i=[[[[[i]]]]])", 1);
        b.lawIs("r(!!!!i=[[", -5009);
    }

    private static void openAhead(Bench b) {
        b.lawIs("t[[[[[[1]]]]]](1=1)", 1);
        b.lawIs("t[[[[[[[1", -5007);
        b.lawIs("t[[[[[[1]]]]]]((((((1=1))))))", 1);
        b.lawIs("t[[[[[[1]]]]]](((((((1", -5020);
        b.lawIs("t[[[[[[1]]]]]]+[[[[[[1]]]]]](1=1)", 1);
        b.lawIs("t[[[[[[1]]]]]]+[[[[[[[1", -5021);
        b.lawIs("w[[[[[[[1", -5007);
        b.lawIs("r(1=1);c[[[[[[[1", -5014);
    }

    private static void firstBytesAlone(Bench b) {
        b.proof("5=a0");
        b.feed("r(1=1);t1(1=1)");
        b.due("law(6)", b.x.law(6), 1);
        b.feed("r(1=1);t1(1=1)");
        b.due("law(14)", b.x.law(14), 2);
        b.feed("r(1=1);t1(1=1)");
        b.due("law(7)", b.x.law(7), -1007);
        b.feed("r(1=1);t1(1=1)");
        b.due("law(5)", b.x.law(5), -1005);
        b.feed("t123456(1=1)");
        b.due("law(6) of six digits", b.x.law(6), -1006);
    }

    private static void lawLengths(Bench b) {
        b.feed("r(1=1)");
        b.due("law(1)", b.x.law(1), -1001);
        b.due("empty behind a FAULT", b.x.count(2), 0);
        b.feed("r(1=1)");
        b.due("law(6)", b.x.law(6), 1);
        b.due("empty", b.x.count(2), 0);
        b.due("nothing is left", b.x.law(6), -1);
        b.feed("r(1=1)" + "x".repeat(214));
        b.due("law(200) of 220", b.x.law(200), -1006);
        b.due("empty of all 220", b.x.count(2), 0);
        b.feed("t1(1=1)");
        b.due("law(7)", b.x.law(7), 1);
    }

    private static void inPlace(Bench b) {
        b.proof("5=a0");
        b.lawIs("r(1=1);t5(1=1);t6(1=1)", 3);
        b.due("minutes", b.x.reads(0, 2), 5);
        b.lawIs("r(i=0)", 1);
        b.due("count(1)", b.x.count(1), 1);
        b.due("no minutes any more", b.x.reads(0, 2), 0);
        b.lawIs("t7(1=1)", 1);
        b.due("nobody reads any more", b.x.reads(0, 0), 0);
        b.lawIs("r(v=5)", 1);
        b.due("hidden by a claim", b.x.hidden(1, 1), 1);
        b.lawIs("r(!v=7)", 1);
        b.due("hidden by another claim", b.x.hidden(1, 1), 7);
        b.due("THE PROOF stays", b.claims(), 5);
    }

    private static void faultLeavesLaw(Bench b) {
        b.proof("5=a0;6=a0");
        b.lawIs("r(i=1);t8+h(v=6);w3(1=1)", 3);
        String[] texts = {"x", "r(1=1);t9(1=1)x", "t123456", "r(1=1);".repeat(14) + "r", "r(((((((", "r(1=1);"};
        int[] faults = {-1000, -1014, -2006, -4098, -5007, -1007};
        for (int i = 0; i < texts.length; i++) {
            b.lawIs(texts[i], faults[i]);
            b.due("CLAUSES stay", b.x.count(1), 3);
            b.due("who reads stays", b.x.reads(1, 0), 2);
            b.due("MINUTES stay", b.x.reads(1, 2), 9);
            b.due("w stays", b.x.order(0, 30), 4);
        }
    }

    private static void noSuchLength(Bench b) {
        b.lawIs("r(1=1);r(1=1)", 2);
        b.feed("r(1=1);t1(1=1);r(1=1");
        for (int n : new int[] {0, -1, -6, 21, 22, 200, 201, Integer.MAX_VALUE, Integer.MIN_VALUE}) {
            b.due("law(" + n + ")", b.x.law(n), -1);
            b.due("the tape stays", b.x.count(2), 20);
            b.due("THE LAW stays", b.x.count(1), 2);
        }
        b.due("law(20), all it has", b.x.law(20), -1020);
        b.due("of an empty tape: law(1)", b.x.law(1), -1);
    }
}
