/**
 * A school of proofs with just one mistake in each. What every call answers stands in the
 * document (shared/DOC.md); its words in capitals are used here as they are there.
 *
 * All rows are made in the constructors and used again: no call makes an object.
 */
public final class OneSlip {
    public static final int NONE = -1;

    private static final int NO_SUCH_THING = -2;
    private static final int NO_POINTS = -1000;

    private static final int MAX_LINES = 20;
    private static final int MAX_MODULUS = 97;
    private static final int MAX_TEXT = 200;
    private static final int MAX_TAPE = 220;
    private static final int MAX_CLAUSES = 14;
    private static final int MAX_OPEN = 6;
    private static final int MAX_DIGITS = 5;
    private static final int MAX_NUMBERS = 20;
    private static final int MAX_TIMES = 20;
    private static final int MAX_COPIES = 5;
    private static final int MAX_CANCEL_LINES = 8;
    private static final int MAX_POINTS = 99;
    private static final int MAX_MINUTES = 99;
    private static final int MAX_LIKELY = 99;
    private static final int MAX_TENTHS = 10;
    private static final int AXIOMS = 10;
    private static final int HEARERS = 10;
    private static final int ALL_HEARERS = 1023;
    private static final int PUPILS = 8;
    private static final int MEAN_ABOVE = 30;
    private static final int MEAN_BELOW = 31;

    private static final int KIND_AXIOM = 0;
    private static final int KIND_SAME = 1;
    private static final int KIND_NEGATIVE = 2;
    private static final int KIND_SUM = 3;
    private static final int KIND_PRODUCT = 4;
    private static final String KINDS = "asn+*";

    private final Tape tape = new Tape();
    private final School now = new School();
    private final School kept = new School();
    private boolean wasKept = false;
    private final ProofReader proofReader = new ProofReader(tape);
    private final LawReader lawReader = new LawReader(tape);
    private final Law law = new Law();
    private final int[] truth = new int[MAX_LINES];
    private final int[] row = new int[MAX_LINES];
    private final int[] readBy = new int[HEARERS];
    private final int[] found = new int[4];
    private final Canceller canceller = new Canceller();
    private final Cutter cutter = new Cutter();
    private final Cover cover = new Cover();
    private final Ranking ranking = new Ranking();
    private final Copies copies = new Copies();

    public OneSlip() {
    }

    public boolean modulus(int m) {
        if (m < 2 || m > MAX_MODULUS) {
            return false;
        }
        now.reckonBy(m);
        return true;
    }

    public boolean axiom(int a, int v) {
        if (a < 0 || a >= AXIOMS || !now.isClaim(v)) {
            return false;
        }
        put(now.axioms, a, v);
        return true;
    }

    public int feed(int a, int b, int c, int d, int e) {
        if (tape.size + 20 > MAX_TAPE) {
            return NONE;
        }
        tape.append(a);
        tape.append(b);
        tape.append(c);
        tape.append(d);
        tape.append(e);
        return tape.size;
    }

    public int proof(int n) {
        if (n < 1 || n > MAX_TEXT || n > tape.size) {
            return NONE;
        }
        int answer = proofReader.readProof(n, now.modulus);
        tape.clear();
        if (answer > 0) {
            now.proof.become(proofReader.fresh);
        }
        return answer;
    }

    public int law(int n) {
        if (n < 1 || n > MAX_TEXT || n > tape.size) {
            return NONE;
        }
        int answer = lawReader.readLaw(n);
        tape.clear();
        if (answer > 0) {
            law.become(lawReader.fresh);
        }
        return answer;
    }

    public int line(int i, int what) {
        if (!now.proof.holds(i)) {
            return NONE;
        }
        switch (what) {
            case 0:
                return now.claimOf(i);
            case 1:
                return at(now.proof.kind, i);
            case 2:
                return at(now.proof.first, i);
            case 3:
                return at(now.proof.second, i);
            case 4:
                now.workOn(0, truth);
                return at(truth, i);
            case 5:
                return now.made(i, now.proof.claim);
            case 6:
                return at(now.proof.depth, i);
            case 7:
                return at(now.proof.users, i);
            case 8:
                return now.isWrong(i) ? 1 : 0;
            default:
                return NONE;
        }
    }

    public int wrong() {
        return now.wrongLines();
    }

    public int untrue() {
        now.workOn(0, truth);
        return differing(now.proof.claim, truth, now.proof.size);
    }

    public int slip(int i, int v) {
        if (!now.proof.holds(i) || !now.isClaim(v)) {
            return NONE;
        }
        copyRow(now.proof.claim, row);
        now.slipIn(i, v, row);
        return at(row, now.proof.last());
    }

    public int honest() {
        now.workOn(0, truth);
        int changed = differing(now.proof.claim, truth, now.proof.size);
        copyRow(truth, now.proof.claim);
        return Integer.bitCount(changed);
    }

    public int mended(int what) {
        if (what < 0 || what > 2 || now.wrongLines() == 0) {
            return NONE;
        }
        forgetFound();
        for (int line = 0; line < now.proof.size; line++) {
            // Only its RULE's number can be right for a LINE, so only WRONG ones have a way.
            if (now.isWrong(line) && isMendedBy(line)) {
                noteFound(line, now.made(line, now.proof.claim), NO_SUCH_THING);
            }
        }
        return at(found, what);
    }

    public int referred(int what) {
        if (what < 0 || what > 3 || now.wrongLines() == 0) {
            return NONE;
        }
        forgetFound();
        for (int line = 0; line < now.proof.size; line++) {
            // Another REFERENCE rights no LINE but its own, so that one must be the only WRONG one.
            if (now.wrongLines() == bit(line)) {
                referElsewhere(line, 0);
                referElsewhere(line, 1);
            }
        }
        return at(found, what);
    }

    public int reads(int h, int what) {
        if (h < 0 || h >= HEARERS || what < 0 || what > 2) {
            return NONE;
        }
        int read = linesReadBy(h);
        if (what == 0) {
            return read;
        }
        return what == 1 ? read & now.wrongLines() : minutesFor(h, read);
    }

    public int hidden(int hearers, int what) {
        if (!areHearers(hearers) || hearers == 0 || what < 0 || what > 2 || now.proof.size == 0) {
            return NONE;
        }
        now.workOn(0, truth);
        forgetFound();
        int fewest = HEARERS + 1;
        for (int line = 0; line < now.proof.size && fewest > 0; line++) {
            fewest = hideAt(line, hearers, fewest);
        }
        return what == 2 ? fewest : at(found, what + 1);
    }

    public int unread(int hearers) {
        if (!areHearers(hearers)) {
            return NONE;
        }
        int left = now.proof.allLines();
        for (int h = 0; h < HEARERS; h++) {
            if (isIn(hearers, h)) {
                left &= ~linesReadBy(h);
            }
        }
        return left;
    }

    public int readers(int hearers, int what) {
        if (!areHearers(hearers) || what < 0 || what > 1) {
            return NONE;
        }
        for (int h = 0; h < HEARERS; h++) {
            put(readBy, h, isIn(hearers, h) ? linesReadBy(h) : 0);
        }
        int best = NO_SUCH_THING;
        int fewest = HEARERS + 1;
        for (int some = 0; some <= hearers; some++) {
            if ((some & ~hearers) == 0 && Integer.bitCount(some) < fewest && readAll(some)) {
                best = some;
                fewest = Integer.bitCount(some);
            }
        }
        return best >= 0 && what == 0 ? fewest : best;
    }

    public int blind(int i) {
        if (!now.proof.holds(i)) {
            return NONE;
        }
        now.workOn(0, truth);
        int last = now.proof.last();
        int ways = 0;
        for (int claim = 0; claim < now.modulus; claim++) {
            if (claim != at(truth, i)) {
                copyRow(truth, row);
                now.slipIn(i, claim, row);
                ways += at(row, last) == at(truth, last) ? 1 : 0;
            }
        }
        return ways;
    }

    public int cancel(int what) {
        int size = now.proof.size;
        if (what < 0 || what > 4 || size == 0 || size > MAX_CANCEL_LINES) {
            return NONE;
        }
        return canceller.answer(now, what);
    }

    public int stands(int i, int what) {
        if (!now.proof.holds(i) || what < 0 || what > 1) {
            return NONE;
        }
        return what == 0 ? now.proof.standingOn(i) : at(now.proof.needs, i);
    }

    public int anew(int i, int lines, int what) {
        if (!now.proof.holds(i) || (lines & ~now.proof.allLines()) != 0 || isIn(lines, i)
                || what < 0 || what > 1) {
            return NONE;
        }
        for (int line = 0; line < now.proof.size; line++) {
            if (isIn(lines, line) && now.proof.has(line, i)) {
                return NO_SUCH_THING;
            }
        }
        int cut = cutter.leastCut(now.proof, i, lines);
        return what == 0 ? Integer.bitCount(cut) : cut;
    }

    public int added(int what) {
        if (what < 0 || what > 1 || now.proof.size == 0) {
            return NONE;
        }
        int least = cover.leastLines(now);
        return what == 0 ? Integer.bitCount(least) : least;
    }

    public long order(int h, int what) {
        boolean isPlace = now.proof.holds(what);
        boolean isMean = what == MEAN_ABOVE || what == MEAN_BELOW;
        if (h < 0 || h >= HEARERS || now.proof.size == 0 || !isPlace && !isMean) {
            return NONE;
        }
        for (int line = 0; line < now.proof.size; line++) {
            put(ranking.minutes, line, amountAt('t', line, h));
            put(ranking.likely, line, amountAt('w', line, 0));
        }
        ranking.rank(now.proof.size);
        if (isMean) {
            return what == MEAN_ABOVE ? ranking.above : ranking.below;
        }
        return at(ranking.order, what);
    }

    public boolean seed(int x) {
        if (x < 0 || x > 65535) {
            return false;
        }
        now.x = x;
        return true;
    }

    public int copied(int n) {
        if (n < 1 || n > MAX_TIMES || now.proof.size == 0) {
            return NONE;
        }
        int slips = 0;
        for (int time = 0; time < n; time++) {
            slips += copyOnce() ? 1 : 0;
        }
        return slips;
    }

    public int author(int k, int what) {
        int size = now.proof.size;
        if (k < 1 || k > MAX_COPIES || what < 0 || what > 2 || size == 0 || k * size > tape.size) {
            return NONE;
        }
        copies.takeFrom(tape.bytes, k, now);
        tape.clear();
        now.workOn(0, truth);
        forgetFound();
        for (int line = 0; line < size; line++) {
            for (int claim = 0; claim < now.modulus; claim++) {
                if (claim != at(truth, line) && allCopiesCome(line, claim)) {
                    noteFound(line, claim, NO_SUCH_THING);
                }
            }
        }
        return at(found, what);
    }

    public int corrects(int p, int i, int v) {
        if (!isPupil(p) || !now.proof.holds(i) || !now.isClaim(v)) {
            return NO_POINTS;
        }
        boolean right = now.isWrong(i) && v == now.made(i, now.proof.claim);
        if (right) {
            now.slipIn(i, v, now.proof.claim);
        }
        int after = at(now.points, p) + (right ? 1 : -1);
        put(now.points, p, within(after, -MAX_POINTS, MAX_POINTS));
        return at(now.points, p);
    }

    public int points(int p) {
        return isPupil(p) ? at(now.points, p) : NO_POINTS;
    }

    public int keep() {
        kept.become(now);
        wasKept = true;
        return now.proof.size;
    }

    public boolean undo() {
        if (!wasKept) {
            return false;
        }
        now.become(kept);
        return true;
    }

    public int check(int n) {
        if (n < 0 || n > MAX_NUMBERS || 4 * n > tape.size) {
            return NO_SUCH_THING;
        }
        int notSo = NONE;
        for (int place = 0; place < n && notSo == NONE; place++) {
            if (!now.proof.holds(place) || tape.number(place) != now.claimOf(place)) {
                notSo = place;
            }
        }
        tape.clear();
        return notSo;
    }

    public int count(int what) {
        if (what >= 10 && what < 10 + AXIOMS) {
            return at(now.axioms, what - 10);
        }
        switch (what) {
            case 0:
                return now.proof.size;
            case 1:
                return law.clauses;
            case 2:
                return tape.size;
            case 3:
                return now.x;
            case 4:
                return now.modulus;
            case 5:
                return line(now.proof.last(), 0);
            case 6:
                return line(now.proof.last(), 4);
            default:
                return NONE;
        }
    }

    private static boolean isPupil(int p) {
        return p >= 0 && p < PUPILS;
    }

    private static boolean areHearers(int hearers) {
        return hearers >= 0 && hearers <= ALL_HEARERS;
    }

    private void forgetFound() {
        put(found, 0, 0);
        for (int place = 1; place < found.length; place++) {
            put(found, place, NO_SUCH_THING);
        }
    }

    /** Counts one more way; the first that comes is the one that is told. */
    private void noteFound(int a, int b, int c) {
        if (at(found, 0) == 0) {
            put(found, 1, a);
            put(found, 2, b);
            put(found, 3, c);
        }
        put(found, 0, at(found, 0) + 1);
    }

    private boolean isMendedBy(int line) {
        copyRow(now.proof.claim, row);
        put(row, line, now.made(line, row));
        for (int other = 0; other < now.proof.size; other++) {
            if (at(row, other) != now.made(other, row)) {
                return false;
            }
        }
        return true;
    }

    private void referElsewhere(int line, int place) {
        int kind = at(now.proof.kind, line);
        if (kind == KIND_AXIOM || place == 1 && kind < KIND_SUM) {
            return;
        }
        int first = at(now.proof.first, line);
        int second = at(now.proof.second, line);
        for (int other = 0; other < line; other++) {
            boolean isOther = other != (place == 0 ? first : second);
            int made = now.madeOf(kind, place == 0 ? other : first, place == 1 ? other : second,
                    now.proof.claim);
            if (isOther && made == now.claimOf(line)) {
                noteFound(line, place, other);
            }
        }
    }

    private int linesReadBy(int h) {
        int read = 0;
        for (int line = 0; line < now.proof.size; line++) {
            law.lookAt(now, line, now.claimOf(line), h);
            if (law.isRead()) {
                read |= bit(line);
            }
        }
        return read;
    }

    private int amountAt(char letter, int line, int h) {
        law.lookAt(now, line, now.claimOf(line), h);
        return law.amount(letter, letter == 't' ? MAX_MINUTES : letter == 'w' ? MAX_LIKELY : MAX_TENTHS);
    }

    private int minutesFor(int h, int lines) {
        int minutes = 0;
        for (int line = 0; line < now.proof.size; line++) {
            if (isIn(lines, line)) {
                minutes += amountAt('t', line, h);
            }
        }
        return minutes;
    }

    /** Looks for a SLIP here that fewer find than the fewest so far: how many find it then. */
    private int hideAt(int line, int hearers, int fewestSoFar) {
        int fewest = fewestSoFar;
        boolean asked = false;
        for (int claim = 0; claim < now.modulus && fewest > 0; claim++) {
            // A law that never asks the CLAIM answers alike for all others of this LINE.
            if (claim != at(truth, line) && (!asked || law.asksClaim)) {
                asked = true;
                int finders = findersOf(line, claim, hearers, fewest);
                if (finders < fewest) {
                    fewest = finders;
                    put(found, 1, line);
                    put(found, 2, claim);
                }
            }
        }
        return fewest;
    }

    private int findersOf(int line, int claim, int hearers, int enough) {
        int finders = 0;
        for (int h = 0; h < HEARERS && finders < enough; h++) {
            if (isIn(hearers, h)) {
                law.lookAt(now, line, claim, h);
                finders += law.isRead() ? 1 : 0;
            }
        }
        return finders;
    }

    private boolean readAll(int hearers) {
        int read = 0;
        for (int h = 0; h < HEARERS; h++) {
            if (isIn(hearers, h)) {
                read |= at(readBy, h);
            }
        }
        return read == now.proof.allLines();
    }

    private boolean copyOnce() {
        now.drawNext();
        int line = now.proof.size > 0 ? now.x % now.proof.size : 0;
        if (now.x / 32 % 10 >= amountAt('c', line, 0)) {
            return false;
        }
        int others = Math.max(1, now.modulus - 1);
        int claim = now.modulo(now.claimOf(line) + 1 + now.x / 512 % others);
        now.slipIn(line, claim, now.proof.claim);
        return true;
    }

    private boolean allCopiesCome(int line, int claim) {
        copyRow(truth, row);
        now.slipIn(line, claim, row);
        return copies.allComeFrom(row);
    }

    private static int at(int[] numbers, int index) {
        return index >= 0 && index < numbers.length ? numbers[index] : 0;
    }

    private static void put(int[] numbers, int index, int number) {
        if (index >= 0 && index < numbers.length) {
            numbers[index] = number;
        }
    }

    private static void copyRow(int[] from, int[] to) {
        for (int i = 0; i < from.length && i < to.length; i++) {
            to[i] = from[i];
        }
    }

    private static int bit(int place) {
        return 1 << place;
    }

    private static boolean isIn(int bits, int place) {
        return (bits >> place & 1) != 0;
    }

    private static int within(int number, int least, int most) {
        return Math.max(least, Math.min(most, number));
    }

    /** The places below size where two rows differ, as bits. */
    private static int differing(int[] some, int[] others, int size) {
        int bits = 0;
        for (int i = 0; i < size; i++) {
            if (at(some, i) != at(others, i)) {
                bits |= bit(i);
            }
        }
        return bits;
    }

    /** The bytes that have been fed; as a TEXT they are gone through from the left, to the first FAULT. */
    private static final class Tape {
        private static final int MISPLACED = 1;

        final int[] bytes = new int[MAX_TAPE];
        int size = 0;
        int place = 0;
        // The byte at the place; -1 at the end, which is like no byte.
        int sign = -1;
        int fault = 0;
        private int textLength = 0;

        void append(int four) {
            for (int shift = 24; shift >= 0; shift -= 8) {
                put(bytes, size, four >> shift & 255);
                size++;
            }
        }

        int number(int which) {
            int number = 0;
            for (int i = 0; i < 4; i++) {
                number = number << 8 | at(bytes, 4 * which + i);
            }
            return number;
        }

        void clear() {
            size = 0;
        }

        void beginText(int n) {
            textLength = n;
            fault = 0;
            place = -1;
            step();
        }

        void step() {
            place++;
            sign = place >= 0 && place < textLength && place < bytes.length ? bytes[place] : -1;
        }

        boolean isSound() {
            return fault == 0;
        }

        boolean isAtEnd() {
            return place >= textLength;
        }

        boolean isAtDigit() {
            return sign >= '0' && sign <= '9';
        }

        /** Where the byte stands among some signs; -1 if it is none of them. */
        int among(String signs) {
            return sign < 0 ? -1 : signs.indexOf((char) sign);
        }

        void expect(char wanted) {
            if (sign == wanted) {
                step();
            } else {
                failHere();
            }
        }

        void failHere() {
            if (fault == 0) {
                fault = 1000 * MISPLACED + place;
            }
        }

        void fail(int number, int where) {
            if (fault == 0) {
                fault = 1000 * number + where;
            }
        }
    }

    /** LINES: their CLAIMS, and what follows from their RULES alone. */
    private static final class Proof {
        int size = 0;
        final int[] claim = new int[MAX_LINES];
        final int[] kind = new int[MAX_LINES];
        final int[] first = new int[MAX_LINES];
        final int[] second = new int[MAX_LINES];
        final int[] depth = new int[MAX_LINES];
        final int[] users = new int[MAX_LINES];
        final int[] needs = new int[MAX_LINES];

        void clear() {
            size = 0;
        }

        void become(Proof other) {
            size = other.size;
            copyRow(other.claim, claim);
            copyRow(other.kind, kind);
            copyRow(other.first, first);
            copyRow(other.second, second);
            copyRow(other.depth, depth);
            copyRow(other.users, users);
            copyRow(other.needs, needs);
        }

        /** One LINE more; one beyond the last place is left out (the reader tells that FAULT). */
        void add(int itsClaim, int itsKind, int itsFirst, int itsSecond) {
            if (size >= MAX_LINES) {
                return;
            }
            int line = size;
            size++;
            put(claim, line, itsClaim);
            put(kind, line, itsKind);
            put(first, line, itsFirst);
            put(second, line, itsSecond);
            put(depth, line, 0);
            put(users, line, 0);
            put(needs, line, 0);
            if (itsKind != KIND_AXIOM) {
                lean(line, itsFirst);
            }
            if (itsKind >= KIND_SUM && itsSecond != itsFirst) {
                lean(line, itsSecond);
            }
        }

        private void lean(int line, int other) {
            put(depth, line, Math.max(at(depth, line), at(depth, other) + 1));
            put(needs, line, at(needs, line) | at(needs, other) | bit(other));
            put(users, other, at(users, other) + 1);
        }

        boolean holds(int line) {
            return line >= 0 && line < size;
        }

        int last() {
            return size - 1;
        }

        int allLines() {
            return bit(size) - 1;
        }

        boolean has(int line, int other) {
            int itsKind = at(kind, line);
            return itsKind != KIND_AXIOM && at(first, line) == other
                    || itsKind >= KIND_SUM && at(second, line) == other;
        }

        int standingOn(int line) {
            int bits = 0;
            for (int other = line + 1; other < size; other++) {
                if (isIn(at(needs, other), line)) {
                    bits |= bit(other);
                }
            }
            return bits;
        }
    }

    /** All that is KEPT and UNDONE, and the reckoning with it. */
    private static final class School {
        int modulus = MAX_MODULUS;
        int x = 1;
        final int[] axioms = new int[AXIOMS];
        final int[] points = new int[PUPILS];
        final Proof proof = new Proof();

        void become(School other) {
            modulus = other.modulus;
            x = other.x;
            copyRow(other.axioms, axioms);
            copyRow(other.points, points);
            proof.become(other.proof);
        }

        void reckonBy(int newModulus) {
            modulus = newModulus;
            proof.clear();
            for (int a = 0; a < AXIOMS; a++) {
                put(axioms, a, modulo(at(axioms, a)));
            }
        }

        void drawNext() {
            x = (25173 * x + 13849) & 65535;
        }

        int modulo(int number) {
            return modulus > 0 ? number % modulus : 0;
        }

        boolean isClaim(int number) {
            return number >= 0 && number < modulus;
        }

        int claimOf(int line) {
            return at(proof.claim, line);
        }

        int made(int line, int[] claims) {
            return madeOf(at(proof.kind, line), at(proof.first, line), at(proof.second, line), claims);
        }

        int madeOf(int kind, int first, int second, int[] claims) {
            switch (kind) {
                case KIND_AXIOM:
                    return at(axioms, first);
                case KIND_SAME:
                    return at(claims, first);
                case KIND_NEGATIVE:
                    return modulo(modulus - at(claims, first));
                case KIND_SUM:
                    return modulo(at(claims, first) + at(claims, second));
                case KIND_PRODUCT:
                    return modulo(at(claims, first) * at(claims, second));
                default:
                    return 0;
            }
        }

        /** All LINES from one on get what their RULES make: from 0 on, their TRUTHS. */
        void workOn(int from, int[] claims) {
            for (int line = from; line < proof.size; line++) {
                put(claims, line, made(line, claims));
            }
        }

        void slipIn(int line, int claim, int[] claims) {
            put(claims, line, claim);
            workOn(line + 1, claims);
        }

        boolean isWrong(int line) {
            return claimOf(line) != made(line, proof.claim);
        }

        int wrongLines() {
            int bits = 0;
            for (int line = 0; line < proof.size; line++) {
                if (isWrong(line)) {
                    bits |= bit(line);
                }
            }
            return bits;
        }
    }

    /** Reads a PROOF from the tape into one of its own, so that the one before can stay. */
    private static final class ProofReader {
        private static final int CLAIM_TOO_HIGH = 3;
        private static final int LINE_TOO_MANY = 4;
        private static final int LINE_NOT_AHEAD = 6;

        final Proof fresh = new Proof();
        private final Tape tape;

        ProofReader(Tape itsTape) {
            tape = itsTape;
        }

        /** How many LINES it has, or the FAULT of its TEXT. */
        int readProof(int n, int modulus) {
            tape.beginText(n);
            fresh.clear();
            for (int line = 0; line <= MAX_LINES; line++) {
                readLine(line, modulus);
                if (tape.isSound() && tape.isAtEnd()) {
                    return fresh.size;
                }
                tape.expect(';');
                if (!tape.isSound()) {
                    return -tape.fault;
                }
            }
            return -tape.fault;
        }

        private void readLine(int line, int modulus) {
            if (tape.isAtDigit() && line == MAX_LINES) {
                tape.fail(LINE_TOO_MANY, tape.place);
            }
            int claim = number(modulus, CLAIM_TOO_HIGH);
            tape.expect('=');
            int kind = tape.among(KINDS);
            if (kind < 0) {
                tape.failHere();
            }
            tape.step();
            int first = kind == KIND_AXIOM ? digit() : number(line, LINE_NOT_AHEAD);
            int second = NO_SUCH_THING;
            if (kind >= KIND_SUM) {
                tape.expect(',');
                second = number(line, LINE_NOT_AHEAD);
            }
            if (tape.isSound()) {
                fresh.add(claim, kind, first, second);
            }
        }

        private int digit() {
            if (!tape.isAtDigit()) {
                tape.failHere();
                return 0;
            }
            int digit = tape.sign - '0';
            tape.step();
            return digit;
        }

        private int number(int limit, int faultBeyond) {
            int start = tape.place;
            int number = digit();
            if (tape.isSound() && tape.isAtDigit()) {
                number = 10 * number + digit();
            }
            if (number >= limit) {
                tape.fail(faultBeyond, start);
            }
            return number;
        }
    }

    /**
     * CLAUSES as a code for a machine with a stack: a word is an operation and, above its low
     * four bits, a number. The code of a C stands behind the code of its CLAUSE's E.
     */
    private static final class Law {
        static final int PUSH = 0;
        static final int FACT = 1;
        static final int NOT = 2;
        static final int AND = 3;
        static final int OR = 4;
        static final int BINARY = 5;
        static final String BINARIES = "+-*/%<>=";
        static final String FACTS = "ikvdulmh";
        private static final int BITS = 4;
        // Two pending numbers for each [ and a few for the E outside are all that can wait.
        private static final int STACK = 32;

        int clauses = 0;
        boolean asksClaim = false;
        private int length = 0;
        private boolean refused = false;
        private int top = 0;
        private final int[] code = new int[MAX_TEXT];
        private final int[] letters = new int[MAX_CLAUSES];
        private final int[] valueStarts = new int[MAX_CLAUSES + 1];
        private final int[] conditionStarts = new int[MAX_CLAUSES];
        private final int[] facts = new int[8];
        private final int[] stack = new int[STACK];

        void clear() {
            clauses = 0;
            asksClaim = false;
            length = 0;
        }

        void become(Law other) {
            clauses = other.clauses;
            asksClaim = other.asksClaim;
            length = other.length;
            copyRow(other.code, code);
            copyRow(other.letters, letters);
            copyRow(other.valueStarts, valueStarts);
            copyRow(other.conditionStarts, conditionStarts);
        }

        void openClause(int letter) {
            put(letters, clauses, letter);
        }

        void openCondition() {
            put(conditionStarts, clauses, length);
        }

        /** Where a CLAUSE ends, the E of the next one starts. */
        void closeClause() {
            clauses++;
            put(valueStarts, clauses, length);
        }

        int emit(int operation, int number) {
            put(code, length, number << BITS | operation);
            length++;
            return length - 1;
        }

        /** A jump that was emitted with no aim goes to the end of the code so far. */
        void aimHere(int jump) {
            if (jump >= 0) {
                put(code, jump, at(code, jump) | length << BITS);
            }
        }

        void lookAt(School school, int line, int claim, int hearer) {
            Proof proof = school.proof;
            put(facts, 0, line);
            put(facts, 1, at(proof.kind, line));
            put(facts, 2, claim);
            put(facts, 3, at(proof.depth, line));
            put(facts, 4, at(proof.users, line));
            put(facts, 5, proof.size);
            put(facts, 6, school.modulus);
            put(facts, 7, hearer);
        }

        boolean isRead() {
            for (int clause = 0; clause < clauses; clause++) {
                if (at(letters, clause) == 'r' && conditionHolds(clause)) {
                    return true;
                }
            }
            return false;
        }

        int amount(char letter, int most) {
            for (int clause = 0; clause < clauses; clause++) {
                if (at(letters, clause) == letter && conditionHolds(clause)) {
                    int value = run(at(valueStarts, clause), at(conditionStarts, clause));
                    return within(value, 0, most);
                }
            }
            return 0;
        }

        private boolean conditionHolds(int clause) {
            return run(at(conditionStarts, clause), at(valueStarts, clause + 1)) != 0;
        }

        /** What is REFUSED anywhere makes the whole 0: a C that does not hold, an E of 0. */
        private int run(int from, int to) {
            refused = false;
            top = 0;
            int place = from;
            for (int step = 0; step < MAX_TEXT && place < to && !refused; step++) {
                int operation = at(code, place) & (1 << BITS) - 1;
                int number = at(code, place) >> BITS;
                place++;
                if (operation == PUSH) {
                    push(number);
                } else if (operation == FACT) {
                    push(at(facts, number));
                } else if (operation == NOT) {
                    push(1 - pop());
                } else if (operation == AND || operation == OR) {
                    int holds = pop();
                    if (holds == (operation == OR ? 1 : 0)) {
                        push(holds);
                        place = number;
                    }
                } else {
                    int right = pop();
                    push(joined(operation - BINARY, pop(), right));
                }
            }
            return refused ? 0 : pop();
        }

        private int joined(int binary, int left, int right) {
            switch (binary) {
                case 0:
                    return left + right;
                case 1:
                    return left - right;
                case 2:
                    return left * right;
                case 3:
                    refused = refused || right == 0;
                    return right == 0 ? 0 : left / right;
                case 4:
                    refused = refused || right == 0;
                    return right == 0 ? 0 : left % right;
                case 5:
                    return left < right ? 1 : 0;
                case 6:
                    return left > right ? 1 : 0;
                default:
                    return left == right ? 1 : 0;
            }
        }

        private void push(int number) {
            put(stack, top, number);
            top++;
        }

        private int pop() {
            top = Math.max(0, top - 1);
            return at(stack, top);
        }
    }

    /** Reads a LAW from the tape into one of its own, so that the one before can stay. */
    private static final class LawReader {
        private static final int DIGIT_TOO_MANY = 2;
        private static final int CLAUSE_TOO_MANY = 4;
        private static final int OPEN_TOO_MANY = 5;
        private static final String CLAUSE_LETTERS = "rtwc";
        private static final String COMPARISONS = "<>=";

        final Law fresh = new Law();
        private final Tape tape;
        private int letter = 0;

        LawReader(Tape itsTape) {
            tape = itsTape;
        }

        /** How many CLAUSES it has, or the FAULT of its TEXT. */
        int readLaw(int n) {
            tape.beginText(n);
            fresh.clear();
            for (int clause = 0; clause <= MAX_CLAUSES; clause++) {
                readLetter(clause);
                if (letter != 'r') {
                    readSum(0);
                }
                fresh.openCondition();
                tape.expect('(');
                readChoice(1);
                tape.expect(')');
                if (tape.isSound()) {
                    fresh.closeClause();
                }
                if (tape.isSound() && tape.isAtEnd()) {
                    return fresh.clauses;
                }
                tape.expect(';');
                if (!tape.isSound()) {
                    return -tape.fault;
                }
            }
            return -tape.fault;
        }

        private void readLetter(int clause) {
            if (tape.among(CLAUSE_LETTERS) < 0) {
                tape.failHere();
            } else if (clause == MAX_CLAUSES) {
                tape.fail(CLAUSE_TOO_MANY, tape.place);
            }
            letter = tape.sign;
            tape.step();
            fresh.openClause(letter);
        }

        /** A C: each jump leads behind the next PART (|) or PIECE (&), which it leaves unasked. */
        private void readChoice(int open) {
            int or = -1;
            for (int part = 0; part < MAX_TEXT && tape.isSound(); part++) {
                int and = -1;
                boolean more = true;
                for (int piece = 0; piece < MAX_TEXT && more && tape.isSound(); piece++) {
                    readPiece(open);
                    fresh.aimHere(and);
                    more = tape.sign == '&';
                    if (more) {
                        and = fresh.emit(Law.AND, 0);
                        tape.step();
                    }
                }
                fresh.aimHere(or);
                if (tape.sign != '|') {
                    return;
                }
                or = fresh.emit(Law.OR, 0);
                tape.step();
            }
        }

        private void readPiece(int open) {
            if (tape.sign == '!') {
                if (mayOpen(open)) {
                    readPiece(open + 1);
                }
                fresh.emit(Law.NOT, 0);
            } else if (tape.sign == '(') {
                if (mayOpen(open)) {
                    readChoice(open + 1);
                }
                tape.expect(')');
            } else {
                readSum(open);
                int comparison = Law.BINARY + tape.among(Law.BINARIES);
                if (tape.among(COMPARISONS) < 0) {
                    tape.failHere();
                }
                tape.step();
                readSum(open);
                fresh.emit(comparison, 0);
            }
        }

        /** Steps over one of ( [ ! if not too many are open: this bounds the depth, too. */
        private boolean mayOpen(int open) {
            if (open >= MAX_OPEN) {
                tape.fail(OPEN_TOO_MANY, tape.place);
            }
            tape.step();
            return tape.isSound();
        }

        /** An E: a + or - waits till the TERM behind it has been read. */
        private void readSum(int open) {
            int waiting = -1;
            for (int term = 0; term < MAX_TEXT && tape.isSound(); term++) {
                readFactor(open);
                for (int factor = 0; factor < MAX_TEXT && tape.isSound() && tape.among("*/%") >= 0; factor++) {
                    int operation = Law.BINARY + tape.among(Law.BINARIES);
                    tape.step();
                    readFactor(open);
                    fresh.emit(operation, 0);
                }
                if (waiting >= 0) {
                    fresh.emit(waiting, 0);
                }
                if (tape.among("+-") < 0) {
                    return;
                }
                waiting = Law.BINARY + tape.among(Law.BINARIES);
                tape.step();
            }
        }

        private void readFactor(int open) {
            if (tape.sign == '[') {
                if (mayOpen(open)) {
                    readSum(open + 1);
                }
                tape.expect(']');
            } else if (tape.isAtDigit()) {
                fresh.emit(Law.PUSH, number());
            } else if (tape.among(Law.FACTS) >= 0) {
                fresh.asksClaim = fresh.asksClaim || letter == 'r' && tape.sign == 'v';
                fresh.emit(Law.FACT, tape.among(Law.FACTS));
                tape.step();
            } else {
                tape.failHere();
            }
        }

        private int number() {
            int number = 0;
            for (int digits = 0; digits < MAX_DIGITS && tape.isAtDigit(); digits++) {
                number = 10 * number + tape.sign - '0';
                tape.step();
            }
            if (tape.isAtDigit()) {
                tape.fail(DIGIT_TOO_MANY, tape.place);
            }
            return number;
        }
    }

    /** CANCEL: tries each second SLIP behind each first one that shows at the end. */
    private static final class Canceller {
        private final int[] truth = new int[MAX_LINES];
        private final int[] once = new int[MAX_LINES];
        private final int[] twice = new int[MAX_LINES];
        private final int[] found = new int[5];

        /** How many (what 0), or one of the four numbers of the first. */
        int answer(School school, int what) {
            put(found, 0, 0);
            school.workOn(0, truth);
            int last = school.proof.last();
            for (int line = 0; line < last; line++) {
                for (int claim = 0; claim < school.modulus; claim++) {
                    copyRow(truth, once);
                    school.slipIn(line, claim, once);
                    if (at(once, last) != at(truth, last)) {
                        trySeconds(school, line, claim, what == 0 ? Integer.MAX_VALUE : 1);
                    }
                    if (what > 0 && at(found, 0) > 0) {
                        return at(found, what);
                    }
                }
            }
            return what == 0 ? at(found, 0) : NO_SUCH_THING;
        }

        private void trySeconds(School school, int line, int claim, int enough) {
            for (int second = line + 1; second < school.proof.size; second++) {
                int between = between(school.proof, second);
                copyRow(once, twice);
                for (int other = 0; other < school.modulus && at(found, 0) < enough; other++) {
                    if (other != at(once, second) && cancels(school, second, other, between)) {
                        put(found, 0, at(found, 0) + 1);
                        put(found, 1, line);
                        put(found, 2, claim);
                        put(found, 3, second);
                        put(found, 4, other);
                    }
                }
            }
        }

        /** LINES through which a SLIP here can come to the last one (that one, too). */
        private static int between(Proof proof, int line) {
            int last = proof.last();
            return proof.standingOn(line) & (at(proof.needs, last) | bit(last));
        }

        private boolean cancels(School school, int second, int claim, int between) {
            int last = school.proof.last();
            put(twice, second, claim);
            for (int line = second + 1; line <= last; line++) {
                if (isIn(between, line)) {
                    put(twice, line, school.made(line, twice));
                }
            }
            return at(twice, last) == at(truth, last);
        }
    }

    /**
     * ANEW: as many ways from the one LINE to told ones as share no LINE between, by ways that
     * are found one after the other; the LINES that stop them all are as many. Each LINE is two
     * knots (where ways come in, where they go out) with an arc between, and told ones are the end.
     */
    private static final class Cutter {
        private static final int OUT = MAX_LINES;
        private static final int END = 2 * MAX_LINES;

        private final long[] arcs = new long[END + 1];
        private final int[] cameFrom = new int[END + 1];
        private final int[] queue = new int[END + 1];

        int leastCut(Proof proof, int line, int told) {
            drawArcs(proof, line, told);
            long reached = reachedFrom(OUT + line);
            for (int way = 0; way < MAX_LINES && (reached >> END & 1) != 0; way++) {
                turnArcs(OUT + line);
                reached = reachedFrom(OUT + line);
            }
            // Of all least cuts this is the one nearest to the LINE, so each way is cut at the
            // lowest LINE it can be cut at, which makes the bits the least.
            int cut = 0;
            for (int other = 0; other < proof.size; other++) {
                if ((reached >> other & 1) != 0 && (reached >> OUT + other & 1) == 0) {
                    cut |= bit(other);
                }
            }
            return cut;
        }

        private void drawArcs(Proof proof, int line, int told) {
            for (int knot = 0; knot < arcs.length; knot++) {
                arcs[knot] = 0;
            }
            int free = proof.standingOn(line) & ~told;
            for (int from = line; from < proof.size; from++) {
                if (isIn(free, from)) {
                    putArcs(from, 1L << OUT + from);
                }
                if (from == line || isIn(free, from)) {
                    putArcs(OUT + from, waysOut(proof, from, free, told));
                }
            }
        }

        private static long waysOut(Proof proof, int from, int free, int told) {
            long ways = 0;
            for (int user = from + 1; user < proof.size; user++) {
                if (proof.has(user, from)) {
                    ways |= isIn(told, user) ? 1L << END : isIn(free, user) ? 1L << user : 0;
                }
            }
            return ways;
        }

        private long reachedFrom(int start) {
            long reached = 1L << start;
            int waiting = 1;
            put(queue, 0, start);
            for (int turn = 0; turn < waiting && turn < queue.length; turn++) {
                int knot = at(queue, turn);
                long fresh = arcsOf(knot) & ~reached;
                for (int next = 0; next <= END && fresh != 0; next++) {
                    if ((fresh >> next & 1) != 0) {
                        put(cameFrom, next, knot);
                        put(queue, waiting, next);
                        waiting++;
                    }
                }
                reached |= fresh;
            }
            return reached;
        }

        private void turnArcs(int start) {
            int knot = END;
            for (int step = 0; step <= END && knot != start; step++) {
                int before = at(cameFrom, knot);
                // Only LINES can be cut: an arc from one LINE to another is never full.
                boolean isBetweenLines = before >= OUT && knot != before - OUT;
                if (!isBetweenLines) {
                    putArcs(before, arcsOf(before) & ~(1L << knot));
                }
                putArcs(knot, arcsOf(knot) | 1L << before);
                knot = before;
            }
        }

        private long arcsOf(int knot) {
            return knot >= 0 && knot < arcs.length ? arcs[knot] : 0;
        }

        private void putArcs(int knot, long bits) {
            if (knot >= 0 && knot < arcs.length) {
                arcs[knot] = bits;
            }
        }
    }

    /**
     * ADDED: each SLIP that does not show at the last LINE is a set of LINES that are not their
     * TRUTHS then, the lowest of which is its own; wanted are LINES of which each set has one.
     */
    private static final class Cover {
        private final int[] truth = new int[MAX_LINES];
        private final int[] bent = new int[MAX_LINES];
        private final int[] sets = new int[MAX_LINES * MAX_MODULUS];
        private final int[] starts = new int[MAX_LINES + 1];
        private int size = 0;

        int leastLines(School school) {
            collectSets(school);
            int last = school.proof.last();
            int answer = NONE;
            for (int most = 0; most <= last && answer < 0; most++) {
                answer = choose(last - 1, 0, most);
            }
            return answer;
        }

        private void collectSets(School school) {
            size = 0;
            school.workOn(0, truth);
            int last = school.proof.last();
            for (int line = 0; line < last; line++) {
                put(starts, line, size);
                for (int claim = 0; claim < school.modulus; claim++) {
                    copyRow(truth, bent);
                    school.slipIn(line, claim, bent);
                    int set = differing(bent, truth, last + 1);
                    if (set != 0 && !isIn(set, last)) {
                        addSet(set, at(starts, line));
                    }
                }
            }
            put(starts, Math.max(0, last), size);
        }

        private void addSet(int set, int from) {
            for (int i = from; i < size; i++) {
                if (at(sets, i) == set) {
                    return;
                }
            }
            put(sets, size, set);
            size++;
        }

        /**
         * Decides from the highest LINE down, without it first: so the first that is found has
         * the least bits. NONE if there is none.
         */
        private int choose(int line, int chosen, int left) {
            if (line < 0 || line >= MAX_LINES) {
                return chosen;
            }
            boolean must = hasOpenSet(at(starts, line), at(starts, line + 1), chosen, bit(line));
            int answer = must ? NONE : choose(line - 1, chosen, left);
            boolean helps = must || hasOpenSet(0, at(starts, line), chosen, bit(line));
            if (answer < 0 && left > 0 && helps) {
                answer = choose(line - 1, chosen | bit(line), left - 1);
            }
            return answer;
        }

        /** Whether a set that has this LINE has none of the chosen ones. */
        private boolean hasOpenSet(int from, int to, int chosen, int lineBit) {
            for (int i = from; i < to; i++) {
                int set = at(sets, i);
                if ((set & lineBit) != 0 && (set & chosen) == 0) {
                    return true;
                }
            }
            return false;
        }
    }

    /** THE ORDER, by the MINUTES and likelihoods that are put into its rows first. */
    private static final class Ranking {
        final int[] minutes = new int[MAX_LINES];
        final int[] likely = new int[MAX_LINES];
        final int[] order = new int[MAX_LINES];
        long above = 0;
        long below = 1;

        void rank(int size) {
            int left = bit(size) - 1;
            long time = 0;
            above = 0;
            below = 0;
            for (int place = 0; place < size; place++) {
                int line = lowestThatMayBeNext(left, size);
                left &= ~bit(line);
                put(order, place, line);
                time += at(minutes, line);
                above += time * at(likely, line);
                below += at(likely, line);
            }
            shorten();
        }

        private int lowestThatMayBeNext(int left, int size) {
            for (int line = 0; line < size; line++) {
                if (isIn(left, line) && !isToWait(line, left, size)) {
                    return line;
                }
            }
            return Integer.numberOfTrailingZeros(left);
        }

        /**
         * A sort would not do: a LINE that takes no time and is not likely at all may stand
         * anywhere, so being alike does not carry over from pair to pair.
         */
        private boolean isToWait(int line, int left, int size) {
            for (int other = 0; other < size; other++) {
                if (isIn(left, other) && at(minutes, other) * at(likely, line)
                        < at(minutes, line) * at(likely, other)) {
                    return true;
                }
            }
            return false;
        }

        private void shorten() {
            long a = above;
            long b = below;
            for (int step = 0; step < 100 && b != 0; step++) {
                long rest = a % b;
                a = b;
                b = rest;
            }
            if (below == 0) {
                below = 1;
            } else if (a > 0) {
                above /= a;
                below /= a;
            }
        }
    }

    /** COPIES whose author is asked for. */
    private static final class Copies {
        private final int[] claims = new int[MAX_COPIES * MAX_LINES];
        private final int[] lastWrong = new int[MAX_COPIES];
        private final int[] copy = new int[MAX_LINES];
        private int amount = 0;
        private int size = 0;
        private boolean allAreClaims = true;

        void takeFrom(int[] bytes, int k, School school) {
            amount = k;
            size = school.proof.size;
            allAreClaims = true;
            for (int c = 0; c < k; c++) {
                int wrongSoFar = NONE;
                for (int line = 0; line < size; line++) {
                    int claim = at(bytes, c * size + line);
                    allAreClaims = allAreClaims && school.isClaim(claim);
                    put(copy, line, claim);
                    put(claims, c * MAX_LINES + line, claim);
                    if (claim != school.made(line, copy)) {
                        wrongSoFar = line;
                    }
                }
                put(lastWrong, c, wrongSoFar);
            }
        }

        boolean allComeFrom(int[] authors) {
            boolean all = allAreClaims;
            for (int c = 0; c < amount && all; c++) {
                int line = firstOther(c, authors);
                // A SLIP more is where they differ first, and all behind it must be honest.
                all = line == size || line >= at(lastWrong, c);
            }
            return all;
        }

        private int firstOther(int c, int[] authors) {
            for (int line = 0; line < size; line++) {
                if (at(claims, c * MAX_LINES + line) != at(authors, line)) {
                    return line;
                }
            }
            return size;
        }
    }
}
