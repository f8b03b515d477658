import java.util.ArrayDeque;
import java.util.ArrayList;
import java.util.Arrays;
import java.util.Deque;
import java.util.List;

/**
 * The document once more, said as plainly as it can be: everything is tried, nothing is clever.
 * It is only for comparing, so it may be slow, make objects and throw.
 */
final class Model {
    static final int NONE = -1;

    private static final class Refused extends RuntimeException {
        private static final long serialVersionUID = 1L;
    }

    private record Line(int claim, char rule, int first, int second) {
        boolean has(int j) {
            return rule != 'a' && first == j || (rule == '+' || rule == '*') && second == j;
        }

        Line with(int newClaim) {
            return new Line(newClaim, rule, first, second);
        }
    }

    private record Clause(char letter, String value, String condition) {
    }

    private record Kept(int m, int[] axioms, List<Line> lines, int[] points, int x) {
    }

    private int m = 97;
    private int[] axioms = new int[10];
    private List<Line> lines = new ArrayList<>();
    private List<Clause> clauses = new ArrayList<>();
    private int[] points = new int[8];
    private int x = 1;
    private Kept kept = null;
    private final List<Integer> tape = new ArrayList<>();

    int size() {
        return lines.size();
    }

    int modulusNow() {
        return m;
    }

    private static int mod(int a, int b) {
        return Math.floorMod(a, b);
    }

    boolean modulus(int newM) {
        if (newM < 2 || newM > 97) {
            return false;
        }
        m = newM;
        lines = new ArrayList<>();
        for (int a = 0; a < 10; a++) {
            axioms[a] = mod(axioms[a], m);
        }
        return true;
    }

    boolean axiom(int a, int v) {
        if (a < 0 || a > 9 || v < 0 || v >= m) {
            return false;
        }
        axioms[a] = v;
        return true;
    }

    int feed(int... five) {
        if (tape.size() + 20 > 220) {
            return NONE;
        }
        for (int word : five) {
            tape.add(word >>> 24);
            tape.add(word >>> 16 & 255);
            tape.add(word >>> 8 & 255);
            tape.add(word & 255);
        }
        return tape.size();
    }

    private String text(int n) {
        StringBuilder b = new StringBuilder();
        for (int i = 0; i < n; i++) {
            b.append((char) (int) tape.get(i));
        }
        tape.clear();
        return b.toString();
    }

    int proof(int n) {
        if (n < 1 || n > 200 || n > tape.size()) {
            return NONE;
        }
        List<Line> read = new ArrayList<>();
        int fault = readProof(text(n), read);
        if (fault != 0) {
            return fault;
        }
        lines = read;
        return lines.size();
    }

    private static boolean digit(char c) {
        return c >= '0' && c <= '9';
    }

    /** A machine of states, sign by sign; \0 stands for the end (a real 0 byte is put as \1). */
    private int readProof(String raw, List<Line> read) {
        String s = raw.replace('\0', '\1') + '\0';
        String state = "claim";
        int start = 0;
        int number = 0;
        int claim = 0;
        char rule = 0;
        int first = 0;
        for (int p = 0; p < s.length(); p++) {
            char c = s.charAt(p);
            int digits = p - start;
            switch (state) {
                case "claim":
                    if (!digit(c)) {
                        return -1000 - p;
                    }
                    if (read.size() == 20) {
                        return -4000 - p;
                    }
                    start = p;
                    number = c - '0';
                    state = "claim2";
                    break;
                case "claim2":
                    if (digit(c) && digits < 2) {
                        number = number * 10 + c - '0';
                        break;
                    }
                    if (number >= m) {
                        return -3000 - start;
                    }
                    if (c != '=') {
                        return -1000 - p;
                    }
                    claim = number;
                    state = "rule";
                    break;
                case "rule":
                    if ("asn+*".indexOf(c) < 0) {
                        return -1000 - p;
                    }
                    rule = c;
                    state = c == 'a' ? "axiom" : "first";
                    break;
                case "axiom":
                    if (!digit(c)) {
                        return -1000 - p;
                    }
                    read.add(new Line(claim, 'a', c - '0', -2));
                    state = "end";
                    break;
                case "first":
                case "second":
                    if (!digit(c)) {
                        return -1000 - p;
                    }
                    start = p;
                    number = c - '0';
                    state = state + "2";
                    break;
                case "first2":
                case "second2":
                    if (digit(c) && digits < 2) {
                        number = number * 10 + c - '0';
                        break;
                    }
                    if (number >= read.size()) {
                        return -6000 - start;
                    }
                    if (state.equals("first2") && (rule == '+' || rule == '*')) {
                        if (c != ',') {
                            return -1000 - p;
                        }
                        first = number;
                        state = "second";
                        break;
                    }
                    read.add(state.equals("first2") ? new Line(claim, rule, number, -2)
                            : new Line(claim, rule, first, number));
                    state = "end";
                    p--;
                    break;
                default:
                    if (c == '\0') {
                        return 0;
                    }
                    if (c != ';') {
                        return -1000 - p;
                    }
                    state = "claim";
                    break;
            }
        }
        throw new IllegalStateException("the end was not seen");
    }

    int law(int n) {
        if (n < 1 || n > 200 || n > tape.size()) {
            return NONE;
        }
        String s = text(n);
        int fault = lawFault(s);
        if (fault != 0) {
            return fault;
        }
        clauses = new ArrayList<>();
        for (String one : s.split(";")) {
            int open = one.indexOf('(');
            clauses.add(new Clause(one.charAt(0), one.substring(1, open),
                    one.substring(open + 1, one.length() - 1)));
        }
        return clauses.size();
    }

    /** A machine of states with a stack of what is open. */
    private static int lawFault(String raw) {
        String s = raw.replace('\0', '\1') + '\0';
        Deque<Character> open = new ArrayDeque<>();
        String state = "letter";
        // Which E is read: v of the clause, l and r left and right of a comparison.
        char which = 'v';
        int clauses = 0;
        int digits = 0;
        for (int p = 0; p < s.length(); p++) {
            char c = s.charAt(p);
            if (state.equals("number")) {
                if (digit(c)) {
                    digits++;
                    if (digits == 6) {
                        return -2000 - p;
                    }
                    continue;
                }
                state = "behind";
            }
            switch (state) {
                case "letter":
                    if ("rtwc".indexOf(c) < 0) {
                        return -1000 - p;
                    }
                    clauses++;
                    if (clauses == 15) {
                        return -4000 - p;
                    }
                    state = c == 'r' ? "paren" : "factor";
                    which = 'v';
                    break;
                case "paren":
                    if (c != '(') {
                        return -1000 - p;
                    }
                    open.push('(');
                    state = "piece";
                    break;
                case "piece":
                case "factor":
                    boolean piece = state.equals("piece");
                    if (c == '[' || piece && (c == '(' || c == '!')) {
                        if (open.size() == 6) {
                            return -5000 - p;
                        }
                        open.push(c);
                        if (c == '[') {
                            state = "factor";
                            which = piece ? 'l' : which;
                        }
                    } else if (digit(c)) {
                        digits = 1;
                        state = "number";
                        which = piece ? 'l' : which;
                    } else if ("ikvdulmh".indexOf(c) >= 0) {
                        state = "behind";
                        which = piece ? 'l' : which;
                    } else {
                        return -1000 - p;
                    }
                    break;
                case "behind":
                    if ("+-*/%".indexOf(c) >= 0) {
                        state = "factor";
                    } else if (!open.isEmpty() && open.peek() == '[') {
                        if (c != ']') {
                            return -1000 - p;
                        }
                        open.pop();
                    } else if (which == 'v') {
                        if (c != '(') {
                            return -1000 - p;
                        }
                        open.push('(');
                        state = "piece";
                    } else if (which == 'l') {
                        if ("<>=".indexOf(c) < 0) {
                            return -1000 - p;
                        }
                        which = 'r';
                        state = "factor";
                    } else {
                        while (open.peek() == '!') {
                            open.pop();
                        }
                        state = "behind piece";
                        p--;
                    }
                    break;
                case "behind piece":
                    if (c == '&' || c == '|') {
                        state = "piece";
                    } else if (c == ')') {
                        open.pop();
                        while (!open.isEmpty() && open.peek() == '!') {
                            open.pop();
                        }
                        state = open.isEmpty() ? "behind clause" : "behind piece";
                    } else {
                        return -1000 - p;
                    }
                    break;
                default:
                    if (c == '\0') {
                        return 0;
                    }
                    if (c != ';') {
                        return -1000 - p;
                    }
                    state = "letter";
                    break;
            }
        }
        throw new IllegalStateException("the end was not seen");
    }

    // ---- evaluation of texts, by splitting them ----

    private static List<Integer> topLevel(String s, String signs) {
        List<Integer> places = new ArrayList<>();
        int depth = 0;
        for (int p = 0; p < s.length(); p++) {
            char c = s.charAt(p);
            depth += c == '(' || c == '[' ? 1 : c == ')' || c == ']' ? -1 : 0;
            if (depth == 0 && signs.indexOf(c) >= 0) {
                places.add(p);
            }
        }
        return places;
    }

    private static List<String> split(String s, String sign) {
        List<String> parts = new ArrayList<>();
        int from = 0;
        for (int p : topLevel(s, sign)) {
            parts.add(s.substring(from, p));
            from = p + 1;
        }
        parts.add(s.substring(from));
        return parts;
    }

    private boolean holds(String c, int i, int claim, int h) {
        for (String part : split(c, "|")) {
            boolean all = true;
            for (String piece : split(part, "&")) {
                if (all) {
                    all = pieceHolds(piece, i, claim, h);
                }
            }
            if (all) {
                return true;
            }
        }
        return false;
    }

    private boolean pieceHolds(String piece, int i, int claim, int h) {
        if (piece.charAt(0) == '!') {
            return !pieceHolds(piece.substring(1), i, claim, h);
        }
        if (piece.charAt(0) == '(') {
            return holds(piece.substring(1, piece.length() - 1), i, claim, h);
        }
        int p = topLevel(piece, "<>=").get(0);
        int left = value(piece.substring(0, p), i, claim, h);
        int right = value(piece.substring(p + 1), i, claim, h);
        return switch (piece.charAt(p)) {
            case '<' -> left < right;
            case '>' -> left > right;
            default -> left == right;
        };
    }

    private int value(String e, int i, int claim, int h) {
        for (String signs : new String[] {"+-", "*/%"}) {
            List<Integer> places = topLevel(e, signs);
            if (!places.isEmpty()) {
                int p = places.get(places.size() - 1);
                int left = value(e.substring(0, p), i, claim, h);
                int right = value(e.substring(p + 1), i, claim, h);
                char sign = e.charAt(p);
                if ((sign == '/' || sign == '%') && right == 0) {
                    throw new Refused();
                }
                return switch (sign) {
                    case '+' -> left + right;
                    case '-' -> left - right;
                    case '*' -> left * right;
                    case '/' -> left / right;
                    default -> left % right;
                };
            }
        }
        char c = e.charAt(0);
        if (c == '[') {
            return value(e.substring(1, e.length() - 1), i, claim, h);
        }
        return switch (c) {
            case 'i' -> i;
            case 'k' -> kind(i);
            case 'v' -> claim;
            case 'd' -> depth(i);
            case 'u' -> users(i);
            case 'l' -> lines.size();
            case 'm' -> m;
            case 'h' -> h;
            default -> Integer.parseInt(e);
        };
    }

    private boolean clauseHolds(Clause clause, int i, int claim, int h) {
        try {
            return holds(clause.condition, i, claim, h);
        } catch (Refused refused) {
            return false;
        }
    }

    private boolean readsLine(int i, int claim, int h) {
        for (Clause clause : clauses) {
            if (clause.letter == 'r' && clauseHolds(clause, i, claim, h)) {
                return true;
            }
        }
        return false;
    }

    private int amount(char letter, int i, int h, int most) {
        for (Clause clause : clauses) {
            if (clause.letter == letter && clauseHolds(clause, i, lines.get(i).claim, h)) {
                int value;
                try {
                    value = value(clause.value, i, lines.get(i).claim, h);
                } catch (Refused refused) {
                    value = 0;
                }
                return value < 0 ? 0 : value > most ? most : value;
            }
        }
        return 0;
    }

    // ---- lines ----

    private int kind(int i) {
        return "asn+*".indexOf(lines.get(i).rule);
    }

    private int depth(int i) {
        int depth = 0;
        for (int j = 0; j < i; j++) {
            if (lines.get(i).has(j)) {
                depth = Math.max(depth, depth(j) + 1);
            }
        }
        return depth;
    }

    private int users(int i) {
        int users = 0;
        for (Line line : lines) {
            users += line.has(i) ? 1 : 0;
        }
        return users;
    }

    private int made(Line line, int[] claims) {
        return switch (line.rule) {
            case 'a' -> axioms[line.first];
            case 's' -> claims[line.first];
            case 'n' -> mod(-claims[line.first], m);
            case '+' -> mod(claims[line.first] + claims[line.second], m);
            default -> mod(claims[line.first] * claims[line.second], m);
        };
    }

    private int[] claims() {
        int[] claims = new int[lines.size()];
        for (int i = 0; i < claims.length; i++) {
            claims[i] = lines.get(i).claim;
        }
        return claims;
    }

    private int[] truths() {
        int[] truths = new int[lines.size()];
        for (int i = 0; i < truths.length; i++) {
            truths[i] = made(lines.get(i), truths);
        }
        return truths;
    }

    private int[] slipped(int[] claims, int at, int v) {
        int[] to = claims.clone();
        to[at] = v;
        for (int i = at + 1; i < to.length; i++) {
            to[i] = made(lines.get(i), to);
        }
        return to;
    }

    private int wrongBits(List<Line> some, int[] claims) {
        int bits = 0;
        for (int i = 0; i < some.size(); i++) {
            bits |= claims[i] != made(some.get(i), claims) ? 1 << i : 0;
        }
        return bits;
    }

    private void setClaims(int[] claims) {
        for (int i = 0; i < claims.length; i++) {
            lines.set(i, lines.get(i).with(claims[i]));
        }
    }

    int line(int i, int what) {
        if (i < 0 || i >= lines.size()) {
            return NONE;
        }
        Line line = lines.get(i);
        return switch (what) {
            case 0 -> line.claim;
            case 1 -> kind(i);
            case 2 -> line.first;
            case 3 -> line.second;
            case 4 -> truths()[i];
            case 5 -> made(line, claims());
            case 6 -> depth(i);
            case 7 -> users(i);
            case 8 -> wrong() >> i & 1;
            default -> NONE;
        };
    }

    int wrong() {
        return wrongBits(lines, claims());
    }

    int untrue() {
        int bits = 0;
        for (int i = 0; i < lines.size(); i++) {
            bits |= lines.get(i).claim != truths()[i] ? 1 << i : 0;
        }
        return bits;
    }

    int slip(int i, int v) {
        if (i < 0 || i >= lines.size() || v < 0 || v >= m) {
            return NONE;
        }
        return slipped(claims(), i, v)[lines.size() - 1];
    }

    int honest() {
        int were = Integer.bitCount(untrue());
        setClaims(truths());
        return were;
    }

    private static int told(List<int[]> ways, int what) {
        if (what == 0) {
            return ways.size();
        }
        return ways.isEmpty() ? -2 : ways.get(0)[what - 1];
    }

    int mended(int what) {
        if (what < 0 || what > 2 || lines.isEmpty() || wrong() == 0) {
            return NONE;
        }
        List<int[]> ways = new ArrayList<>();
        for (int i = 0; i < lines.size(); i++) {
            for (int v = 0; v < m; v++) {
                int[] claims = claims();
                claims[i] = v;
                if (v != lines.get(i).claim && wrongBits(lines, claims) == 0) {
                    ways.add(new int[] {i, v});
                }
            }
        }
        return told(ways, what);
    }

    int referred(int what) {
        if (what < 0 || what > 3 || lines.isEmpty() || wrong() == 0) {
            return NONE;
        }
        List<int[]> ways = new ArrayList<>();
        for (int i = 0; i < lines.size(); i++) {
            Line line = lines.get(i);
            int places = line.rule == 'a' ? 0 : line.rule == 's' || line.rule == 'n' ? 1 : 2;
            for (int place = 0; place < places; place++) {
                for (int j = 0; j < i; j++) {
                    List<Line> other = new ArrayList<>(lines);
                    other.set(i, new Line(line.claim, line.rule, place == 0 ? j : line.first,
                            place == 1 ? j : line.second));
                    if (j != (place == 0 ? line.first : line.second) && wrongBits(other, claims()) == 0) {
                        ways.add(new int[] {i, place, j});
                    }
                }
            }
        }
        return told(ways, what);
    }

    private int readBits(int h) {
        int bits = 0;
        for (int i = 0; i < lines.size(); i++) {
            bits |= readsLine(i, lines.get(i).claim, h) ? 1 << i : 0;
        }
        return bits;
    }

    int reads(int h, int what) {
        if (h < 0 || h > 9 || what < 0 || what > 2) {
            return NONE;
        }
        int bits = readBits(h);
        if (what == 2) {
            int minutes = 0;
            for (int i = 0; i < lines.size(); i++) {
                minutes += (bits >> i & 1) * amount('t', i, h, 99);
            }
            return minutes;
        }
        return what == 0 ? bits : bits & wrong();
    }

    int hidden(int hearers, int what) {
        if (hearers < 1 || hearers > 1023 || what < 0 || what > 2 || lines.isEmpty()) {
            return NONE;
        }
        int[] best = null;
        for (int i = 0; i < lines.size(); i++) {
            for (int v = 0; v < m; v++) {
                if (v == truths()[i]) {
                    continue;
                }
                int finders = 0;
                for (int h = 0; h < 10; h++) {
                    finders += (hearers >> h & 1) != 0 && readsLine(i, v, h) ? 1 : 0;
                }
                if (best == null || finders < best[2]) {
                    best = new int[] {i, v, finders};
                }
            }
        }
        return best[what];
    }

    private int all() {
        return (1 << lines.size()) - 1;
    }

    private int readTogether(int hearers) {
        int read = 0;
        for (int h = 0; h < 10; h++) {
            read |= (hearers >> h & 1) != 0 ? readBits(h) : 0;
        }
        return read;
    }

    int unread(int hearers) {
        return hearers < 0 || hearers > 1023 ? NONE : all() & ~readTogether(hearers);
    }

    int readers(int hearers, int what) {
        if (hearers < 0 || hearers > 1023 || what < 0 || what > 1) {
            return NONE;
        }
        int[] each = new int[10];
        for (int h = 0; h < 10; h++) {
            each[h] = readBits(h);
        }
        for (int n = 0; n <= 10; n++) {
            for (int some = 0; some < 1024; some++) {
                int read = 0;
                for (int h = 0; h < 10; h++) {
                    read |= (some >> h & 1) != 0 ? each[h] : 0;
                }
                if (Integer.bitCount(some) == n && (some & hearers) == some && read == all()) {
                    return what == 0 ? n : some;
                }
            }
        }
        return -2;
    }

    int blind(int i) {
        if (i < 0 || i >= lines.size()) {
            return NONE;
        }
        int last = lines.size() - 1;
        int n = 0;
        for (int v = 0; v < m; v++) {
            n += v != truths()[i] && slipped(truths(), i, v)[last] == truths()[last] ? 1 : 0;
        }
        return n;
    }

    int cancel(int what) {
        if (what < 0 || what > 4 || lines.isEmpty() || lines.size() > 8) {
            return NONE;
        }
        int[] truths = truths();
        int last = truths.length - 1;
        List<int[]> ways = new ArrayList<>();
        for (int i = 0; i <= last; i++) {
            for (int v = 0; v < m; v++) {
                int[] once = slipped(truths, i, v);
                if (v == truths[i] || once[last] == truths[last]) {
                    continue;
                }
                for (int j = i + 1; j <= last; j++) {
                    for (int w = 0; w < m; w++) {
                        if (w != once[j] && slipped(once, j, w)[last] == truths[last]) {
                            ways.add(new int[] {i, v, j, w});
                        }
                    }
                }
            }
        }
        return told(ways, what);
    }

    private int[] hadBits() {
        int[] had = new int[lines.size()];
        for (int j = 0; j < had.length; j++) {
            for (int k = 0; k < j; k++) {
                had[j] |= lines.get(j).has(k) ? 1 << k : 0;
            }
        }
        return had;
    }

    private static int standing(int i, int axiomsInstead, int[] had) {
        int bits = 1 << i;
        for (int j = i + 1; j < had.length; j++) {
            bits |= (had[j] & bits) != 0 && (axiomsInstead >> j & 1) == 0 ? 1 << j : 0;
        }
        return bits & ~(1 << i);
    }

    int stands(int i, int what) {
        if (i < 0 || i >= lines.size() || what < 0 || what > 1) {
            return NONE;
        }
        int needs = 0;
        for (int j = 0; j < i; j++) {
            needs |= (standing(j, 0, hadBits()) >> i & 1) << j;
        }
        return what == 0 ? standing(i, 0, hadBits()) : needs;
    }

    int anew(int i, int told, int what) {
        if (i < 0 || i >= lines.size() || told < 0 || told > all() || (told >> i & 1) != 0
                || what < 0 || what > 1) {
            return NONE;
        }
        int[] had = hadBits();
        int best = -2;
        for (int cut = 0; cut <= all(); cut++) {
            if ((cut & (told | 1 << i)) == 0 && (best < 0 || Integer.bitCount(cut) < Integer.bitCount(best))
                    && (standing(i, cut, had) & told) == 0) {
                best = cut;
            }
        }
        return what == 1 || best == -2 ? best : Integer.bitCount(best);
    }

    int added(int what) {
        if (what < 0 || what > 1 || lines.isEmpty()) {
            return NONE;
        }
        int last = lines.size() - 1;
        int[] truths = truths();
        List<Integer> shown = new ArrayList<>();
        for (int i = 0; i <= last; i++) {
            for (int v = 0; v < m; v++) {
                int[] claims = slipped(truths, i, v);
                int differ = 0;
                for (int j = 0; j <= last; j++) {
                    differ |= claims[j] != truths[j] ? 1 << j : 0;
                }
                if (v != truths[i] && !shown.contains(differ)) {
                    shown.add(differ);
                }
            }
        }
        int best = all();
        for (int some = 0; some <= all(); some++) {
            if (Integer.bitCount(some) < Integer.bitCount(best)) {
                int read = some | 1 << last;
                if (shown.stream().allMatch(differ -> (differ & read) != 0)) {
                    best = some;
                }
            }
        }
        return what == 0 ? Integer.bitCount(best) : best;
    }

    /** The least row of the fewest MINUTES, by the best of each set of LINES that are still left. */
    long order(int h, int what) {
        int n = lines.size();
        if (h < 0 || h > 9 || n == 0 || !(what >= 0 && what < n || what == 30 || what == 31)) {
            return NONE;
        }
        int[] t = new int[n];
        int[] w = new int[n];
        long through = 0;
        for (int i = 0; i < n; i++) {
            t[i] = amount('t', i, h, 99);
            w[i] = amount('w', i, 0, 99);
            through += w[i];
        }
        long[] best = new long[1 << n];
        int[] time = new int[1 << n];
        for (int read = all(); read >= 0; read--) {
            for (int i = 0; i < n; i++) {
                time[read] += (read >> i & 1) * t[i];
            }
            best[read] = read == all() ? 0 : Long.MAX_VALUE;
            for (int i = 0; i < n; i++) {
                if ((read >> i & 1) == 0) {
                    long cost = (long) (time[read] + t[i]) * w[i] + best[read | 1 << i];
                    best[read] = Math.min(best[read], cost);
                }
            }
        }
        if (what < 30) {
            int read = 0;
            int chosen = -1;
            for (int place = 0; place <= what; place++) {
                chosen = -1;
                for (int i = n - 1; i >= 0; i--) {
                    if ((read >> i & 1) == 0
                            && (long) (time[read] + t[i]) * w[i] + best[read | 1 << i] == best[read]) {
                        chosen = i;
                    }
                }
                read |= 1 << chosen;
            }
            return chosen;
        }
        if (through == 0) {
            return what - 30;
        }
        long above = best[0];
        long below = through;
        for (long d = 2; d <= below; d++) {
            while (above % d == 0 && below % d == 0) {
                above /= d;
                below /= d;
            }
        }
        return what == 30 ? above : below;
    }

    boolean seed(int newX) {
        if (newX < 0 || newX > 65535) {
            return false;
        }
        x = newX;
        return true;
    }

    int copied(int n) {
        if (n < 1 || n > 20 || lines.isEmpty()) {
            return NONE;
        }
        int slips = 0;
        for (int time = 0; time < n; time++) {
            x = (int) ((25173L * x + 13849L) % 65536L);
            int i = x % lines.size();
            if (x / 32 % 10 < amount('c', i, 0, 10)) {
                setClaims(slipped(claims(), i, (lines.get(i).claim + 1 + x / 512 % (m - 1)) % m));
                slips++;
            }
        }
        return slips;
    }

    int author(int k, int what) {
        int n = lines.size();
        if (k < 1 || k > 5 || what < 0 || what > 2 || n == 0 || k * n > tape.size()) {
            return NONE;
        }
        int[][] copies = new int[k][n];
        for (int p = 0; p < k * n; p++) {
            copies[p / n][p % n] = tape.get(p);
        }
        tape.clear();
        List<int[]> ways = new ArrayList<>();
        for (int i = 0; i < n; i++) {
            for (int v = 0; v < m; v++) {
                int[] authors = slipped(truths(), i, v);
                boolean all = v != truths()[i];
                for (int c = 0; c < k && all; c++) {
                    all = comesFrom(authors, copies[c]);
                }
                if (all) {
                    ways.add(new int[] {i, v});
                }
            }
        }
        return told(ways, what);
    }

    private boolean comesFrom(int[] authors, int[] copy) {
        if (Arrays.equals(authors, copy)) {
            return true;
        }
        for (int i = 0; i < copy.length; i++) {
            for (int v = 0; v < m; v++) {
                if (copy[i] == v && Arrays.equals(slipped(authors, i, v), copy)) {
                    return true;
                }
            }
        }
        return false;
    }

    int corrects(int p, int i, int v) {
        if (p < 0 || p > 7 || i < 0 || i >= lines.size() || v < 0 || v >= m) {
            return -1000;
        }
        if (line(i, 8) == 1 && v == line(i, 5)) {
            setClaims(slipped(claims(), i, v));
            points[p] = Math.min(99, points[p] + 1);
        } else {
            points[p] = Math.max(-99, points[p] - 1);
        }
        return points[p];
    }

    int points(int p) {
        return p < 0 || p > 7 ? -1000 : points[p];
    }

    int keep() {
        kept = new Kept(m, axioms.clone(), new ArrayList<>(lines), points.clone(), x);
        return lines.size();
    }

    boolean undo() {
        if (kept == null) {
            return false;
        }
        m = kept.m;
        axioms = kept.axioms.clone();
        lines = new ArrayList<>(kept.lines);
        points = kept.points.clone();
        x = kept.x;
        return true;
    }

    int check(int n) {
        if (n < 0 || n > 20 || 4 * n > tape.size()) {
            return -2;
        }
        int answer = NONE;
        for (int p = n - 1; p >= 0; p--) {
            int number = tape.get(4 * p) << 24 | tape.get(4 * p + 1) << 16
                    | tape.get(4 * p + 2) << 8 | tape.get(4 * p + 3);
            if (p >= lines.size()) {
                answer = lines.size();
            } else if (number != lines.get(p).claim) {
                answer = p;
            }
        }
        tape.clear();
        return answer;
    }

    int count(int what) {
        if (what >= 10 && what <= 19) {
            return axioms[what - 10];
        }
        return switch (what) {
            case 0 -> lines.size();
            case 1 -> clauses.size();
            case 2 -> tape.size();
            case 3 -> x;
            case 4 -> m;
            case 5 -> lines.isEmpty() ? NONE : lines.get(lines.size() - 1).claim;
            case 6 -> lines.isEmpty() ? NONE : truths()[lines.size() - 1];
            default -> NONE;
        };
    }
}
