import java.util.Random;

/** Makes texts of proofs and laws by chance, and spoils some of them. */
final class Texts {
    private static final String SIGNS = "0123456789=;asn+*,rtwc()[]!&|<>/%-ikvdulmh x\0\u00e9";

    private final Random chance;

    Texts(Random chance) {
        this.chance = chance;
    }

    private boolean oneIn(int n) {
        return chance.nextInt(n) == 0;
    }

    private char oneOf(String signs) {
        return signs.charAt(chance.nextInt(signs.length()));
    }

    private String number(int n) {
        return n < 10 && oneIn(15) ? "0" + n : "" + n;
    }

    /** LINES whose CLAIMS are mostly what their RULES make. */
    String proof(int lines, int m, int[] axioms) {
        int[] claims = new int[lines];
        String style = new String[] {"asn+*", "a+*", "***+", "ssn+", "+*"}[chance.nextInt(5)];
        int slipAt = oneIn(3) ? -1 : chance.nextInt(lines);
        StringBuilder text = new StringBuilder();
        for (int i = 0; i < lines; i++) {
            char rule = i == 0 || oneIn(5) ? 'a' : oneOf(style);
            int first = rule == 'a' ? chance.nextInt(10) : near(i);
            int second = i == 0 ? 0 : near(i);
            int made = switch (rule) {
                case 'a' -> axioms[first];
                case 's' -> claims[first];
                case 'n' -> (m - claims[first]) % m;
                case '+' -> (claims[first] + claims[second]) % m;
                default -> claims[first] * claims[second] % m;
            };
            claims[i] = i == slipAt || oneIn(30) ? chance.nextInt(m) : made;
            String line = number(claims[i]) + "=" + rule + (rule == 'a' ? "" + first : number(first))
                    + (rule == '+' || rule == '*' ? "," + number(second) : "");
            if (text.length() + line.length() + 1 > 200) {
                break;
            }
            text.append(i == 0 ? "" : ";").append(line);
        }
        return text.toString();
    }

    private int near(int i) {
        return oneIn(2) ? chance.nextInt(i) : Math.max(0, i - 1 - chance.nextInt(3));
    }

    String law() {
        return oneIn(2) ? usefulLaw() : anyLaw();
    }

    /** A law by which hearers share the LINES, and MINUTES, likelihoods, tenths are mostly not 0. */
    private String usefulLaw() {
        int share = 2 + chance.nextInt(4);
        String reading = switch (chance.nextInt(5)) {
            case 0 -> "r(i%" + share + "=h%" + share + ")";
            case 1 -> "r(i/" + share + "=h);r(v+h>" + chance.nextInt(20) + ")";
            case 2 -> "r([i+h]%" + share + "<2&!k=" + chance.nextInt(5) + ")";
            case 3 -> "r([i*h+v]%" + (share + 2) + "=0|d/h=1)";
            default -> "r(u>h)";
        };
        return reading + ";" + share('t') + ";" + share('w') + ";" + share('c');
    }

    private String share(char letter) {
        String value = switch (chance.nextInt(4)) {
            case 0 -> "[i*" + chance.nextInt(9) + "+h+" + chance.nextInt(9) + "]%" + (1 + chance.nextInt(6));
            case 1 -> "v%" + (1 + chance.nextInt(9)) + "*" + chance.nextInt(4);
            case 2 -> sum(0, 3);
            default -> "" + chance.nextInt(12);
        };
        return letter + value + "(" + (oneIn(2) ? "1=1" : choice(1, 2)) + ")";
    }

    private String anyLaw() {
        int clauses = 1 + chance.nextInt(oneIn(10) ? 16 : 6);
        StringBuilder text = new StringBuilder();
        for (int c = 0; c < clauses; c++) {
            char letter = oneOf("rrrtwc");
            String clause = letter + (letter == 'r' ? "" : sum(0, 3)) + "(" + choice(1, 3) + ")";
            if (text.length() + clause.length() + 1 > 200) {
                continue;
            }
            text.append(text.length() == 0 ? "" : ";").append(clause);
        }
        return text.length() == 0 ? "r(h=i)" : text.toString();
    }

    private String choice(int open, int width) {
        StringBuilder text = new StringBuilder(piece(open, width));
        for (int more = chance.nextInt(width); more > 0; more--) {
            text.append(oneOf("&|")).append(piece(open, width - 1));
        }
        return text.toString();
    }

    private String piece(int open, int width) {
        if (open < 7 && oneIn(5)) {
            return "!" + piece(open + 1, Math.max(1, width - 1));
        }
        if (open < 7 && oneIn(5)) {
            return "(" + choice(open + 1, Math.max(1, width - 1)) + ")";
        }
        return sum(open, 2) + oneOf("<>=") + sum(open, 2);
    }

    private String sum(int open, int width) {
        StringBuilder text = new StringBuilder(factor(open, width));
        for (int more = chance.nextInt(width); more > 0; more--) {
            text.append(oneOf("+-*/%%")).append(factor(open, width - 1));
        }
        return text.toString();
    }

    private String factor(int open, int width) {
        if (open < 7 && oneIn(8)) {
            return "[" + sum(open + 1, Math.max(1, width - 1)) + "]";
        }
        if (oneIn(2)) {
            return "" + (oneIn(12) ? chance.nextInt(100000) : chance.nextInt(oneIn(3) ? 97 : 4));
        }
        return "" + oneOf("ikvdulmhhhvi");
    }

    String spoilt(String text) {
        StringBuilder b = new StringBuilder(text);
        for (int n = 1 + chance.nextInt(2); n > 0 && b.length() > 0; n--) {
            int p = chance.nextInt(b.length());
            switch (chance.nextInt(4)) {
                case 0 -> b.setCharAt(p, oneOf(SIGNS));
                case 1 -> b.deleteCharAt(p);
                case 2 -> b.insert(p, oneOf(SIGNS));
                default -> b.setLength(p);
            }
        }
        return b.length() == 0 ? "x" : b.length() > 200 ? b.substring(0, 200) : b.toString();
    }
}
