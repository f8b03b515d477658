import java.util.LinkedHashMap;
import java.util.Map;
import java.util.function.ToLongFunction;

/** That a call which is refused, or which only asks, leaves all as it was: seen against a twin. */
final class RefusedEdges {
    /** What is on the tape: with a few bytes more a PROOF of five LINES, so that each byte can be seen. */
    private static final String ON_TAPE = "7=a0;2=n0;9=+0,1;4=a";

    static void all(Edges e) {
        e.of("What it is", "An object is used for at most 512 calls after it has been made;",
                RefusedEdges::manyCalls);
        e.of("==== 3.", "All memory is the school's own.", RefusedEdges::ownMemory);
        e.of("==== 3.", "A call that is refused (NONE, false) changes nothing", RefusedEdges::refusedChangesNothing);
        e.of("==== 3.", "but the tape, where it is told.", RefusedEdges::tapeWhereTold);
        e.of("==== 3.", "The constants: `NONE = -1`: There is none.", RefusedEdges::constants);
    }

    private static void manyCalls(Bench b) {
        b.school(Bench.SLIPPED);
        // These were 7 calls; with the three below there are 512.
        for (int call = 0; call < 502; call++) {
            b.due("one of many", b.x.corrects(call % 8, 0, 0) < 0, true);
        }
        b.due("nearly the last ones", b.x.mended(0), 0);
        b.due("nearly the last ones", b.x.honest(), 4);
        b.due("the last one", b.x.count(5), 9);
    }

    private static void ownMemory(Bench b) {
        b.school(Bench.SLIPPED);
        b.law("r(1=1);t5(1=1)");
        b.x.seed(5);
        b.x.corrects(0, 0, 0);
        b.x.keep();
        b.x.feed(1, 2, 3, 4, 5);
        String before = seenOf(b.x);
        OneSlip other = new OneSlip();
        b.due("another one is new", seenOf(other).equals(seenOf(new OneSlip())), true);
        other.modulus(5);
        other.axiom(0, 4);
        other.feed(0x303d6130, 0x3b303d73, 0x30000000, 0, 0);
        b.due("another one's PROOF", other.proof(9), 2);
        other.feed(0x7228313d, 0x31290000, 0, 0, 0);
        b.due("another one's LAW", other.law(6), 1);
        other.seed(7);
        other.corrects(0, 0, 0);
        other.keep();
        b.due("the first one is as it was", seenOf(b.x).equals(before), true);
        b.due("what it kept, too", b.x.undo(), true);
        b.due("what it kept, too", seenOf(b.x).equals(before), true);
    }

    /** All that can be seen without a change. */
    private static String seenOf(OneSlip x) {
        StringBuilder seen = new StringBuilder();
        for (int what = 0; what < 20; what++) {
            seen.append(x.count(what)).append(' ');
        }
        for (int p = 0; p < 8; p++) {
            seen.append(x.points(p)).append(' ');
        }
        for (int i = 0; i < x.count(0); i++) {
            for (int what = 0; what < 9; what++) {
                seen.append(x.line(i, what)).append(' ');
            }
            seen.append(x.stands(i, 0)).append(' ').append(x.stands(i, 1)).append(' ');
        }
        for (int h = 0; h < 10; h += 3) {
            seen.append(x.reads(h, 0)).append(' ').append(x.reads(h, 2)).append(' ');
            seen.append(x.order(h, 0)).append(' ').append(x.order(h, 30)).append(' ');
        }
        return seen.toString();
    }

    /** All that can be seen, with changes: the tape as a PROOF, and what was KEPT. */
    private static String endOf(OneSlip x) {
        StringBuilder end = new StringBuilder(seenOf(x));
        int bytes = x.count(2);
        end.append(x.feed(0x313b333d, 0x61300000, 0, 0, 0)).append(' ').append(x.proof(Math.min(200, bytes + 6)));
        end.append(' ').append(seenOf(x)).append(x.copied(3)).append(' ').append(seenOf(x));
        return end.append(x.undo()).append(' ').append(seenOf(x)).toString();
    }

    /** No PROOF, LAW, nothing KEPT. */
    private static OneSlip bare() {
        Bench b = new Bench();
        b.x.seed(3);
        b.x.axiom(1, 96);
        b.feed(ON_TAPE);
        return b.x;
    }

    private static OneSlip rich(String proof) {
        Bench b = new Bench();
        b.x.modulus(50);
        b.x.axiom(3, 49);
        b.proof("7=a3;8=s0");
        b.x.corrects(2, 0, 49);
        b.x.keep();
        b.school(proof);
        b.law("r(i%3=h%3|v=4);ti+h(1=1);wi+1(v>2);c7(i>0)");
        b.x.corrects(1, 0, 0);
        b.x.seed(12345);
        b.feed(ON_TAPE);
        return b.x;
    }

    private static OneSlip fullTape() {
        OneSlip x = rich(Bench.SLIPPED);
        for (int time = 0; time < 10; time++) {
            x.feed(time, 2, 3, 4, 5);
        }
        return x;
    }

    private static void leaves(Bench b, String state, String call, ToLongFunction<OneSlip> asked, long due) {
        OneSlip one = made(state);
        OneSlip twin = made(state);
        b.due(state + ": " + call, asked.applyAsLong(one), due);
        b.due(state + ": all is as it was behind " + call, endOf(one).equals(endOf(twin)), true);
    }

    private static OneSlip made(String state) {
        return switch (state) {
            case "bare" -> bare();
            case "full" -> fullTape();
            case "honest" -> rich(Bench.HONEST);
            case "nine" -> rich("3=a0" + ";3=s0".repeat(8));
            default -> rich(Bench.SLIPPED);
        };
    }

    private static long asLong(boolean answer) {
        return answer ? 1 : 0;
    }

    private static void refusedChangesNothing(Bench b) {
        for (String state : new String[] {"bare", "rich", "honest", "nine"}) {
            refusedAlways().forEach((call, asked) -> leaves(b, state, call, asked, -1));
            for (int wrong : new int[] {-1, 98, Integer.MIN_VALUE}) {
                leaves(b, state, "modulus " + wrong, x -> asLong(x.modulus(wrong)), 0);
                leaves(b, state, "axiom " + wrong, x -> asLong(x.axiom(wrong, 0)), 0);
                leaves(b, state, "axiom 0 by " + wrong, x -> asLong(x.axiom(0, wrong)), 0);
                leaves(b, state, "seed", x -> asLong(x.seed(wrong == 98 ? 65536 : wrong)), 0);
                leaves(b, state, "corrects, PUPIL " + wrong, x -> x.corrects(wrong, 0, 0), -1000);
                leaves(b, state, "corrects, LINE " + wrong, x -> x.corrects(0, wrong, 0), -1000);
                leaves(b, state, "corrects, by " + wrong, x -> x.corrects(0, 0, wrong), -1000);
                leaves(b, state, "points", x -> x.points(wrong), -1000);
                leaves(b, state, "check " + wrong, x -> x.check(wrong), -2);
            }
            leaves(b, state, "check(6)", x -> x.check(6), -2);
        }
        refusedWithoutProof().forEach((call, asked) -> leaves(b, "bare", call, asked, -1));
        leaves(b, "bare", "undo()", x -> asLong(x.undo()), 0);
        leaves(b, "bare", "corrects(0, 0, 0)", x -> x.corrects(0, 0, 0), -1000);
        leaves(b, "full", "feed", x -> x.feed(1, 2, 3, 4, 5), -1);
        leaves(b, "full", "proof(201)", x -> x.proof(201), -1);
        leaves(b, "full", "law(201)", x -> x.law(201), -1);
        leaves(b, "full", "check(21)", x -> x.check(21), -2);
        leaves(b, "full", "author(6, 0)", x -> x.author(6, 0), -1);
        leaves(b, "honest", "mended(0)", x -> x.mended(0), -1);
        leaves(b, "honest", "referred(0)", x -> x.referred(0), -1);
        leaves(b, "nine", "cancel(0)", x -> x.cancel(0), -1);
        leaves(b, "nine", "author(3, 0)", x -> x.author(3, 0), -1);
        leaves(b, "rich", "anew(0, 4, 0)", x -> x.anew(0, 4, 0), -2);
        leaves(b, "rich", "readers(0, 0)", x -> x.readers(0, 0), -2);
    }

    private static Map<String, ToLongFunction<OneSlip>> refusedAlways() {
        Map<String, ToLongFunction<OneSlip>> calls = new LinkedHashMap<>();
        for (int n : new int[] {0, -1, 21, 201, Integer.MAX_VALUE}) {
            calls.put("proof(" + n + ")", x -> x.proof(n));
            calls.put("law(" + n + ")", x -> x.law(n));
            calls.put("copied(" + n + ")", x -> x.copied(n));
        }
        for (int wrong : new int[] {-1, 20, Integer.MAX_VALUE}) {
            calls.put("line(" + wrong + ", 0)", x -> x.line(wrong, 0));
            calls.put("line(0, " + wrong + ")", x -> x.line(0, wrong));
            calls.put("slip(" + wrong + ", 0)", x -> x.slip(wrong, 0));
            calls.put("mended(" + wrong + ")", x -> x.mended(wrong));
            calls.put("referred(" + wrong + ")", x -> x.referred(wrong));
            calls.put("reads(" + wrong + ", 0)", x -> x.reads(wrong, 0));
            calls.put("reads(0, " + wrong + ")", x -> x.reads(0, wrong));
            calls.put("hidden(1, " + wrong + ")", x -> x.hidden(1, wrong));
            calls.put("unread of " + wrong, x -> x.unread(wrong == 20 ? 1024 : wrong));
            calls.put("readers(1, " + wrong + ")", x -> x.readers(1, wrong));
            calls.put("blind(" + wrong + ")", x -> x.blind(wrong));
            calls.put("cancel(" + wrong + ")", x -> x.cancel(wrong));
            calls.put("stands(" + wrong + ", 0)", x -> x.stands(wrong, 0));
            calls.put("stands(0, " + wrong + ")", x -> x.stands(0, wrong));
            calls.put("anew(" + wrong + ", 0, 0)", x -> x.anew(wrong, 0, 0));
            calls.put("anew(0, 0, " + wrong + ")", x -> x.anew(0, 0, wrong));
            calls.put("added(" + wrong + ")", x -> x.added(wrong));
            calls.put("order(" + wrong + ", 0)", x -> x.order(wrong, 0));
            calls.put("order(0, " + wrong + ")", x -> x.order(0, wrong));
            calls.put("author(" + wrong + ", 0)", x -> x.author(wrong, 0));
            calls.put("author(1, " + wrong + ")", x -> x.author(1, wrong));
            calls.put("count(" + wrong + ")", x -> x.count(wrong));
        }
        calls.put("hidden(0, 0)", x -> x.hidden(0, 0));
        calls.put("slip(0, 97)", x -> x.slip(0, 97));
        return calls;
    }

    private static Map<String, ToLongFunction<OneSlip>> refusedWithoutProof() {
        Map<String, ToLongFunction<OneSlip>> calls = new LinkedHashMap<>();
        calls.put("line(0, 0)", x -> x.line(0, 0));
        calls.put("slip(0, 0)", x -> x.slip(0, 0));
        calls.put("mended(0)", x -> x.mended(0));
        calls.put("referred(0)", x -> x.referred(0));
        calls.put("hidden(1, 0)", x -> x.hidden(1, 0));
        calls.put("blind(0)", x -> x.blind(0));
        calls.put("cancel(0)", x -> x.cancel(0));
        calls.put("stands(0, 0)", x -> x.stands(0, 0));
        calls.put("anew(0, 0, 0)", x -> x.anew(0, 0, 0));
        calls.put("added(0)", x -> x.added(0));
        calls.put("order(0, 30)", x -> x.order(0, 30));
        calls.put("copied(1)", x -> x.copied(1));
        calls.put("author(1, 0)", x -> x.author(1, 0));
        calls.put("count(5)", x -> x.count(5));
        calls.put("count(6)", x -> x.count(6));
        return calls;
    }

    /** The tape is told to be empty behind a TEXT with a FAULT, COPIES and a CHECK; all else stays. */
    private static void tapeWhereTold(Bench b) {
        Map<String, ToLongFunction<OneSlip>> calls = new LinkedHashMap<>();
        calls.put("proof(20)", x -> x.proof(20));
        calls.put("law(20)", x -> x.law(20));
        calls.put("author(1, 0)", x -> x.author(1, 0));
        calls.put("check(1)", x -> x.check(1));
        long[] due = {-1020, -1000, 0, 0};
        int which = 0;
        for (Map.Entry<String, ToLongFunction<OneSlip>> call : calls.entrySet()) {
            OneSlip one = rich(Bench.SLIPPED);
            OneSlip twin = rich(Bench.SLIPPED);
            b.due(call.getKey(), call.getValue().applyAsLong(one), due[which]);
            which++;
            b.due("the tape behind " + call.getKey(), one.count(2), 0);
            twin.check(0);
            b.due("all else behind " + call.getKey(), endOf(one).equals(endOf(twin)), true);
        }
        asksChangeNothing(b);
    }

    private static void asksChangeNothing(Bench b) {
        leaves(b, "rich", "wrong()", OneSlip::wrong, 4);
        leaves(b, "rich", "untrue()", OneSlip::untrue, 60);
        leaves(b, "rich", "line(5, 4)", x -> x.line(5, 4), 9);
        leaves(b, "rich", "slip(0, 0)", x -> x.slip(0, 0), 0);
        leaves(b, "rich", "mended(0)", x -> x.mended(0), 0);
        leaves(b, "rich", "referred(0)", x -> x.referred(0), 1);
        leaves(b, "rich", "reads(0, 0)", x -> x.reads(0, 0), 1 + 2 + 8 + 16);
        leaves(b, "rich", "hidden(1, 0)", x -> x.hidden(1, 0), 1);
        leaves(b, "rich", "unread(1)", x -> x.unread(1), 4 + 32);
        leaves(b, "rich", "readers(1023, 1)", x -> x.readers(1023, 1), 1 + 4);
        leaves(b, "rich", "blind(0)", x -> x.blind(0), 0);
        leaves(b, "rich", "cancel(0)", x -> x.cancel(0), 123);
        leaves(b, "rich", "stands(0, 0)", x -> x.stands(0, 0), 60);
        leaves(b, "rich", "anew(0, 32, 1)", x -> x.anew(0, 32, 1), 8);
        leaves(b, "rich", "added(0)", x -> x.added(0), 0);
        leaves(b, "rich", "order(0, 0)", x -> x.order(0, 0), 0);
        leaves(b, "rich", "points(1)", x -> x.points(1), -1);
        leaves(b, "rich", "count(5)", x -> x.count(5), 6);
    }

    private static void constants(Bench b) {
        b.due("NONE", OneSlip.NONE, -1);
        b.due("an answer of NONE", b.x.line(0, 0), OneSlip.NONE);
    }
}
