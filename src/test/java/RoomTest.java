import java.lang.management.ManagementFactory;
import java.util.Random;

/** All calls of a run live in one room: only the constructor makes objects, and not many. */
public final class RoomTest {
    private static final int ROUNDS = 200;
    private static final long MOST_FOR_AN_OBJECT = 60_000;
    /** What measuring itself may take, beside a whole round of calls. */
    private static final long MOST_FOR_A_ROUND = 100;

    private static final com.sun.management.ThreadMXBean MEASURE =
            (com.sun.management.ThreadMXBean) ManagementFactory.getThreadMXBean();

    private static int sum = 0;

    public static void main(String[] args) {
        Bench b = new Bench();
        Random chance = new Random(1);
        long least = Long.MAX_VALUE;
        long leastToMake = Long.MAX_VALUE;
        String[] laws = {"r([i+h]%3<2&!v=5|u>1);t[i*7+v]%9(1=1);wi+1(v/i<9);c5(v%2=0)", "r(!!!(v%h=[i]));t1/0(1=1)"};
        for (int round = 0; round < ROUNDS; round++) {
            long before = allocated();
            OneSlip x = new OneSlip();
            leastToMake = Math.min(leastToMake, allocated() - before);
            b.x = x;
            x.modulus(12);
            b.proof("3=a0;4=a1;7=+0,1;9=*2,0;9=s3;3=n4;0=*1,5");
            b.law(laws[round % laws.length]);
            before = allocated();
            for (int call = 0; call < 300; call++) {
                callAny(x, call % 31, chance.nextInt(8), chance.nextInt(12));
            }
            least = Math.min(least, allocated() - before);
        }
        System.out.println("an object takes " + leastToMake + " bytes, 300 calls take " + least + " (" + sum + ")");
        if (leastToMake > MOST_FOR_AN_OBJECT || least > MOST_FOR_A_ROUND) {
            System.out.println("that is too much");
            System.exit(1);
        }
    }

    private static long allocated() {
        return MEASURE.getCurrentThreadAllocatedBytes();
    }

    private static void callAny(OneSlip x, int method, int a, int b) {
        switch (method) {
            case 0: sum += x.feed(0x353d6130, 0x3b363d73, 0x30000000, a, b); break;
            case 1: sum += x.law(9); break;
            case 2: sum += x.check(a); break;
            case 3: sum += x.line(a, b % 9); break;
            case 4: sum += x.wrong() + x.untrue(); break;
            case 5: sum += x.slip(a, b); break;
            case 6: sum += x.honest(); break;
            case 7: sum += x.mended(0) + x.referred(0); break;
            case 8: sum += x.reads(a, b % 3); break;
            case 9: sum += x.hidden(1 + a * 100, b % 3); break;
            case 10: sum += x.unread(a * 140); break;
            case 11: sum += x.readers(a * 140, b % 2); break;
            case 12: sum += x.blind(a); break;
            case 13: sum += x.cancel(b % 5); break;
            case 14: sum += x.stands(a, b % 2); break;
            case 15: sum += x.anew(a, 96 & ~(1 << a), b % 2); break;
            case 16: sum += x.added(b % 2); break;
            case 17: sum += (int) x.order(a, b); break;
            case 18: sum += x.seed(a * 1000) ? 1 : 0; break;
            case 19: sum += x.copied(1 + b); break;
            case 20: sum += x.author(a % 3, b % 3); break;
            case 21: sum += x.corrects(a, a, b); break;
            case 22: sum += x.points(a); break;
            case 23: sum += x.keep(); break;
            case 24: sum += x.undo() ? 1 : 0; break;
            case 25: sum += x.axiom(a, b) ? 1 : 0; break;
            default: sum += x.count(b); break;
        }
    }
}
