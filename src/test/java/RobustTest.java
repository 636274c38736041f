import java.lang.management.ManagementFactory;
import java.util.Random;

/** Calls by chance with any numbers in any state: none throws, each ends, the room they take stays small. */
public final class RobustTest {
    private static final int CALLS = 512;
    // A run has room for 7.3 million fields and elements; a long takes eight bytes.
    private static final long BYTES_MOST = 8L * 1_000_000;

    private static final String[] GRAMMARS = {
        "grammar most 4 a b;a=atom a with b;b=bag a;",
        "grammar most 6 x n s;x=atom b or atom w;n=ring x;s=set n or set 2 x with unit or x with unit;",
        "grammar most 7 s;s=row (atom a or atom b or atom c);",
        "grammar most 7 a b c;a=row 1 row 1 row 1 row 1 row 1 row 1 b;b=row 1 row 1 row 1 row 1 row 1 row 1 c;c=atom x with a or atom x or atom y;",
        "grammar most 7 a b c;a=((((((b))))));b=((((((c))))));c=atom x with a or unit;",
        "grammar most 7 a b;a=ring ring ring ring ring ring b;b=atom x or atom y;",
        "grammar most 7 a b c d e f;a=b with b with b with b;b=c with c with c with c;c=d with d with d with d;d=e with e with e with e;e=f with f with f with f;f=unit with unit with unit;",
        "grammar most 7 a b c d e f;a=b with b with b with b;b=c with c with c with c;c=d with d with d with d;d=e with e with e;e=f with f with f;f=unit or atom x with a;",
        "grammar most 7 a;a=atom a with set a or atom b with ring a or atom c with bag a or atom d with row a;",
        "grammar most 7 a b;a=b with atom x;b=a with unit;",
        "grammar most 7 a b c;a=set 7 b;b=c with atom x;c=unit or unit or unit or unit or unit or unit or unit or unit;",
        "grammar most 0 a;", "grammar most 7 a b c d e f;", ""};

    private final Random chance;

    private RobustTest(long seed) {
        chance = new Random(seed);
    }

    private int any(int usual) {
        switch (chance.nextInt(25)) {
            case 0: return -1;
            case 1: return usual;
            case 2: return Integer.MAX_VALUE;
            case 3: return Integer.MIN_VALUE;
            case 4: return chance.nextInt();
            default: return chance.nextInt(Math.max(1, usual));
        }
    }

    private long call(GrownKinds x) {
        int k = any(6);
        int n = any(8);
        int r = any(chance.nextBoolean() ? 4 : 200);
        int t = any(chance.nextBoolean() ? 3 : 10);
        int l = any(26);
        switch (chance.nextInt(50)) {
            case 0: return x.feed(chance.nextInt(), chance.nextInt(), chance.nextInt(), chance.nextInt(), chance.nextInt());
            case 1: return x.end(any(400));
            case 2: return chance.nextInt(4) == 0 ? x.grammar() : 0;
            case 3: return chance.nextInt(3) == 0 ? Kit.grammar(x, GRAMMARS[chance.nextInt(GRAMMARS.length)]) : 0;
            case 4: return x.fault(any(2));
            case 5: return x.count(any(6));
            case 6: return x.terms(k) + x.off(k);
            case 7: return x.letters(k) + x.uses(k);
            case 8: return x.reaches(k) + x.empty(k) + x.leans(k);
            case 9: return x.blank();
            case 10: return x.least(k);
            case 11: return x.things(k, n);
            case 12: return x.upto(k, n);
            case 13: return x.labelled(k, n);
            case 14: return x.first(k, chance.nextBoolean() ? chance.nextLong() : any(100));
            case 15: return x.marked(k, n, l, any(8));
            case 16: return x.by(k, n, t);
            case 17: return x.without(k, t, any(6), n);
            case 18: return x.hangs(k, n);
            case 19: return x.idle();
            case 20: return x.length(k, n, r);
            case 21: return x.sign(k, n, r, any(50));
            case 22: return x.deep(k, n, r);
            case 23: return x.atoms(k, n, r, l);
            case 24: return x.term(k, n, r);
            case 25: return x.symmetries(k, n, r);
            case 26: return x.labels(k, n, r);
            case 27: return tells(x, k);
            case 28: return x.told(any(2));
            case 29: return x.shared(k, any(6), n);
            case 30: return x.deepest(k, n);
            case 31: return x.fullest(k, n, l);
            case 32: return x.stiffest(k, n);
            case 33: return x.chance(k, n, t, any(2));
            case 34: return x.mean(k, n, l, any(2));
            case 35: return x.boxed(k, n, any(8));
            case 36: return x.bits(k, n, any(8));
            case 37: return x.drawn(k, n, any(8), chance.nextInt(), any(2));
            case 38: return x.deal(k, n, any(8), chance.nextInt());
            case 39: return x.dealt();
            case 40: return x.left();
            case 41: return x.takes(k, t);
            case 42: return x.undo();
            case 43: return chance.nextInt(4) == 0 ? x.anew() : 0;
            default: return x.length(any(6), n, 0);
        }
    }

    private long tells(GrownKinds x, int k) {
        StringBuilder text = new StringBuilder();
        String signs = chance.nextBoolean() ? "abcx-0123[]{}<>()" : chance.nextBoolean() ? "[]{}()<>" : "01x";
        int length = chance.nextInt(45);
        for (int i = 0; i < length; i++) {
            text.append(signs.charAt(chance.nextInt(signs.length())));
        }
        return Kit.tells(x, k, text.toString());
    }

    private static long allocated() {
        return ((com.sun.management.ThreadMXBean) ManagementFactory.getThreadMXBean())
            .getThreadAllocatedBytes(Thread.currentThread().getId());
    }

    /** What the class takes of the room in its dearest calls, one upon the other, all of one object's calls. */
    private static void room(String grammar) {
        long before = allocated();
        GrownKinds x = new GrownKinds();
        Kit.grammar(x, grammar);
        for (int i = 0; i < CALLS / 8; i++) {
            int k = i % Math.max(1, x.count(0));
            int n = Math.max(0, x.count(1) - i / 6 % 3);
            x.takes(k, i % 3);
            x.deepest(k, n);
            x.shared(k, 0, n);
            x.hangs(k, n);
            x.marked(k, n, 0, 1);
            x.labelled(k, n);
            x.undo();
            x.stiffest(k, n);
        }
        long taken = allocated() - before;
        Kit.holds("bytes taken by " + grammar + ": " + taken, taken < BYTES_MOST);
    }

    public static void main(String[] args) {
        int runs = args.length > 0 ? Integer.parseInt(args[0]) : 1500;
        for (int run = 0; run < runs; run++) {
            RobustTest some = new RobustTest(run);
            GrownKinds x = new GrownKinds();
            Kit.grammar(x, GRAMMARS[run % GRAMMARS.length]);
            for (int i = 0; i < CALLS; i++) {
                Kit.holds("an answer is at least -5", some.call(x) >= -15);
            }
        }
        for (String grammar : GRAMMARS) {
            Kit.of(grammar);
            room(grammar);
        }
        Kit.finish("RobustTest");
    }
}
