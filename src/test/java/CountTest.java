import java.math.BigInteger;
import java.util.ArrayList;
import java.util.List;
import java.util.Random;

/** Numbers far above what can be listed: against whole numbers without bounds, by cycle indices instead of classes. */
public final class CountTest {
    private static final BigInteger CAP = BigInteger.valueOf(1_000_000_000_000L);
    private static final int W = 8;

    private final Random chance;
    private final StringBuilder text = new StringBuilder();
    private int most;
    private int kinds;
    private int parts;
    private Node[] lines;

    /** what: a atom, u unit, n name, r row, b bag, s set, o ring, g group. */
    private static final class Node {
        char what;
        int value;
        Node inside;
        final List<List<Node>> terms = new ArrayList<>();
        int off;
    }

    private CountTest(long seed) {
        chance = new Random(seed);
    }

    private Node expr(int deep, int many) {
        Node e = new Node();
        e.what = 'g';
        int terms = 1 + chance.nextInt(many);
        for (int t = 0; t < terms && (t == 0 || parts < 24); t++) {
            text.append(t > 0 ? " or " : "");
            List<Node> term = new ArrayList<>();
            int size = 1 + chance.nextInt(4);
            for (int i = 0; i < size && (i == 0 || parts < 24); i++) {
                text.append(i > 0 ? " with " : "");
                term.add(part(deep));
            }
            e.terms.add(term);
        }
        return e;
    }

    private Node part(int deep) {
        parts++;
        Node p = new Node();
        int d = chance.nextInt(20);
        d = parts >= 23 || deep >= 5 ? d % 12 : d;
        if (d < 3) {
            p.what = 'a';
            p.value = chance.nextInt(2);
            text.append("atom ").append((char) ('a' + p.value));
        } else if (d < 6) {
            p.what = 'u';
            text.append("unit");
        } else if (d < 12) {
            p.what = 'n';
            p.value = chance.nextInt(kinds);
            text.append((char) ('k' + p.value));
        } else if (d < 18) {
            int c = chance.nextInt(4);
            p.what = "rbso".charAt(c);
            p.value = chance.nextInt(3) == 0 ? 1 + chance.nextInt(4) : 0;
            text.append(new String[] {"row ", "bag ", "set ", "ring "}[c]).append(p.value > 0 ? p.value + " " : "");
            p.inside = part(deep + 1);
        } else {
            text.append('(');
            Node g = expr(deep + 1, 4);
            text.append(')');
            return g;
        }
        return p;
    }

    private void invent() {
        most = 3 + chance.nextInt(5);
        boolean large = chance.nextBoolean();
        kinds = large ? 4 + chance.nextInt(3) : 2 + chance.nextInt(5);
        lines = new Node[kinds];
        text.append("grammar most ").append(most);
        for (int k = 0; k < kinds; k++) {
            text.append(' ').append((char) ('k' + k));
        }
        text.append(';');
        int own = large ? kinds - 3 : kinds;
        if (large) {
            inventLarge(own);
        }
        for (int k = 0; k < own && parts < 22; k++) {
            text.append((char) ('k' + k)).append('=');
            lines[k] = expr(0, large ? 3 : 5);
            text.append(';');
        }
    }

    /** Three KINDS of which the last have more THINGS than are told: of size 0, and of size 1. */
    private void inventLarge(int k) {
        int units = 3 + chance.nextInt(3);
        int several = 3 + chance.nextInt(3);
        int held = 1 + chance.nextInt(4);
        lines[k + 2] = node('g', 0);
        for (int i = 0; i < units; i++) {
            lines[k + 2].terms.add(new ArrayList<>(List.of(node('u', 0))));
        }
        List<Node> some = new ArrayList<>();
        for (int i = 0; i < several; i++) {
            some.add(node('n', k + 2));
        }
        lines[k + 1] = node('g', 0);
        lines[k + 1].terms.add(some);
        List<Node> sized = new ArrayList<>(List.of(node('a', chance.nextInt(2))));
        for (int i = 0; i < held; i++) {
            sized.add(node('n', k + 1));
        }
        lines[k] = node('g', 0);
        lines[k].terms.add(sized);
        for (int i = k; i < k + 3; i++) {
            text.append((char) ('k' + i)).append('=');
            tell(lines[i]);
            text.append(';');
        }
        parts = units + some.size() + sized.size();
    }

    private static Node node(char what, int value) {
        Node p = new Node();
        p.what = what;
        p.value = value;
        return p;
    }

    private void tell(Node e) {
        for (int t = 0; t < e.terms.size(); t++) {
            text.append(t > 0 ? " or " : "");
            for (int i = 0; i < e.terms.get(t).size(); i++) {
                Node p = e.terms.get(t).get(i);
                text.append(i > 0 ? " with " : "");
                text.append(p.what == 'u' ? "unit" : p.what == 'a' ? "atom " + (char) ('a' + p.value) : "" + (char) ('k' + p.value));
            }
        }
    }

    // ---- sums by size and letter: [n * 8 + k]

    private BigInteger[] zero() {
        BigInteger[] z = new BigInteger[W * W];
        java.util.Arrays.fill(z, BigInteger.ZERO);
        return z;
    }

    private BigInteger[] one() {
        BigInteger[] z = zero();
        z[0] = BigInteger.ONE;
        return z;
    }

    private BigInteger[] add(BigInteger[] a, BigInteger[] b, long sign) {
        BigInteger[] z = zero();
        for (int i = 0; i < W * W; i++) {
            z[i] = a[i].add(b[i].multiply(BigInteger.valueOf(sign)));
        }
        return z;
    }

    private static BigInteger choose(int n, int k) {
        BigInteger c = BigInteger.ONE;
        for (int i = 0; i < k; i++) {
            c = c.multiply(BigInteger.valueOf(n - i)).divide(BigInteger.valueOf(i + 1));
        }
        return c;
    }

    private boolean labelled;
    private int letter;

    private BigInteger[] times(BigInteger[] a, BigInteger[] b) {
        BigInteger[] z = zero();
        for (int n = 0; n <= most; n++) {
            for (int i = 0; i <= n; i++) {
                for (int p = 0; p <= i; p++) {
                    if (a[i * W + p].signum() == 0) {
                        continue;
                    }
                    for (int q = 0; q <= n - i; q++) {
                        BigInteger y = b[(n - i) * W + q];
                        if (y.signum() != 0) {
                            BigInteger w = a[i * W + p].multiply(y);
                            w = labelled ? w.multiply(choose(n, i)) : w;
                            z[n * W + p + q] = z[n * W + p + q].add(w);
                        }
                    }
                }
            }
        }
        return z;
    }

    private BigInteger[] power(BigInteger[] a, int m) {
        BigInteger[] z = one();
        for (int i = 0; i < m; i++) {
            z = times(z, a);
        }
        return z;
    }

    /** Each size and number of letters i times as large. */
    private BigInteger[] stretched(BigInteger[] a, int i) {
        BigInteger[] z = zero();
        for (int n = 0; n * i <= most; n++) {
            for (int k = 0; k <= n; k++) {
                z[n * i * W + k * i] = a[n * W + k];
            }
        }
        return z;
    }

    private BigInteger[] over(BigInteger[] a, long by) {
        BigInteger[] z = zero();
        for (int i = 0; i < W * W; i++) {
            BigInteger[] d = a[i].divideAndRemainder(BigInteger.valueOf(by));
            if (d[1].signum() != 0) {
                throw new IllegalStateException("a rest");
            }
            z[i] = d[0];
        }
        return z;
    }

    private BigInteger[] many(char what, BigInteger[] a, int m) {
        if (what == 'r') {
            return power(a, m);
        }
        if (labelled) {
            long f = m;
            for (int i = 1; what != 'o' && i < m; i++) {
                f *= i;
            }
            return over(power(a, m), Math.max(1, f));
        }
        if (what == 'o') {
            BigInteger[] z = zero();
            for (int turn = 0; turn < m; turn++) {
                int g = BigInteger.valueOf(turn).gcd(BigInteger.valueOf(m)).intValue();
                z = add(z, power(stretched(a, m / g), g), 1);
            }
            return over(z, m);
        }
        BigInteger[][] h = new BigInteger[m + 1][];
        h[0] = one();
        for (int j = 1; j <= m; j++) {
            BigInteger[] z = zero();
            for (int i = 1; i <= j; i++) {
                z = add(z, times(stretched(a, i), h[j - i]), what == 's' && i % 2 == 0 ? -1 : 1);
            }
            h[j] = over(z, j);
        }
        return h[m];
    }

    private BigInteger[] of(Node p, BigInteger[][] known) {
        BigInteger[] z = zero();
        switch (p.what) {
            case 'a':
                z[W + (p.value == letter ? 1 : 0)] = BigInteger.ONE;
                return z;
            case 'u':
                return one();
            case 'n':
                return known[p.value];
            case 'g':
                for (int t = 0; t < p.terms.size(); t++) {
                    if ((p.off >> t & 1) == 0) {
                        z = add(z, ofTerm(p, t, known), 1);
                    }
                }
                return z;
            default:
                BigInteger[] a = of(p.inside, known);
                if (p.value > 0) {
                    return many(p.what, a, p.value);
                }
                for (int m = p.what == 'o' ? 1 : 0; m <= most; m++) {
                    z = add(z, many(p.what, a, m), 1);
                }
                return z;
        }
    }

    private BigInteger[] ofTerm(Node e, int t, BigInteger[][] known) {
        BigInteger[] z = one();
        for (Node p : e.terms.get(t)) {
            z = times(z, of(p, known));
        }
        return z;
    }

    /** From nothing known to all known: each round makes one more step of size or of leaning right. */
    private BigInteger[][] solve() {
        BigInteger[][] known = new BigInteger[kinds][];
        for (int k = 0; k < kinds; k++) {
            known[k] = zero();
        }
        boolean more = true;
        for (int round = 0; more && round <= (most + 2) * (kinds + 1); round++) {
            more = false;
            for (int k = 0; k < kinds; k++) {
                BigInteger[] next = lines[k] == null ? zero() : of(lines[k], known);
                more |= !java.util.Arrays.equals(next, known[k]);
                known[k] = next;
            }
        }
        return known;
    }

    private static int capped = 0;

    private static long told(BigInteger b) {
        capped += b.compareTo(CAP) > 0 ? 1 : 0;
        return b.min(CAP).longValueExact();
    }

    private BigInteger sizeOf(BigInteger[] a, int n) {
        BigInteger s = BigInteger.ZERO;
        for (int k = 0; k <= n; k++) {
            s = s.add(a[n * W + k]);
        }
        return s;
    }

    private boolean tryOne(GrownKinds x) {
        invent();
        if (text.length() > 400 || Kit.grammar(x, text.toString()) < 0) {
            return false;
        }
        String about = text + ": ";
        letter = chance.nextInt(2);
        labelled = false;
        BigInteger[][] plain = solve();
        for (int k = 0; k < kinds; k++) {
            BigInteger up = BigInteger.ZERO;
            for (int n = 0; n <= most; n++) {
                BigInteger s = sizeOf(plain[k], n);
                up = up.add(s);
                Kit.due(about + "things " + k + " " + n, x.things(k, n), told(s));
                Kit.due(about + "upto " + k + " " + n, x.upto(k, n), told(up));
                Kit.due(about + "boxed " + k + " 0 " + n, x.boxed(k, 0, n), told(up));
                for (int m = 0; m <= 7; m++) {
                    Kit.due(about + "marked " + k + " " + n, x.marked(k, n, letter, m), m > n ? 0 : told(plain[k][n * W + m]));
                }
                for (int t = 0; lines[k] != null && t < lines[k].terms.size(); t++) {
                    Kit.due(about + "by", x.by(k, n, t), told(sizeOf(ofTerm(lines[k], t, plain), n)));
                }
            }
        }
        lookAtWithout(x, about);
        labelled = true;
        letter = -1;
        BigInteger[][] numbered = solve();
        for (int k = 0; k < kinds; k++) {
            for (int n = 0; n <= most; n++) {
                Kit.due(about + "labelled " + k + " " + n, x.labelled(k, n), told(numbered[k][n * W]));
            }
        }
        return true;
    }

    private void lookAtWithout(GrownKinds x, String about) {
        int k = chance.nextInt(kinds);
        if (lines[k] == null) {
            return;
        }
        int t = chance.nextInt(lines[k].terms.size());
        lines[k].off = 1 << t;
        letter = -1;
        BigInteger[][] less = solve();
        lines[k].off = 0;
        for (int of = 0; of < kinds; of++) {
            for (int n = 0; n <= most; n++) {
                Kit.due(about + "without " + k + " " + t, x.without(k, t, of, n), told(less[of][n * W]));
            }
        }
    }

    public static void main(String[] args) {
        int tries = args.length > 0 ? Integer.parseInt(args[0]) : 4000;
        long base = args.length > 1 ? Long.parseLong(args[1]) : 1;
        int tried = 0;
        GrownKinds x = new GrownKinds();
        for (int i = 0; i < tries && Kit.wrongs() < 20; i++) {
            tried += new CountTest(base * 7_000_003 + i).tryOne(x) ? 1 : 0;
        }
        System.out.println(tried + " grammars of " + tries + " counted, " + capped + " numbers above what is told");
        Kit.holds("numbers above what is told are met", capped > 1000);
        Kit.finish("CountTest");
    }
}
