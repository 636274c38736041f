import java.util.ArrayList;
import java.util.HashMap;
import java.util.HashSet;
import java.util.List;
import java.util.Map;
import java.util.Random;
import java.util.Set;
import java.util.TreeMap;

/** Grammars made by chance: every answer against THINGS that are all made one by one. */
public final class OracleTest {
    private static final int TOO_MANY = 3000;

    private static final class TooMany extends RuntimeException {
        private static final long serialVersionUID = 1L;
    }

    /** A PART: atom, unit, name, row, bag, set, ring, group. */
    private static final class Part {
        String what;
        int value;
        Part inside;
        Expr expr;
        final Map<Integer, List<Thing>> made = new HashMap<>();
        final Set<Integer> making = new HashSet<>();
    }

    private static final class Expr {
        final List<List<Part>> terms = new ArrayList<>();
        int off;
    }

    private static final class Thing {
        String text;
        int size;
        int rank;
        int deep;
        long sym = 1;
        int term;
        int[] atoms = new int[26];
        Part part;
        final List<Thing> kids = new ArrayList<>();

        int compareTo(Thing o) {
            return size != o.size ? Integer.compare(size, o.size) : Integer.compare(rank, o.rank);
        }
    }

    private final Random chance;
    private int most;
    private int kinds;
    private int partCount;
    private Expr[] lines;
    private boolean setsAsBags;
    private final Map<String, List<Thing>> exprMade = new HashMap<>();

    private OracleTest(long seed) {
        chance = new Random(seed);
    }

    // ---- grammars by chance

    private void invent() {
        most = chance.nextInt(10) < 7 ? 3 + chance.nextInt(5) : chance.nextInt(8);
        kinds = 1 + chance.nextInt(chance.nextBoolean() ? 3 : 6);
        lines = new Expr[kinds];
        partCount = 0;
        for (int k = 0; k < kinds; k++) {
            if (chance.nextInt(12) != 0 && partCount < 18) {
                lines[k] = inventExpr(0, 4);
            }
        }
    }

    private Expr inventExpr(int deep, int terms) {
        Expr e = new Expr();
        int many = 1 + chance.nextInt(terms);
        for (int t = 0; t < many && (t == 0 || partCount < 24); t++) {
            List<Part> term = new ArrayList<>();
            int parts = chance.nextInt(3) == 0 ? 1 : 1 + chance.nextInt(3);
            for (int p = 0; p < parts && (p == 0 || partCount < 24); p++) {
                term.add(inventPart(deep));
            }
            e.terms.add(term);
        }
        return e;
    }

    private Part inventPart(int deep) {
        Part p = new Part();
        partCount++;
        int d = chance.nextInt(20);
        if (partCount >= 23 || deep >= 6) {
            d %= 9;
        }
        if (d < 4) {
            p.what = "atom";
            p.value = chance.nextInt(3);
        } else if (d < 6) {
            p.what = "unit";
        } else if (d < 11) {
            p.what = "name";
            p.value = chance.nextInt(kinds);
        } else if (d < 19) {
            p.what = new String[] {"row", "bag", "set", "ring"}[chance.nextInt(4)];
            p.value = chance.nextInt(3) == 0 ? 1 + chance.nextInt(chance.nextInt(4) == 0 ? 7 : 3) : 0;
            p.inside = inventPart(deep + 1);
        } else {
            p.what = "group";
            p.expr = inventExpr(deep + 1, 3);
        }
        return p;
    }

    private String told() {
        StringBuilder s = new StringBuilder("grammar most " + most);
        for (int k = 0; k < kinds; k++) {
            s.append(' ').append(name(k));
        }
        s.append(';');
        List<Integer> order = new ArrayList<>();
        for (int k = 0; k < kinds; k++) {
            order.add(chance.nextInt(order.size() + 1), k);
        }
        for (int k : order) {
            if (lines[k] != null) {
                s.append(name(k)).append('=');
                tellExpr(s, lines[k]);
                s.append(';');
            }
        }
        return s.toString();
    }

    private static String name(int k) {
        return "" + (char) ('p' + k);
    }

    private void tellExpr(StringBuilder s, Expr e) {
        for (int t = 0; t < e.terms.size(); t++) {
            s.append(t > 0 ? " or " : "");
            for (int i = 0; i < e.terms.get(t).size(); i++) {
                s.append(i > 0 ? " with " : "");
                tellPart(s, e.terms.get(t).get(i));
            }
        }
    }

    private void tellPart(StringBuilder s, Part p) {
        switch (p.what) {
            case "atom":
                s.append("atom ").append((char) ('a' + p.value));
                break;
            case "unit":
                s.append("unit");
                break;
            case "name":
                s.append(name(p.value));
                break;
            case "group":
                s.append('(');
                tellExpr(s, p.expr);
                s.append(')');
                break;
            default:
                s.append(p.what).append(p.value > 0 ? " " + p.value + " " : " ");
                tellPart(s, p.inside);
        }
    }

    // ---- EMPTY, LEANS, uses

    private boolean[] emptyKinds() {
        boolean[] known = new boolean[kinds];
        for (int i = 0; i <= kinds; i++) {
            boolean[] next = new boolean[kinds];
            for (int k = 0; k < kinds; k++) {
                next[k] = lines[k] != null && isEmpty(lines[k], known);
            }
            known = next;
        }
        return known;
    }

    private boolean isEmpty(Expr e, boolean[] known) {
        for (int t = 0; t < e.terms.size(); t++) {
            boolean all = (e.off >> t & 1) == 0;
            for (Part p : e.terms.get(t)) {
                all &= isEmpty(p, known);
            }
            if (all) {
                return true;
            }
        }
        return false;
    }

    private boolean isEmpty(Part p, boolean[] known) {
        switch (p.what) {
            case "atom": return false;
            case "unit": return true;
            case "name": return known[p.value];
            case "group": return isEmpty(p.expr, known);
            case "ring": return isEmpty(p.inside, known);
            default: return p.value == 0 || isEmpty(p.inside, known);
        }
    }

    private int leans(Expr e, boolean[] known) {
        int bits = 0;
        for (int t = 0; e != null && t < e.terms.size(); t++) {
            if ((e.off >> t & 1) != 0) {
                continue;
            }
            List<Part> term = e.terms.get(t);
            for (int i = 0; i < term.size(); i++) {
                boolean others = true;
                for (int j = 0; j < term.size(); j++) {
                    others &= i == j || isEmpty(term.get(j), known);
                }
                if (others) {
                    bits |= leans(term.get(i), known);
                }
            }
        }
        return bits;
    }

    private int leans(Part p, boolean[] known) {
        switch (p.what) {
            case "atom": return 0;
            case "unit": return 0;
            case "name": return 1 << p.value;
            case "group": return leans(p.expr, known);
            default: return p.value <= 1 ? leans(p.inside, known) : 0;
        }
    }

    private boolean hasEmptyInside(Expr e, boolean[] known) {
        if (e == null) {
            return false;
        }
        for (List<Part> term : e.terms) {
            for (Part p : term) {
                if (hasEmptyInside(p, known)) {
                    return true;
                }
            }
        }
        return false;
    }

    private boolean hasEmptyInside(Part p, boolean[] known) {
        if (p.what.equals("group")) {
            return hasEmptyInside(p.expr, known);
        }
        return p.inside != null && (isEmpty(p.inside, known) || hasEmptyInside(p.inside, known));
    }

    private int found(Expr e, boolean names) {
        int bits = 0;
        for (int t = 0; e != null && t < e.terms.size(); t++) {
            if ((e.off >> t & 1) == 0) {
                for (Part p : e.terms.get(t)) {
                    bits |= found(p, names);
                }
            }
        }
        return bits;
    }

    private int found(Part p, boolean names) {
        if (p.what.equals("group")) {
            return found(p.expr, names);
        }
        if (p.inside != null) {
            return found(p.inside, names);
        }
        return p.what.equals(names ? "name" : "atom") ? 1 << p.value : 0;
    }

    private static int over(int[] direct, int k) {
        int seen = 0;
        List<Integer> open = new ArrayList<>();
        open.add(k);
        while (!open.isEmpty()) {
            int o = open.remove(0);
            for (int j = 0; j < direct.length; j++) {
                if ((direct[o] >> j & 1) != 0 && (seen >> j & 1) == 0) {
                    seen |= 1 << j;
                    open.add(j);
                }
            }
        }
        return seen;
    }

    private int meaningless() {
        boolean[] known = emptyKinds();
        int[] direct = new int[kinds];
        for (int k = 0; k < kinds; k++) {
            direct[k] = leans(lines[k], known);
        }
        for (int k = 0; k < kinds; k++) {
            if ((over(direct, k) >> k & 1) != 0 || hasEmptyInside(lines[k], known)) {
                return k;
            }
        }
        return -1;
    }

    // ---- all THINGS, one by one

    private void forget() {
        exprMade.clear();
        for (Expr e : lines) {
            forget(e);
        }
    }

    private void forget(Expr e) {
        if (e != null) {
            for (List<Part> term : e.terms) {
                for (Part p : term) {
                    forget(p);
                }
            }
        }
    }

    private void forget(Part p) {
        p.made.clear();
        p.making.clear();
        forget(p.expr);
        if (p.inside != null) {
            forget(p.inside);
        }
    }

    private List<Thing> ofKind(int k, int n) {
        String key = k + ":" + n;
        List<Thing> list = exprMade.get(key);
        if (list == null) {
            list = ofExpr(lines[k], n);
            exprMade.put(key, list);
        }
        return list;
    }

    private List<Thing> ofExpr(Expr e, int n) {
        List<Thing> list = new ArrayList<>();
        for (int t = 0; e != null && t < e.terms.size(); t++) {
            if ((e.off >> t & 1) == 0) {
                List<Thing> kids = new ArrayList<>();
                ofTerm(e, t, 0, n, kids, list);
            }
        }
        return number(list);
    }

    private static List<Thing> number(List<Thing> list) {
        for (int i = 0; i < list.size(); i++) {
            list.get(i).rank = i;
        }
        return list;
    }

    private static final boolean[] NOTHING = new boolean[6];

    private void ofTerm(Expr e, int t, int i, int n, List<Thing> kids, List<Thing> into) {
        List<Part> term = e.terms.get(t);
        if (i == term.size()) {
            if (n == 0) {
                Thing x = new Thing();
                x.term = t;
                x.text = e.terms.size() > 1 ? "" + t : "";
                gather(x, kids);
                into.add(x);
                if (into.size() > TOO_MANY) {
                    throw new TooMany();
                }
            }
            return;
        }
        // The sizes of the others must be possible, or a KIND would be asked for itself for ever.
        int least = 0;
        for (int j = i + 1; j < term.size(); j++) {
            least += isEmpty(term.get(j), emptyNow) ? 0 : 1;
        }
        for (int s = 0; s + least <= n; s++) {
            if (i == term.size() - 1 && s != n) {
                continue;
            }
            for (Thing x : ofPart(term.get(i), s)) {
                kids.add(x);
                ofTerm(e, t, i + 1, n - s, kids, into);
                kids.remove(kids.size() - 1);
            }
        }
    }

    private boolean[] emptyNow = NOTHING;

    private static void gather(Thing x, List<Thing> kids) {
        StringBuilder s = new StringBuilder(x.text);
        for (Thing kid : kids) {
            x.kids.add(kid);
            s.append(kid.text);
            x.size += kid.size;
            x.sym *= kid.sym;
            x.deep = Math.max(x.deep, kid.deep);
            for (int l = 0; l < 26; l++) {
                x.atoms[l] += kid.atoms[l];
            }
        }
        x.text = s.toString();
    }

    private List<Thing> ofPart(Part p, int n) {
        if (p.what.equals("name")) {
            return ofKind(p.value, n);
        }
        List<Thing> list = p.made.get(n);
        if (list != null) {
            return list;
        }
        list = new ArrayList<>();
        if (p.what.equals("atom") || p.what.equals("unit")) {
            boolean atom = p.what.equals("atom");
            if (n == (atom ? 1 : 0)) {
                Thing x = new Thing();
                x.size = n;
                x.text = atom ? "" + (char) ('a' + p.value) : "-";
                if (atom) {
                    x.atoms[p.value] = 1;
                }
                list.add(x);
            }
        } else if (p.what.equals("group")) {
            list = ofExpr(p.expr, n);
        } else {
            List<Thing> some = new ArrayList<>();
            if (n > 0 || p.value == 0 && !p.what.equals("ring")) {
                sequences(p, n, some, list);
            }
        }
        p.made.put(n, number(list));
        return list;
    }

    private void sequences(Part p, int left, List<Thing> some, List<Thing> into) {
        boolean bag = p.what.equals("bag") || p.what.equals("set");
        if (left == 0) {
            if ((p.value == 0 || some.size() == p.value) && (!p.what.equals("ring") || isFirst(some))) {
                into.add(sequence(p, some));
                if (into.size() > TOO_MANY) {
                    throw new TooMany();
                }
            }
            return;
        }
        if (p.value > 0 && some.size() >= p.value) {
            return;
        }
        int room = left - (p.value > 0 ? p.value - some.size() - 1 : 0);
        for (int s = 1; s <= room; s++) {
            if (p.value > 0 && some.size() == p.value - 1 && s != left) {
                continue;
            }
            for (Thing x : ofPart(p.inside, s)) {
                if (bag && !some.isEmpty()) {
                    int c = x.compareTo(some.get(some.size() - 1));
                    if (c > 0 || c == 0 && p.what.equals("set") && !setsAsBags) {
                        break;
                    }
                }
                some.add(x);
                sequences(p, left - s, some, into);
                some.remove(some.size() - 1);
            }
        }
    }

    private static boolean isFirst(List<Thing> some) {
        for (int turn = 1; turn < some.size(); turn++) {
            if (compareTurn(some, turn) > 0) {
                return false;
            }
        }
        return true;
    }

    /** The row against that which begins at a turn. */
    private static int compareTurn(List<Thing> some, int turn) {
        for (int i = 0; i < some.size(); i++) {
            int c = some.get(i).compareTo(some.get((i + turn) % some.size()));
            if (c != 0) {
                return c;
            }
        }
        return 0;
    }

    private Thing sequence(Part p, List<Thing> some) {
        Thing x = new Thing();
        x.part = p;
        x.text = "";
        gather(x, some);
        x.deep++;
        if (p.what.equals("ring")) {
            int turns = 0;
            for (int turn = 0; turn < some.size(); turn++) {
                turns += compareTurn(some, turn) == 0 ? 1 : 0;
            }
            x.sym *= turns;
        } else if (p.what.equals("bag") || setsAsBags && p.what.equals("set")) {
            Map<String, Integer> like = new TreeMap<>();
            for (Thing kid : some) {
                int m = like.merge(kid.text, 1, Integer::sum);
                x.sym *= m;
            }
        }
        x.text = open(p) + x.text + shut(p);
        return x;
    }

    private static String open(Part p) {
        return p.what.equals("row") ? "[" : p.what.equals("bag") ? "{" : p.what.equals("set") ? "<" : "(";
    }

    private static String shut(Part p) {
        return p.what.equals("row") ? "]" : p.what.equals("bag") ? "}" : p.what.equals("set") ? ">" : ")";
    }

    /** The THING spelled in another order, from another beginning. */
    private String shuffled(Thing x) {
        if (x.kids.isEmpty()) {
            return x.text;
        }
        List<Thing> kids = new ArrayList<>(x.kids);
        StringBuilder s = new StringBuilder();
        if (x.part == null) {
            if (Character.isDigit(x.text.charAt(0)) && total(kids) < x.text.length()) {
                s.append(x.text.charAt(0));
            }
        } else {
            s.append(open(x.part));
            if (x.part.what.equals("bag") || x.part.what.equals("set")) {
                java.util.Collections.shuffle(kids, chance);
            } else if (x.part.what.equals("ring")) {
                java.util.Collections.rotate(kids, chance.nextInt(kids.size()));
            }
        }
        for (Thing kid : kids) {
            s.append(shuffled(kid));
        }
        return s.append(x.part == null ? "" : shut(x.part)).toString();
    }

    private static int total(List<Thing> kids) {
        int sum = 0;
        for (Thing kid : kids) {
            sum += kid.text.length();
        }
        return sum;
    }

    // ---- answers looked at

    private String about;

    private void due(String call, long got, long want) {
        Kit.due(about + " " + call, got, want);
    }

    private void look(GrownKinds x, boolean deeply) {
        boolean[] known = emptyKinds();
        emptyNow = known;
        forget();
        int[] direct = new int[kinds];
        int blank = 0;
        int idle = 0;
        for (int k = 0; k < kinds; k++) {
            direct[k] = found(lines[k], true);
        }
        for (int k = 0; k < kinds; k++) {
            due("terms " + k, x.terms(k), lines[k] == null ? 0 : lines[k].terms.size());
            due("off " + k, x.off(k), lines[k] == null ? 0 : lines[k].off);
            due("letters " + k, x.letters(k), found(lines[k], false));
            due("uses " + k, x.uses(k), direct[k]);
            due("reaches " + k, x.reaches(k), over(direct, k));
            due("empty " + k, x.empty(k), known[k] ? 1 : 0);
            due("leans " + k, x.leans(k), leans(lines[k], known));
            int least = -1;
            long upto = 0;
            for (int n = 0; n <= most; n++) {
                int many = ofKind(k, n).size();
                upto += many;
                due("things " + k + " " + n, x.things(k, n), many);
                due("upto " + k + " " + n, x.upto(k, n), upto);
                least = least < 0 && many > 0 ? n : least;
                lookAt(x, k, n);
            }
            due("least " + k, x.least(k), least);
            blank |= least < 0 ? 1 << k : 0;
            for (int t = 0; lines[k] != null && t < lines[k].terms.size(); t++) {
                if ((lines[k].off >> t & 1) == 0) {
                    boolean any = false;
                    for (int n = 0; n <= most; n++) {
                        any |= byTerm(k, n, t) > 0;
                    }
                    idle += any ? 0 : 1;
                }
            }
        }
        due("blank", x.blank(), blank);
        due("idle", x.idle(), idle);
        if (deeply) {
            lookAtShared(x);
            lookAtWithout(x);
            lookAtLabelled(x);
            lookAtBox(x);
        }
    }

    private int byTerm(int k, int n, int t) {
        int many = 0;
        for (Thing thing : ofKind(k, n)) {
            many += thing.term == t ? 1 : 0;
        }
        return many;
    }

    private static int gcd(int a, int b) {
        return b == 0 ? a : gcd(b, a % b);
    }

    private void lookAt(GrownKinds x, int k, int n) {
        List<Thing> list = ofKind(k, n);
        int many = list.size();
        for (int l = 0; l < 3; l++) {
            int[] by = new int[9];
            int sum = 0;
            int full = -1;
            for (Thing thing : list) {
                by[thing.atoms[l]]++;
                sum += thing.atoms[l];
                full = full < 0 || thing.atoms[l] > list.get(full).atoms[l] ? thing.rank : full;
            }
            for (int c = 0; c <= 7; c++) {
                due("marked " + k + " " + n + " " + l + " " + c, x.marked(k, n, l, c), by[c]);
            }
            due("fullest " + k + " " + n + " " + l, x.fullest(k, n, l), many > 200 ? -3 : full);
            int g = many == 0 ? 1 : gcd(sum, many);
            due("mean above", x.mean(k, n, l, 0), many > 200 ? -3 : many == 0 ? -1 : sum / g);
            due("mean below", x.mean(k, n, l, 1), many > 200 ? -3 : many == 0 ? -1 : many / g);
        }
        for (int t = 0; lines[k] != null && t < lines[k].terms.size(); t++) {
            int by = byTerm(k, n, t);
            due("by", x.by(k, n, t), by);
            int g = many == 0 ? 1 : gcd(by, many);
            due("chance above", x.chance(k, n, t, 0), many > 200 ? -3 : many == 0 ? -1 : by / g);
            due("chance below", x.chance(k, n, t, 1), many > 200 ? -3 : many == 0 ? -1 : many / g);
        }
        int deep = -1;
        int stiff = -1;
        for (Thing thing : list) {
            deep = deep < 0 || thing.deep > list.get(deep).deep ? thing.rank : deep;
            stiff = stiff < 0 || thing.sym > list.get(stiff).sym ? thing.rank : stiff;
        }
        due("deepest " + k + " " + n, x.deepest(k, n), many > 200 ? -3 : deep);
        due("stiffest " + k + " " + n, x.stiffest(k, n), many > 200 ? -3 : stiff);
        if (many > 200) {
            due("length", x.length(k, n, 0), -3);
            return;
        }
        for (Thing thing : list) {
            lookAt(x, k, n, thing);
        }
        due("length behind the last " + k + " " + n, x.length(k, n, many), -2);
    }

    private void lookAt(GrownKinds x, int k, int n, Thing thing) {
        int r = thing.rank;
        String got = Kit.spelled(x, k, n, r);
        Kit.holds(about + " spelled " + k + " " + n + " " + r + ": " + got + " due " + thing.text, got.equals(thing.text));
        due("deep " + thing.text, x.deep(k, n, r), thing.deep);
        due("term " + thing.text, x.term(k, n, r), thing.term);
        due("symmetries " + thing.text, x.symmetries(k, n, r), thing.sym);
        int factorial = 1;
        for (int i = 2; i <= n; i++) {
            factorial *= i;
        }
        due("labels " + thing.text, x.labels(k, n, r), factorial / thing.sym);
        for (int l = 0; l < 4; l++) {
            due("atoms " + thing.text, x.atoms(k, n, r, l), thing.atoms[l]);
        }
        if (chance.nextInt(3) == 0) {
            String text = shuffled(thing);
            due("tells " + text, text.length() > 400 ? -4 : Kit.tells(x, k, text), text.length() > 40 ? -4 : r);
            if (text.length() <= 40) {
                due("told size", x.told(0), n);
                due("told rank", x.told(1), r);
            }
        }
        if (chance.nextInt(8) == 0) {
            tellSpoiled(x, k, thing);
        }
    }

    /** A text with a sign changed, taken out or put in: the same as a search among all texts would tell. */
    private void tellSpoiled(GrownKinds x, int k, Thing thing) {
        StringBuilder s = new StringBuilder(shuffled(thing));
        int at = chance.nextInt(s.length());
        char sign = "abc-0123[]{}<>()".charAt(chance.nextInt(16));
        switch (chance.nextInt(4)) {
            case 0: s.setCharAt(at, sign); break;
            case 1: s.deleteCharAt(at); break;
            case 2: s.insert(at, sign); break;
            default:
                int other = chance.nextInt(s.length());
                char c = s.charAt(at);
                s.setCharAt(at, s.charAt(other));
                s.setCharAt(other, c);
        }
        if (s.length() > 60) {
            return;
        }
        due("tells spoiled " + s, Kit.tells(x, k, s.toString()), search(k, s.toString()));
    }

    /** What tells() is to answer: all texts of all THINGS of as many letters are tried. */
    private long search(int k, String text) {
        int letters = 0;
        for (char c : text.toCharArray()) {
            letters += Character.isLetter(c) ? 1 : 0;
        }
        if (text.isEmpty() || text.length() > 40 || letters > most) {
            return -4;
        }
        List<Thing> list = ofKind(k, letters);
        for (Thing thing : list) {
            if (thing.text.length() == text.length() && sorted(thing.text).equals(sorted(text))
                    && ends(thing, text, 0).contains(text.length())) {
                return list.size() > 200 ? -3 : thing.rank;
            }
        }
        return -4;
    }

    private static String sorted(String s) {
        char[] c = s.toCharArray();
        java.util.Arrays.sort(c);
        return new String(c);
    }

    /** Where the THING, spelled in some order from `at` on, may end. */
    private Set<Integer> ends(Thing x, String text, int at) {
        Set<Integer> out = new HashSet<>();
        if (x.kids.isEmpty()) {
            if (text.startsWith(x.text, at)) {
                out.add(at + x.text.length());
            }
            return out;
        }
        int from = at;
        if (x.part == null) {
            if (total(x.kids) < x.text.length()) {
                if (from >= text.length() || text.charAt(from) != x.text.charAt(0)) {
                    return out;
                }
                from++;
            }
            out.addAll(endsInOrder(x.kids, 0, text, from));
            return out;
        }
        if (!text.startsWith(open(x.part), from)) {
            return out;
        }
        from++;
        Set<Integer> inner = new HashSet<>();
        if (x.part.what.equals("row")) {
            inner.addAll(endsInOrder(x.kids, 0, text, from));
        } else if (x.part.what.equals("ring")) {
            for (int turn = 0; turn < x.kids.size(); turn++) {
                List<Thing> kids = new ArrayList<>(x.kids);
                java.util.Collections.rotate(kids, turn);
                inner.addAll(endsInOrder(kids, 0, text, from));
            }
        } else {
            endsInAnyOrder(new ArrayList<>(x.kids), text, from, inner);
        }
        for (int e : inner) {
            if (text.startsWith(shut(x.part), e)) {
                out.add(e + 1);
            }
        }
        return out;
    }

    private Set<Integer> endsInOrder(List<Thing> kids, int i, String text, int at) {
        Set<Integer> out = new HashSet<>();
        if (i == kids.size()) {
            out.add(at);
            return out;
        }
        for (int e : ends(kids.get(i), text, at)) {
            out.addAll(endsInOrder(kids, i + 1, text, e));
        }
        return out;
    }

    private void endsInAnyOrder(List<Thing> kids, String text, int at, Set<Integer> out) {
        if (kids.isEmpty()) {
            out.add(at);
            return;
        }
        for (int i = 0; i < kids.size(); i++) {
            for (int e : ends(kids.get(i), text, at)) {
                List<Thing> rest = new ArrayList<>(kids);
                rest.remove(i);
                endsInAnyOrder(rest, text, e, out);
            }
        }
    }

    private void lookAtShared(GrownKinds x) {
        for (int k = 0; k < kinds; k++) {
            int other = chance.nextInt(kinds);
            int n = chance.nextInt(most + 1);
            List<Thing> list = ofKind(k, n);
            int both = 0;
            for (Thing thing : list) {
                both += list.size() <= 200 && search(other, thing.text) != -4 ? 1 : 0;
            }
            due("shared " + k + " " + other + " " + n, x.shared(k, other, n), list.size() > 200 ? -3 : both);
        }
    }

    private void lookAtWithout(GrownKinds x) {
        long[][] now = new long[kinds][most + 1];
        long[][] fewest = new long[kinds][most + 1];
        int[][] best = new int[kinds][most + 1];
        for (int k = 0; k < kinds; k++) {
            for (int n = 0; n <= most; n++) {
                now[k][n] = ofKind(k, n).size();
                fewest[k][n] = now[k][n];
                best[k][n] = -1;
            }
        }
        for (int k = 0; k < kinds; k++) {
            for (int t = 0; lines[k] != null && t < lines[k].terms.size(); t++) {
                int was = lines[k].off;
                lines[k].off |= 1 << t;
                forget();
                for (int of = 0; of < kinds; of++) {
                    for (int n = 0; n <= most; n++) {
                        int left = ofKind(of, n).size();
                        due("without " + k + " " + t + " " + of + " " + n, x.without(k, t, of, n), left);
                        if (left < fewest[of][n]) {
                            fewest[of][n] = left;
                            best[of][n] = 10 * k + t;
                        }
                    }
                }
                lines[k].off = was;
            }
        }
        forget();
        for (int k = 0; k < kinds; k++) {
            for (int n = 0; n <= most; n++) {
                due("hangs " + k + " " + n, x.hangs(k, n), best[k][n]);
                due("first", x.first(k, Math.max(1, now[k][n])), firstOf(now[k], Math.max(1, now[k][n])));
            }
        }
    }

    private static int firstOf(long[] now, long v) {
        for (int n = 0; n < now.length; n++) {
            if (now[n] >= v) {
                return n;
            }
        }
        return -1;
    }

    private void lookAtLabelled(GrownKinds x) {
        setsAsBags = true;
        forget();
        for (int k = 0; k < kinds; k++) {
            long factorial = 1;
            for (int n = 0; n <= most; n++) {
                factorial *= Math.max(1, n);
                long sum = 0;
                for (Thing thing : ofKind(k, n)) {
                    sum += factorial / thing.sym;
                }
                due("labelled " + k + " " + n, x.labelled(k, n), sum);
            }
        }
        setsAsBags = false;
        forget();
    }

    private void lookAtBox(GrownKinds x) {
        int k = chance.nextInt(kinds);
        int low = chance.nextInt(most + 1);
        int high = low + chance.nextInt(most + 1 - low);
        List<Integer> all = new ArrayList<>();
        for (int n = low; n <= high; n++) {
            for (int r = 0; r < ofKind(k, n).size(); r++) {
                all.add(10000 * n + r);
            }
        }
        int many = all.size();
        int b = 0;
        while (1 << b < many) {
            b++;
        }
        due("boxed", x.boxed(k, low, high), many);
        due("bits", x.bits(k, low, high), many == 0 ? -1 : b);
        for (int i = 0; i < 5; i++) {
            int word = chance.nextInt(1 << 30);
            int drawn = many == 0 ? -1 : b == 0 ? 0 : -1;
            for (int g = 0; b > 0 && g < 30 / b && drawn < 0; g++) {
                int number = word >> g * b & (1 << b) - 1;
                drawn = number < many ? number : -1;
            }
            due("drawn 0", x.drawn(k, low, high, word, 0), drawn < 0 ? -1 : all.get(drawn) / 10000);
            due("drawn 1", x.drawn(k, low, high, word, 1), drawn < 0 ? -1 : all.get(drawn) % 10000);
        }
        int seed = chance.nextInt(2000000001);
        due("deal", x.deal(k, low, high, seed), many > 1000 ? -3 : many);
        if (many > 1000) {
            return;
        }
        int at = seed % (1 << b);
        int left = many;
        for (int i = 0; i < 1 << b; i++) {
            if (at < many) {
                due("left", x.left(), left);
                due("dealt", x.dealt(), all.get(at));
                left--;
            }
            at = (5 * at + 3) % (1 << b);
        }
        due("left", x.left(), 0);
        due("dealt", x.dealt(), -1);
    }

    private boolean tryOne(GrownKinds x) {
        invent();
        String text = told();
        if (text.length() > 400) {
            return false;
        }
        about = text;
        int bad = meaningless();
        int answer = Kit.grammar(x, text);
        due("fault", x.fault(0), bad < 0 ? 0 : 4);
        due("fault place", x.fault(1), bad);
        if (bad >= 0) {
            due("grammar", answer, -4);
            return false;
        }
        due("parts", x.count(2), partCount);
        try {
            look(x, true);
            for (int i = 0; i < 2; i++) {
                int k = chance.nextInt(kinds);
                if (lines[k] != null) {
                    int t = chance.nextInt(lines[k].terms.size());
                    if ((lines[k].off >> t & 1) == 0) {
                        lines[k].off |= 1 << t;
                        about = text + " off " + k + "." + t;
                        due("takes", x.takes(k, t), lines[k].terms.size() - Integer.bitCount(lines[k].off));
                        look(x, chance.nextInt(4) == 0);
                    }
                }
            }
        } catch (TooMany e) {
            return false;
        }
        return true;
    }

    public static void main(String[] args) {
        int tries = args.length > 0 ? Integer.parseInt(args[0]) : 4000;
        long base = args.length > 1 ? Long.parseLong(args[1]) : 1;
        int tried = 0;
        GrownKinds x = new GrownKinds();
        for (int i = 0; i < tries && Kit.wrongs() < 20; i++) {
            tried += new OracleTest(base * 1_000_003 + i).tryOne(x) ? 1 : 0;
        }
        System.out.println(tried + " grammars of " + tries + " looked at whole");
        Kit.finish("OracleTest");
    }
}
