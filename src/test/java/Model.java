import java.math.BigInteger;
import java.util.ArrayList;
import java.util.Collections;
import java.util.HashMap;
import java.util.List;
import java.util.Map;
import java.util.TreeSet;

/** The whole face told a second time, in the plainest way: every THING is made, every answer looked up among them. */
final class Model {
    /** More THINGS than this model makes: nothing is told then. */
    static final class TooMany extends RuntimeException {
        private static final long serialVersionUID = 1L;
    }

    private static final class Fault extends RuntimeException {
        private static final long serialVersionUID = 1L;
        final int number;
        final int place;

        Fault(int number, int place) {
            this.number = number;
            this.place = place;
        }
    }

    private static final int MADE_MOST = 1500;
    private static final int WORK_MOST = 400_000;
    private static final List<String> TEN =
            List.of("grammar", "most", "atom", "unit", "or", "with", "row", "bag", "set", "ring");

    private static final class Token {
        final String text;
        final int place;

        Token(String text, int place) {
            this.text = text;
            this.place = place;
        }

        boolean isWord() {
            return !text.isEmpty() && Character.isLowerCase(text.charAt(0)) && text.charAt(0) < 128;
        }

        boolean isNumber() {
            return !text.isEmpty() && text.charAt(0) >= '0' && text.charAt(0) <= '9';
        }

        boolean isName() {
            return isWord() && !TEN.contains(text);
        }

        int value() {
            return new BigInteger(text).min(BigInteger.valueOf(99)).intValue();
        }
    }

    /** What: a(tom), u(nit), n(ame), [ { < ( by the sign it is spelled with, e(xpr in brackets). */
    private static final class Part {
        char what;
        int value;
        Part inside;
        Expr expr;
    }

    private static final class Expr {
        final List<List<Part>> terms = new ArrayList<>();
        int off = 0;
    }

    /** A THING, those in it in the ORDER of IV. */
    static final class Thing implements Comparable<Thing> {
        final char what;
        final int term;
        final int size;
        final List<Thing> in;
        final String text;

        Thing(char what, int term, int size, List<Thing> in, String text) {
            this.what = what;
            this.term = term;
            this.size = size;
            this.in = in;
            this.text = text;
        }

        @Override
        public int compareTo(Thing other) {
            if (size != other.size) {
                return size - other.size;
            }
            return term != other.term ? term - other.term : compareRows(in, other.in);
        }

        int deep() {
            int most = 0;
            for (Thing x : in) {
                most = Math.max(most, x.deep());
            }
            return "[{<(".indexOf(what) >= 0 ? most + 1 : most;
        }

        int atoms(int letter) {
            int sum = what == 'a' && text.charAt(0) - 'a' == letter ? 1 : 0;
            for (Thing x : in) {
                sum += x.atoms(letter);
            }
            return sum;
        }

        long symmetries(boolean setsAsBags) {
            long ways = what == '{' || what == '<' && setsAsBags ? changes(in, 0) : what == '(' ? turns() : 1;
            for (Thing x : in) {
                ways *= x.symmetries(setsAsBags);
            }
            return ways;
        }

        /** Each place takes one of the THINGS that are like the one there, from those not taken yet. */
        private static long changes(List<Thing> in, int place) {
            if (place == in.size()) {
                return 1;
            }
            long ways = 0;
            for (int i = place; i < in.size(); i++) {
                if (in.get(i).compareTo(in.get(place)) == 0) {
                    ways++;
                }
            }
            return ways * changes(in, place + 1);
        }

        private long turns() {
            long alike = 0;
            for (int i = 0; i < in.size(); i++) {
                alike += compareRows(turned(in, i), in) == 0 ? 1 : 0;
            }
            return alike;
        }
    }

    private static int compareRows(List<Thing> one, List<Thing> other) {
        for (int i = 0; i < one.size() && i < other.size(); i++) {
            int order = one.get(i).compareTo(other.get(i));
            if (order != 0) {
                return order;
            }
        }
        return one.size() - other.size();
    }

    private static List<Thing> turned(List<Thing> ring, int by) {
        List<Thing> row = new ArrayList<>(ring.subList(by, ring.size()));
        row.addAll(ring.subList(0, by));
        return row;
    }

    private static char shut(char open) {
        return open == '[' ? ']' : open == '{' ? '}' : open == '<' ? '>' : ')';
    }

    /** A sequence of a PART, its THINGS put into ORDER; null for a set with two alike. */
    private static Thing sequence(char what, List<Thing> some) {
        List<Thing> in = new ArrayList<>(some);
        if (what == '{' || what == '<') {
            in.sort(Collections.reverseOrder());
        }
        for (int i = 1; what == '<' && i < in.size(); i++) {
            if (in.get(i).compareTo(in.get(i - 1)) == 0) {
                return null;
            }
        }
        for (int i = 1; what == '(' && i < some.size(); i++) {
            List<Thing> row = turned(some, i);
            in = compareRows(row, in) < 0 ? row : in;
        }
        return group(what, 0, in, "" + what, "" + shut(what));
    }

    private static Thing group(char what, int term, List<Thing> in, String ahead, String behind) {
        StringBuilder text = new StringBuilder(ahead);
        int size = 0;
        for (Thing x : in) {
            text.append(x.text);
            size += x.size;
        }
        return new Thing(what, term, size, in, text.append(behind).toString());
    }

    private static Thing ofTerm(Expr expr, int term, List<Thing> in) {
        return group('e', term, in, expr.terms.size() > 1 ? "" + term : "", "");
    }

    // ---- the state

    private StringBuilder tape = new StringBuilder();
    private int faultNumber = 0;
    private int faultPlace = -1;
    private int most = 0;
    private int lines = 0;
    private int parts = 0;
    private List<String> names = new ArrayList<>();
    private List<Expr> kinds = new ArrayList<>();
    private final List<Integer> acts = new ArrayList<>();
    private int toldSize = -1;
    private int toldRank = -1;
    private List<Integer> deal = new ArrayList<>();
    private final Map<String, World> worlds = new HashMap<>();

    // ---- the TAPE

    int feed(int... numbers) {
        if (tape.length() + 20 > 400) {
            return -1;
        }
        for (int number : numbers) {
            for (int i = 3; i >= 0; i--) {
                tape.append((char) (number >> 8 * i & 255));
            }
        }
        return tape.length();
    }

    void tape(String text) {
        tape = new StringBuilder(text);
    }

    int end(int n) {
        if (n < 0 || n > tape.length()) {
            return -1;
        }
        tape.setLength(n);
        return n;
    }

    // ---- a GRAMMAR off the TAPE

    private static List<Token> tokens(String text) {
        List<Token> all = new ArrayList<>();
        int at = 0;
        while (at < text.length()) {
            char sign = text.charAt(at);
            int to = at + 1;
            if (sign >= 'a' && sign <= 'z') {
                while (to < text.length() && text.charAt(to) >= 'a' && text.charAt(to) <= 'z') {
                    to++;
                }
            } else if (sign >= '0' && sign <= '9') {
                while (to < text.length() && text.charAt(to) >= '0' && text.charAt(to) <= '9') {
                    to++;
                }
            }
            if (sign != 32 && sign != 10) {
                all.add(new Token(text.substring(at, to), at));
            }
            at = to;
        }
        all.add(new Token("", text.length()));
        return all;
    }

    /** Reads one GRAMMAR; what it has is taken over only if it has no FAULT. */
    private static final class Reading {
        final List<Token> tokens;
        int at = 0;
        int most = 0;
        int lines = 0;
        int parts = 0;
        final List<String> names = new ArrayList<>();
        final List<Expr> kinds = new ArrayList<>();

        Reading(String text) {
            tokens = tokens(text);
        }

        Token here() {
            return tokens.get(at);
        }

        boolean at(String text) {
            return here().text.equals(text) && !text.isEmpty();
        }

        void check(boolean so, int number) {
            if (!so) {
                throw new Fault(number, here().place);
            }
        }

        void must(String text) {
            check(at(text), 1);
            at++;
        }

        void all() {
            must("grammar");
            must("most");
            check(here().isNumber(), 1);
            check(here().value() <= 7, 2);
            most = here().value();
            at++;
            do {
                check(here().isName(), 1);
                check(here().text.length() <= 8 && !names.contains(here().text), 2);
                check(names.size() < 6, 3);
                names.add(here().text);
                kinds.add(new Expr());
                at++;
            } while (!at(";"));
            at++;
            lines = 1;
            while (!here().text.isEmpty()) {
                check(here().isName(), 1);
                int kind = names.indexOf(here().text);
                check(kind >= 0, 2);
                check(kinds.get(kind).terms.isEmpty(), 2);
                at++;
                must("=");
                expr(kinds.get(kind), 0);
                must(";");
                lines++;
            }
        }

        void expr(Expr into, int deep) {
            do {
                List<Part> term = new ArrayList<>();
                // The LINE's KIND has a LINE from its first TERM on: no other LINE is read meanwhile.
                boolean eleventh = into.terms.size() == 10;
                do {
                    at += term.isEmpty() ? 0 : 1;
                    term.add(part(deep, eleventh && term.isEmpty()));
                } while (at("with"));
                into.terms.add(term);
            } while (more());
        }

        boolean more() {
            boolean or = at("or");
            at += or ? 1 : 0;
            return or;
        }

        Part part(int deep, boolean eleventh) {
            String word = here().text;
            boolean nests = List.of("row", "bag", "set", "ring", "(").contains(word);
            check(nests || word.equals("atom") || word.equals("unit") || here().isName(), 1);
            check(!here().isName() || names.contains(word), 2);
            check(!eleventh && parts < 24 && !(nests && deep == 6), 3);
            Part part = new Part();
            parts++;
            part.what = switch (word) {
                case "atom" -> 'a';
                case "unit" -> 'u';
                case "row" -> '[';
                case "bag" -> '{';
                case "set" -> '<';
                case "ring" -> '(';
                case "(" -> 'e';
                default -> 'n';
            };
            at++;
            if (part.what == 'a') {
                check(here().isWord(), 1);
                check(here().text.length() == 1, 2);
                part.value = here().text.charAt(0) - 'a';
                at++;
            } else if (part.what == 'n') {
                part.value = names.indexOf(word);
            } else if (part.what == 'e') {
                part.expr = new Expr();
                expr(part.expr, deep + 1);
                must(")");
            } else if (nests) {
                if (here().isNumber()) {
                    check(here().value() >= 1 && here().value() <= 7, 2);
                    part.value = here().value();
                    at++;
                }
                part.inside = part(deep + 1, false);
            }
            return part;
        }
    }

    int grammar() {
        String text = tape.toString();
        tape = new StringBuilder();
        faultNumber = 0;
        faultPlace = -1;
        Reading reading = new Reading(text);
        try {
            if (reading.tokens.size() > 1) {
                reading.all();
                meaning(reading);
            }
        } catch (Fault fault) {
            faultNumber = fault.number;
            faultPlace = fault.place;
            return -4;
        }
        most = reading.most;
        lines = reading.lines;
        parts = reading.parts;
        names = reading.names;
        kinds = reading.kinds;
        acts.clear();
        worlds.clear();
        deal.clear();
        return lines;
    }

    private static void meaning(Reading reading) {
        Sense sense = new Sense(reading.kinds);
        for (int kind = 0; kind < reading.kinds.size(); kind++) {
            if ((over(sense::leans, kind, reading.kinds.size()) >> kind & 1) != 0 || sense.badly(reading.kinds.get(kind))) {
                throw new Fault(4, kind);
            }
        }
    }

    private interface Step {
        int from(int kind);
    }

    /** KINDS that one leads to, by one step or more. */
    private static int over(Step step, int kind, int kinds) {
        boolean[] met = new boolean[kinds];
        List<Integer> going = new ArrayList<>();
        going.add(kind);
        int bits = 0;
        while (!going.isEmpty()) {
            int next = step.from(going.remove(going.size() - 1));
            for (int other = 0; other < kinds; other++) {
                if ((next >> other & 1) != 0 && !met[other]) {
                    met[other] = true;
                    going.add(other);
                    bits |= 1 << other;
                }
            }
        }
        return bits;
    }

    /** III, and what stands in EXPRS. */
    private static final class Sense {
        private final List<Expr> kinds;
        private final boolean[] empty;

        Sense(List<Expr> kinds) {
            this.kinds = kinds;
            empty = new boolean[kinds.size()];
            for (int round = 0; round < kinds.size(); round++) {
                for (int kind = 0; kind < kinds.size(); kind++) {
                    empty[kind] = empty[kind] || isEmpty(kinds.get(kind));
                }
            }
        }

        private boolean isEmpty(Expr expr) {
            for (int term = 0; term < expr.terms.size(); term++) {
                if ((expr.off >> term & 1) == 0 && othersEmpty(expr.terms.get(term), null)) {
                    return true;
                }
            }
            return false;
        }

        private boolean othersEmpty(List<Part> term, Part but) {
            for (Part part : term) {
                if (part != but && !isEmpty(part)) {
                    return false;
                }
            }
            return true;
        }

        private boolean isEmpty(Part part) {
            switch (part.what) {
                case 'a': return false;
                case 'u': return true;
                case 'n': return empty[part.value];
                case 'e': return isEmpty(part.expr);
                default: return part.value == 0 && part.what != '(' || isEmpty(part.inside);
            }
        }

        int leans(int kind) {
            return leans(kinds.get(kind));
        }

        private int leans(Expr expr) {
            int bits = 0;
            for (int term = 0; term < expr.terms.size(); term++) {
                for (Part part : expr.terms.get(term)) {
                    if ((expr.off >> term & 1) == 0 && othersEmpty(expr.terms.get(term), part)) {
                        bits |= leans(part);
                    }
                }
            }
            return bits;
        }

        private int leans(Part part) {
            switch (part.what) {
                case 'a': return 0;
                case 'u': return 0;
                case 'n': return 1 << part.value;
                case 'e': return leans(part.expr);
                default: return part.value <= 1 ? leans(part.inside) : 0;
            }
        }

        boolean badly(Expr expr) {
            for (List<Part> term : expr.terms) {
                for (Part part : term) {
                    if (badly(part)) {
                        return true;
                    }
                }
            }
            return false;
        }

        private boolean badly(Part part) {
            if (part.expr != null) {
                return badly(part.expr);
            }
            return part.inside != null && (isEmpty(part.inside) || badly(part.inside));
        }

        int found(int kind, char what) {
            return found(kinds.get(kind), what);
        }

        private int found(Expr expr, char what) {
            int bits = 0;
            for (int term = 0; term < expr.terms.size(); term++) {
                for (Part part : expr.terms.get(term)) {
                    if ((expr.off >> term & 1) == 0) {
                        bits |= found(part, what);
                    }
                }
            }
            return bits;
        }

        private int found(Part part, char what) {
            if (part.expr != null) {
                return found(part.expr, what);
            }
            if (part.inside != null) {
                return found(part.inside, what);
            }
            return part.what == what ? 1 << part.value : 0;
        }
    }

    // ---- all THINGS of a state of OFF TERMS

    private static final class World {
        private final List<Expr> kinds;
        private final boolean setsAsBags;
        final List<List<List<Thing>>> things = new ArrayList<>();
        private final Map<String, List<Thing>> kept = new HashMap<>();
        private int growing = 0;
        private int work = 0;

        World(List<Expr> kinds, int most, boolean setsAsBags) {
            this.kinds = kinds;
            this.setsAsBags = setsAsBags;
            for (int kind = 0; kind < kinds.size(); kind++) {
                things.add(new ArrayList<>());
            }
            for (growing = 0; growing <= most; growing++) {
                grow(growing);
            }
        }

        /** THINGS of a size out of those known, until there are no more. */
        private void grow(int n) {
            for (List<List<Thing>> ofKind : things) {
                ofKind.add(new ArrayList<>());
            }
            boolean more = true;
            while (more) {
                more = false;
                kept.clear();
                for (int kind = 0; kind < kinds.size(); kind++) {
                    List<Thing> now = new ArrayList<>(of(kinds.get(kind), n));
                    more |= now.size() != things.get(kind).get(n).size();
                    things.get(kind).set(n, now);
                }
            }
        }

        private void works() {
            work++;
            if (work > WORK_MOST) {
                throw new TooMany();
            }
        }

        private TreeSet<Thing> of(Expr expr, int n) {
            TreeSet<Thing> all = new TreeSet<>();
            for (int term = 0; term < expr.terms.size(); term++) {
                if ((expr.off >> term & 1) == 0) {
                    addTerm(expr, term, n, new ArrayList<>(), all);
                }
            }
            return all;
        }

        private void addTerm(Expr expr, int term, int left, List<Thing> begun, TreeSet<Thing> all) {
            works();
            List<Part> its = expr.terms.get(term);
            if (begun.size() == its.size()) {
                if (left == 0) {
                    all.add(ofTerm(expr, term, new ArrayList<>(begun)));
                    if (all.size() > MADE_MOST) {
                        throw new TooMany();
                    }
                }
                return;
            }
            for (int size = 0; size <= left; size++) {
                for (Thing x : of(its.get(begun.size()), size)) {
                    begun.add(x);
                    addTerm(expr, term, left - size, begun, all);
                    begun.remove(begun.size() - 1);
                }
            }
        }

        private List<Thing> of(Part part, int n) {
            if (part.what == 'n') {
                return things.get(part.value).get(n);
            }
            String key = System.identityHashCode(part) + " " + n;
            List<Thing> all = kept.get(key);
            if (all == null) {
                all = made(part, n);
                kept.put(key, all);
            }
            return all;
        }

        private List<Thing> made(Part part, int n) {
            if (part.what == 'e') {
                return new ArrayList<>(of(part.expr, n));
            }
            List<Thing> all = new ArrayList<>();
            if (part.what == 'a' || part.what == 'u') {
                if (n == (part.what == 'a' ? 1 : 0)) {
                    String text = part.what == 'a' ? "" + (char) ('a' + part.value) : "-";
                    all.add(new Thing(part.what, 0, n, List.of(), text));
                }
                return all;
            }
            TreeSet<Thing> some = new TreeSet<>();
            addRows(part, n, new ArrayList<>(), some);
            all.addAll(some);
            return all;
        }

        /** All rows; a bag, a set, a ring is in ORDER whatever row it is made of. */
        private void addRows(Part part, int left, List<Thing> begun, TreeSet<Thing> all) {
            works();
            if (left == 0) {
                boolean none = begun.isEmpty() && part.what == '(';
                if (part.value == 0 ? !none : begun.size() == part.value) {
                    Thing x = sequence(setsAsBags && part.what == '<' ? '{' : part.what, begun);
                    if (x != null) {
                        all.add(x);
                    }
                }
                return;
            }
            boolean falling = part.what == '{' || part.what == '<';
            for (int size = 1; size <= left; size++) {
                for (Thing x : of(part.inside, size)) {
                    if (!falling || begun.isEmpty() || begun.get(begun.size() - 1).compareTo(x) >= 0) {
                        begun.add(x);
                        addRows(part, left - size, begun, all);
                        begun.remove(begun.size() - 1);
                    }
                }
            }
        }
    }

    private World world(boolean setsAsBags) {
        StringBuilder key = new StringBuilder().append(setsAsBags);
        for (Expr kind : kinds) {
            key.append(' ').append(kind.off);
        }
        World world = worlds.get(key.toString());
        if (world == null) {
            world = new World(kinds, most, setsAsBags);
            worlds.put(key.toString(), world);
        }
        return world;
    }

    /** All THINGS of a KIND of a size. */
    List<Thing> all(int kind, int n) {
        return world(false).things.get(kind).get(n);
    }

    // ---- the GRAMMAR told

    int fault(int what) {
        return what == 0 ? faultNumber : what == 1 ? faultPlace : -1;
    }

    int count(int what) {
        int[] told = {names.size(), most, parts, lines, acts.size(), tape.length()};
        return what >= 0 && what < told.length ? told[what] : -1;
    }

    private boolean none(int kind) {
        return kind < 0 || kind >= kinds.size();
    }

    private boolean none(int kind, int n) {
        return none(kind) || n < 0 || n > most;
    }

    private boolean noTerm(int kind, int term) {
        return none(kind) || term < 0 || term >= kinds.get(kind).terms.size();
    }

    int terms(int kind) {
        return none(kind) ? -2 : kinds.get(kind).terms.size();
    }

    int off(int kind) {
        return none(kind) ? -2 : kinds.get(kind).off;
    }

    int letters(int kind) {
        return none(kind) ? -2 : new Sense(kinds).found(kind, 'a');
    }

    int uses(int kind) {
        return none(kind) ? -2 : new Sense(kinds).found(kind, 'n');
    }

    int reaches(int kind) {
        return none(kind) ? -2 : over(this::uses, kind, kinds.size());
    }

    int empty(int kind) {
        return none(kind) ? -2 : new Sense(kinds).empty[kind] ? 1 : 0;
    }

    int leans(int kind) {
        return none(kind) ? -2 : new Sense(kinds).leans(kind);
    }

    int blank() {
        int bits = 0;
        for (int kind = 0; kind < kinds.size(); kind++) {
            bits |= least(kind) < 0 ? 1 << kind : 0;
        }
        return lines == 0 ? -2 : bits;
    }

    int least(int kind) {
        for (int n = 0; n <= most && !none(kind); n++) {
            if (!all(kind, n).isEmpty()) {
                return n;
            }
        }
        return none(kind) ? -2 : -1;
    }

    // ---- numbers

    long things(int kind, int n) {
        return none(kind, n) ? -2 : all(kind, n).size();
    }

    long upto(int kind, int n) {
        long sum = 0;
        for (int size = 0; size <= n && !none(kind, n); size++) {
            sum += all(kind, size).size();
        }
        return none(kind, n) ? -2 : sum;
    }

    long labelled(int kind, int n) {
        if (none(kind, n)) {
            return -2;
        }
        long sum = 0;
        for (Thing x : world(true).things.get(kind).get(n)) {
            sum += factorial(n) / x.symmetries(true);
        }
        return sum;
    }

    private static long factorial(int n) {
        return n < 2 ? 1 : n * factorial(n - 1);
    }

    int first(int kind, long v) {
        if (none(kind) || v < 1 || v > 1_000_000_000_000L) {
            return -2;
        }
        for (int n = 0; n <= most; n++) {
            if (all(kind, n).size() >= v) {
                return n;
            }
        }
        return -1;
    }

    long marked(int kind, int n, int letter, int k) {
        if (none(kind, n) || letter < 0 || letter > 25 || k < 0 || k > 7) {
            return -2;
        }
        long sum = 0;
        for (Thing x : all(kind, n)) {
            sum += x.atoms(letter) == k ? 1 : 0;
        }
        return sum;
    }

    long by(int kind, int n, int term) {
        if (none(kind, n) || noTerm(kind, term)) {
            return -2;
        }
        long sum = 0;
        for (Thing x : all(kind, n)) {
            sum += x.term == term ? 1 : 0;
        }
        return sum;
    }

    long without(int kind, int term, int of, int n) {
        if (noTerm(kind, term) || none(of, n)) {
            return -2;
        }
        int were = kinds.get(kind).off;
        kinds.get(kind).off |= 1 << term;
        try {
            return all(of, n).size();
        } finally {
            kinds.get(kind).off = were;
        }
    }

    int hangs(int kind, int n) {
        if (none(kind, n)) {
            return -2;
        }
        long fewest = things(kind, n);
        int found = -1;
        for (int other = 0; other < kinds.size(); other++) {
            for (int term = 0; term < terms(other); term++) {
                if (without(other, term, kind, n) < fewest) {
                    fewest = without(other, term, kind, n);
                    found = 10 * other + term;
                }
            }
        }
        return found;
    }

    int idle() {
        int many = 0;
        for (int kind = 0; kind < kinds.size(); kind++) {
            for (int term = 0; term < terms(kind); term++) {
                long ever = 0;
                for (int n = 0; n <= most; n++) {
                    ever += by(kind, n, term);
                }
                many += (off(kind) >> term & 1) == 0 && ever == 0 ? 1 : 0;
            }
        }
        return lines == 0 ? -2 : many;
    }

    // ---- THINGS

    private interface Told {
        long of(Thing x);
    }

    private long told(int kind, int n, int rank, Told told) {
        if (none(kind, n)) {
            return -2;
        }
        if (all(kind, n).size() > 200) {
            return -3;
        }
        return rank < 0 || rank >= all(kind, n).size() ? -2 : told.of(all(kind, n).get(rank));
    }

    long length(int kind, int n, int rank) {
        return told(kind, n, rank, x -> x.text.length());
    }

    long sign(int kind, int n, int rank, int i) {
        return i < 0 ? -2 : told(kind, n, rank, x -> i < x.text.length() ? x.text.charAt(i) : -1);
    }

    long deep(int kind, int n, int rank) {
        return told(kind, n, rank, Thing::deep);
    }

    long atoms(int kind, int n, int rank, int letter) {
        return letter < 0 || letter > 25 ? -2 : told(kind, n, rank, x -> x.atoms(letter));
    }

    long term(int kind, int n, int rank) {
        return told(kind, n, rank, x -> x.term);
    }

    long symmetries(int kind, int n, int rank) {
        return told(kind, n, rank, x -> x.symmetries(false));
    }

    long labels(int kind, int n, int rank) {
        return told(kind, n, rank, x -> factorial(n) / x.symmetries(false));
    }

    /** Reads what is spelled; throws at what is none. */
    private final class Ear {
        final String text;
        int at = 0;
        int calls = 0;

        Ear(String text) {
            this.text = text;
        }

        void need(boolean so) {
            if (!so) {
                throw new Fault(0, at);
            }
        }

        char next() {
            need(at < text.length());
            return text.charAt(at++);
        }

        Thing expr(Expr expr) {
            calls++;
            need(calls < 1500);
            int term = expr.terms.size() > 1 ? next() - '0' : 0;
            need(term >= 0 && term < expr.terms.size() && (expr.off >> term & 1) == 0);
            List<Thing> in = new ArrayList<>();
            for (Part part : expr.terms.get(term)) {
                in.add(part(part));
            }
            return ofTerm(expr, term, in);
        }

        Thing part(Part part) {
            if (part.what == 'n') {
                return expr(kinds.get(part.value));
            }
            if (part.what == 'e') {
                return expr(part.expr);
            }
            char sign = next();
            if (part.what == 'a') {
                need(sign == 'a' + part.value);
                return new Thing('a', 0, 1, List.of(), "" + sign);
            }
            if (part.what == 'u') {
                need(sign == '-');
                return new Thing('u', 0, 0, List.of(), "-");
            }
            need(sign == part.what);
            List<Thing> in = new ArrayList<>();
            while (at < text.length() && text.charAt(at) != shut(part.what)) {
                in.add(part(part.inside));
            }
            next();
            need(part.value == 0 ? part.what != '(' || !in.isEmpty() : in.size() == part.value);
            Thing x = sequence(part.what, in);
            need(x != null);
            return x;
        }
    }

    /** The THING that a text is; null if it is none of the sizes 0 .. MOST. */
    private Thing heard(int kind, String text) {
        if (text.length() > 40) {
            return null;
        }
        try {
            Ear ear = new Ear(text);
            Thing x = ear.expr(kinds.get(kind));
            return ear.at == text.length() && x.size <= most ? x : null;
        } catch (Fault none) {
            return null;
        }
    }

    int tells(int kind) {
        if (none(kind)) {
            return -2;
        }
        String text = tape.toString();
        tape = new StringBuilder();
        Thing x = heard(kind, text);
        if (x == null) {
            return -4;
        }
        List<Thing> like = all(kind, x.size);
        int rank = Collections.binarySearch(like, x);
        if (rank < 0 || !like.get(rank).text.equals(x.text)) {
            throw new IllegalStateException("the model does not make " + x.text);
        }
        if (like.size() > 200) {
            return -3;
        }
        toldSize = x.size;
        toldRank = rank;
        return rank;
    }

    int told(int what) {
        return what == 0 ? toldSize : what == 1 ? toldRank : -1;
    }

    int shared(int kind, int other, int n) {
        if (none(kind, n) || none(other)) {
            return -2;
        }
        if (all(kind, n).size() > 200) {
            return -3;
        }
        int both = 0;
        for (Thing x : all(kind, n)) {
            both += heard(other, x.text) != null ? 1 : 0;
        }
        return both;
    }

    private int mostOf(int kind, int n, Told told) {
        if (none(kind, n)) {
            return -2;
        }
        List<Thing> all = all(kind, n);
        if (all.size() > 200) {
            return -3;
        }
        int best = all.isEmpty() ? -1 : 0;
        for (int rank = 1; rank < all.size(); rank++) {
            best = told.of(all.get(rank)) > told.of(all.get(best)) ? rank : best;
        }
        return best;
    }

    int deepest(int kind, int n) {
        return mostOf(kind, n, Thing::deep);
    }

    int fullest(int kind, int n, int letter) {
        return letter < 0 || letter > 25 ? -2 : mostOf(kind, n, x -> x.atoms(letter));
    }

    int stiffest(int kind, int n) {
        return mostOf(kind, n, x -> x.symmetries(false));
    }

    private static int lowest(long above, long below, int what) {
        long divisor = BigInteger.valueOf(above).gcd(BigInteger.valueOf(below)).longValue();
        return (int) ((what == 0 ? above : below) / divisor);
    }

    int chance(int kind, int n, int term, int what) {
        if (none(kind, n) || noTerm(kind, term) || what < 0 || what > 1) {
            return -2;
        }
        int all = all(kind, n).size();
        return all > 200 ? -3 : all == 0 ? -1 : lowest(by(kind, n, term), all, what);
    }

    int mean(int kind, int n, int letter, int what) {
        if (none(kind, n) || letter < 0 || letter > 25 || what < 0 || what > 1) {
            return -2;
        }
        long sum = 0;
        for (Thing x : all(kind, n)) {
            sum += x.atoms(letter);
        }
        int all = all(kind, n).size();
        return all > 200 ? -3 : all == 0 ? -1 : lowest(sum, all, what);
    }

    // ---- BOXES

    /** 10,000 times the size, and the RANK, of all numbers of a BOX; null if there are none such. */
    private List<Integer> box(int kind, int low, int high) {
        if (none(kind, low) || none(kind, high) || low > high) {
            return null;
        }
        List<Integer> numbers = new ArrayList<>();
        for (int n = low; n <= high; n++) {
            for (int rank = 0; rank < all(kind, n).size(); rank++) {
                numbers.add(10_000 * n + rank);
            }
        }
        return numbers;
    }

    long boxed(int kind, int low, int high) {
        List<Integer> box = box(kind, low, high);
        return box == null ? -2 : box.size();
    }

    private static int bitsOf(int many) {
        int b = 0;
        while (Math.pow(2, b) < many) {
            b++;
        }
        return b;
    }

    int bits(int kind, int low, int high) {
        List<Integer> box = box(kind, low, high);
        return box == null ? -2 : box.isEmpty() ? -1 : bitsOf(box.size());
    }

    int drawn(int kind, int low, int high, int word, int what) {
        List<Integer> box = box(kind, low, high);
        if (box == null || word < 0 || word > 1_073_741_823 || what < 0 || what > 1) {
            return -2;
        }
        if (box.isEmpty()) {
            return -1;
        }
        int b = bitsOf(box.size());
        int number = b == 0 ? 0 : -1;
        int rest = word;
        for (int group = 0; b > 0 && group < 30 / b && number < 0; group++) {
            int here = rest % (1 << b);
            rest /= 1 << b;
            number = here < box.size() ? here : -1;
        }
        return number < 0 ? -1 : what == 0 ? box.get(number) / 10_000 : box.get(number) % 10_000;
    }

    int deal(int kind, int low, int high, int seed) {
        List<Integer> box = box(kind, low, high);
        if (box == null || seed < 0 || seed > 2_000_000_000) {
            return -2;
        }
        if (box.size() > 1000) {
            return -3;
        }
        deal = new ArrayList<>();
        int modulo = 1 << bitsOf(box.size());
        int x = seed % modulo;
        for (int i = 0; i < modulo; i++) {
            if (x < box.size()) {
                deal.add(box.get(x));
            }
            x = (5 * x + 3) % modulo;
        }
        return box.size();
    }

    int dealt() {
        return deal.isEmpty() ? -1 : deal.remove(0);
    }

    int left() {
        return deal.size();
    }

    // ---- acts

    int takes(int kind, int term) {
        if (noTerm(kind, term)) {
            return -2;
        }
        Expr expr = kinds.get(kind);
        if ((expr.off >> term & 1) != 0 || acts.size() == 10) {
            return -5;
        }
        expr.off += 1 << term;
        acts.add(10 * kind + term);
        deal.clear();
        int many = 0;
        for (int i = 0; i < expr.terms.size(); i++) {
            many += (expr.off >> i & 1) == 0 ? 1 : 0;
        }
        return many;
    }

    private void back() {
        int act = acts.remove(acts.size() - 1);
        kinds.get(act / 10).off -= 1 << act % 10;
        deal.clear();
    }

    int undo() {
        if (lines == 0 || acts.isEmpty()) {
            return lines == 0 ? -2 : -5;
        }
        back();
        return acts.size();
    }

    int anew() {
        if (lines == 0) {
            return -2;
        }
        int were = acts.size();
        while (!acts.isEmpty()) {
            back();
        }
        deal.clear();
        return were;
    }
}
