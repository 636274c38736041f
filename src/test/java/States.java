import java.util.ArrayList;
import java.util.List;

/** What an object answers in one state has nothing left of what it answered in another. */
abstract class States extends Sentences {
    static final String[] GRAMMARS = {
        "grammar most 3 a;a=unit with unit or unit with unit;",
        "grammar most 7 a;a=a with a or a with a or atom x;",
        "grammar most 6 a b c;a=row 2 b or b;b=ring 2 c;c=atom q or atom r or row 2 atom s or row 3 atom x or row 3 (atom a or atom z);",
        "grammar most 7 a b;a=(atom x or atom y) with (atom x or atom z) or (atom x or bag 2 atom y) with (unit or atom x or row 2 atom z);"
            + "b=set a or ring a or bag 2 a or bag a;",
        "grammar most 4 a b;a=unit or atom x or ring (atom x or atom y);b=bag (atom y with a) or set 2 ring atom z or row atom x;",
        "grammar most 5 a b;a=atom x with b or atom y;b=bag a;",
        "grammar most 6 a b c;a=row 2 c or unit;b=set c or ring 3 c;c=atom q or atom r or row 2 c;",
        "grammar most 7 a b c;a=unit or unit or unit or unit or unit with unit;b=a with a with a or row atom x;c=atom x with c with c or atom z;",
        "grammar most 7 z;z=atom x with (z with z or atom y) or atom z or unit with (atom a with z);"};

    /** Answers of all calls that tell of the GRAMMAR and do nothing, one behind the other. */
    static List<Long> answers(GrownKinds x) {
        List<Long> all = new ArrayList<>();
        all.add((long) x.blank());
        all.add((long) x.idle());
        for (int kind = 0; kind < x.count(0); kind++) {
            for (long one : new long[] {x.terms(kind), x.off(kind), x.letters(kind), x.uses(kind), x.reaches(kind), x.empty(kind),
                x.leans(kind), x.least(kind), x.first(kind, 3)}) {
                all.add(one);
            }
            for (int n = 0; n <= x.count(1); n++) {
                ofSize(x, kind, n, all);
                for (int rank = 0; rank < Math.min(12, x.things(kind, n)); rank++) {
                    ofThing(x, kind, n, rank, all);
                }
            }
        }
        return all;
    }

    private static void ofSize(GrownKinds x, int kind, int n, List<Long> all) {
        for (long one : new long[] {x.things(kind, n), x.upto(kind, n), x.labelled(kind, n), x.hangs(kind, n), x.deepest(kind, n),
            x.stiffest(kind, n), x.shared(kind, 0, n), x.shared(0, kind, n), x.boxed(kind, 0, n), x.bits(kind, 0, n),
            x.drawn(kind, 0, n, 123_456_789, 0), x.drawn(kind, 0, n, 987_654_321, 1)}) {
            all.add(one);
        }
        for (int letter : new int[] {0, 16, 23, 24, 25}) {
            for (int k = 0; k <= n; k++) {
                all.add(x.marked(kind, n, letter, k));
            }
            all.add((long) x.fullest(kind, n, letter));
            all.add((long) x.mean(kind, n, letter, 0));
            all.add((long) x.mean(kind, n, letter, 1));
        }
        for (int of = 0; of < x.count(0); of++) {
            for (int term = 0; term < x.terms(of); term++) {
                all.add(x.without(of, term, kind, n));
            }
        }
        for (int term = 0; term < x.terms(kind); term++) {
            all.add(x.by(kind, n, term));
            all.add((long) x.chance(kind, n, term, 0));
        }
    }

    private static void ofThing(GrownKinds x, int kind, int n, int rank, List<Long> all) {
        String text = Kit.spelled(x, kind, n, rank);
        for (int i = 0; i < text.length(); i++) {
            all.add((long) text.charAt(i));
        }
        for (long one : new long[] {x.deep(kind, n, rank), x.atoms(kind, n, rank, 23), x.term(kind, n, rank), x.symmetries(kind, n, rank),
            x.labels(kind, n, rank), text.length() > 40 ? -1 : Kit.tells(x, kind, text)}) {
            all.add(one);
        }
    }

    static void same(String about, List<Long> got, List<Long> want) {
        int unlike = got.size() == want.size() ? 0 : 1;
        for (int i = 0; i < Math.min(got.size(), want.size()); i++) {
            unlike += got.get(i).equals(want.get(i)) ? 0 : 1;
        }
        due(about + ": answers that are not as those of an object that was never asked", unlike, 0);
    }

    private static GrownKinds taken(String text, int kind, int term) {
        GrownKinds x = Kit.of(text);
        x.takes(kind, term);
        return x;
    }

    static void afterTakes(String text) {
        GrownKinds x = Kit.of(text);
        for (int kind = 0; kind < x.count(0); kind++) {
            for (int term = 0; term < x.terms(kind); term++) {
                GrownKinds y = Kit.of(text);
                answers(y);
                due("takes", y.takes(kind, term), y.terms(kind) - 1);
                same("after takes", answers(y), answers(taken(text, kind, term)));
                sameThing(text, kind, term);
            }
        }
    }

    /** The THING that was spelled last is asked for again as the first one. */
    private static void sameThing(String text, int kind, int term) {
        for (int n = 0; n <= 3; n++) {
            GrownKinds x = Kit.of(text);
            int length = x.length(kind, n, 0);
            x.takes(kind, term);
            due("length after takes", x.length(kind, n, 0), taken(text, kind, term).length(kind, n, 0));
            x.undo();
            due("length after undo", x.length(kind, n, 0), length);
        }
    }

    static void afterUndo(String text) {
        GrownKinds x = Kit.of(text);
        due("takes", x.takes(0, 0), x.terms(0) - 1);
        due("takes", x.takes(1 % x.count(0), 1 % x.terms(1 % x.count(0))) < 0 ? 1 : 0, 0);
        answers(x);
        due("undo", x.undo(), 1);
        same("after undo", answers(x), answers(taken(text, 0, 0)));
        due("undo", x.undo(), 0);
        same("after undo", answers(x), answers(Kit.of(text)));
    }

    static void afterAnew(String text) {
        GrownKinds x = taken(text, 0, 0);
        due("takes", x.takes(1 % x.count(0), 1 % x.terms(1 % x.count(0))) < 0 ? 1 : 0, 0);
        answers(x);
        due("anew", x.anew(), 2);
        same("after anew", answers(x), answers(Kit.of(text)));
    }
}
