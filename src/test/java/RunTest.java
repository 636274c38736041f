import java.lang.reflect.InvocationTargetException;
import java.lang.reflect.Method;
import java.util.ArrayList;
import java.util.Collections;
import java.util.List;
import java.util.Random;

/** Runs of calls made by chance on one object, up to the 512 that are promised, each answer against Model's. */
public final class RunTest {
    private static final int CALLS_MOST = 512;
    private static final String[] NAMES = {"a", "b", "tree", "x", "ringo", "bagatell"};

    private final Random chance;
    private final GrownKinds object = new GrownKinds();
    private final Model model = new Model();
    private final List<String> run = new ArrayList<>();
    private String grammar = "";
    private int parts = 0;
    private int kinds = 1;
    private int most = 0;
    private int taking = 4;
    private int enough = 5;
    private boolean wrong = false;

    private RunTest(long seed) {
        chance = new Random(seed);
    }

    private int below(int many) {
        return chance.nextInt(many);
    }

    private boolean once(int of) {
        return chance.nextInt(of) == 0;
    }

    // ---- GRAMMARS

    private String invent() {
        kinds = 1 + below(once(2) ? 6 : 3);
        most = once(3) ? below(8) : 2 + below(4);
        parts = 0;
        StringBuilder text = new StringBuilder("grammar most ").append(most);
        for (int kind = 0; kind < kinds; kind++) {
            text.append(' ').append(NAMES[kind]);
        }
        text.append(';');
        List<Integer> order = new ArrayList<>();
        for (int kind = 0; kind < kinds; kind++) {
            order.add(kind);
        }
        Collections.shuffle(order, chance);
        for (int kind : order) {
            if (!once(10)) {
                text.append(NAMES[kind]).append(once(2) ? " = " : "=").append(expr(0)).append(once(5) ? " ;\n" : ";");
            }
        }
        return text.toString();
    }

    private String expr(int deep) {
        int terms = once(3) ? 1 : 1 + below(once(8) ? 10 : 3);
        StringBuilder text = new StringBuilder();
        for (int term = 0; term < terms && (term == 0 || parts < 24); term++) {
            boolean seed = once(2) && term == 0;
            parts += seed ? 1 : 0;
            text.append(term == 0 ? "" : " or ").append(seed ? "atom " + (char) ('a' + below(3)) : part(deep));
            for (int i = below(once(3) ? 5 : 2); i > 0; i--) {
                text.append(" with ").append(part(deep));
            }
        }
        return text.toString();
    }

    private String part(int deep) {
        parts++;
        int what = below(deep > 4 ? 8 : 15);
        if (what < 3) {
            return "atom " + (char) ('a' + below(once(6) ? 26 : 3));
        }
        if (what < 4) {
            return "unit";
        }
        if (what < 8) {
            return NAMES[below(kinds)];
        }
        if (what < 9) {
            return (once(2) ? "(" : "( ") + expr(deep + 1) + ")";
        }
        String number = once(2) ? "" : " " + (1 + below(once(3) ? 7 : 3));
        return new String[] {"row", "bag", "set", "ring"}[below(4)] + number + " " + part(deep + 1);
    }

    /** A few signs or words of a text changed. */
    private String spoiled(String text, String with) {
        StringBuilder changed = new StringBuilder(text);
        for (int i = 1 + below(2); i > 0 && changed.length() > 0; i--) {
            int at = below(changed.length());
            String sign = "" + with.charAt(below(with.length()));
            switch (below(4)) {
                case 0: changed.deleteCharAt(at); break;
                case 1: changed.insert(at, sign); break;
                case 2: changed.replace(at, at + 1, sign); break;
                default: changed.setLength(once(3) ? at : changed.length());
            }
        }
        return changed.toString();
    }

    // ---- calls on both

    /** Makes one call on both; false if the model does not tell. */
    private long call(String name, long... with) {
        Method of = null;
        for (Method method : GrownKinds.class.getMethods()) {
            of = method.getName().equals(name) ? method : of;
        }
        StringBuilder told = new StringBuilder(name).append('(');
        Object[] arguments = new Object[with.length];
        for (int i = 0; i < with.length; i++) {
            told.append(i == 0 ? "" : ", ").append(with[i]);
            boolean isLong = of.getParameterTypes()[i] == long.class;
            arguments[i] = isLong ? (Object) with[i] : (Object) (int) with[i];
        }
        long got = answer(of, object, arguments);
        long due = answerOfModel(name, arguments, of.getParameterTypes());
        run.add(told.append(')').append(" ").append(got).toString());
        if (got != due) {
            wrong = true;
            Kit.due("run of\n" + grammar + "\n" + String.join("\n", run) + "\n" + told, got, due);
        } else {
            Kit.due("", got, due);
        }
        return got;
    }

    private static long answer(Method of, Object on, Object[] with) {
        try {
            return ((Number) of.invoke(on, with)).longValue();
        } catch (InvocationTargetException inside) {
            if (inside.getCause() instanceof Model.TooMany) {
                throw (Model.TooMany) inside.getCause();
            }
            throw new IllegalStateException(of.getName(), inside.getCause());
        } catch (IllegalAccessException none) {
            throw new IllegalStateException(none);
        }
    }

    private long answerOfModel(String name, Object[] with, Class<?>[] types) {
        try {
            if (name.equals("feed")) {
                int[] five = new int[5];
                for (int i = 0; i < 5; i++) {
                    five[i] = (Integer) with[i];
                }
                return model.feed(five);
            }
            return answer(Model.class.getDeclaredMethod(name, types), model, with);
        } catch (NoSuchMethodException none) {
            throw new IllegalStateException(none);
        }
    }

    private boolean tape(String text) {
        if (text.length() > 400) {
            return false;
        }
        if (model.count(5) > 0 && !once(30)) {
            call("end", 0);
        }
        int from = model.count(5);
        for (int fed = 0; fed < text.length(); fed += 20) {
            long[] five = new long[5];
            for (int i = 0; i < 20; i++) {
                int sign = fed + i < text.length() ? text.charAt(fed + i) : 0;
                five[i / 4] = (int) (five[i / 4] << 8 | sign);
            }
            call("feed", five);
        }
        call("end", from + text.length());
        return true;
    }

    private int kind() {
        return once(25) ? (once(2) ? -1 : kinds + below(2)) : below(kinds);
    }

    private int size() {
        return once(25) ? (once(2) ? -1 : most + 1) : below(most + 1);
    }

    private int term(int kind) {
        int terms = Math.max(1, model.terms(kind));
        return once(20) ? (once(2) ? -1 : terms) : below(terms);
    }

    private int letter() {
        return once(20) ? (once(2) ? -1 : 26) : below(once(5) ? 26 : 3);
    }

    private int what() {
        return once(20) ? (once(2) ? -1 : 2) : below(2);
    }

    private int rank(int kind, int n) {
        int many = (int) Math.max(1, model.things(kind, n));
        return once(20) ? (once(2) ? -1 : many) : below(many);
    }

    private void ask() {
        int kind = kind();
        int n = size();
        for (int i = 0; i < 4 && model.things(kind, n) == 0; i++) {
            kind = kind();
            n = size();
        }
        int high = once(4) ? size() : Math.max(n, size());
        switch (below(45)) {
            case 0: call("fault", below(4) - 1); break;
            case 1: call("count", below(8) - 1); break;
            case 2: call("terms", kind); break;
            case 3: call("off", kind); break;
            case 4: call("letters", kind); break;
            case 5: call("uses", kind); break;
            case 6: call("reaches", kind); break;
            case 7: call("empty", kind); break;
            case 8: call("leans", kind); break;
            case 9: call("blank"); break;
            case 10: call("least", kind); break;
            case 11: call("things", kind, n); break;
            case 12: call("upto", kind, n); break;
            case 13: call("labelled", kind, n); break;
            case 14: call("first", kind, once(9) ? below(3) - 1 : once(9) ? 1_000_000_000_000L + below(2) : 1 + below(40)); break;
            case 15: call("marked", kind, n, letter(), once(20) ? -1 : below(9)); break;
            case 16: call("by", kind, n, term(kind)); break;
            case 17: call("without", kind, term(kind), kind(), n); break;
            case 18: call("hangs", kind, n); break;
            case 19: call("idle"); break;
            case 20: call("length", kind, n, rank(kind, n)); break;
            case 21: call("sign", kind, n, rank(kind, n), below(20) - 1); break;
            case 22: call("deep", kind, n, rank(kind, n)); break;
            case 23: call("atoms", kind, n, rank(kind, n), letter()); break;
            case 24: call("term", kind, n, rank(kind, n)); break;
            case 25: call("symmetries", kind, n, rank(kind, n)); break;
            case 26: call("labels", kind, n, rank(kind, n)); break;
            case 27: tell(); break;
            case 28: call("told", below(4) - 1); break;
            case 29: call("shared", kind, kind(), n); break;
            case 30: call("deepest", kind, n); break;
            case 31: call("fullest", kind, n, letter()); break;
            case 32: call("stiffest", kind, n); break;
            case 33: call("chance", kind, n, term(kind), what()); break;
            case 34: call("mean", kind, n, letter(), what()); break;
            case 35: call("boxed", kind, n, high); break;
            case 36: call("bits", kind, n, high); break;
            case 37: call("drawn", kind, n, high, once(20) ? -1 : chance.nextInt() >>> 2, what()); break;
            case 38: call("deal", kind, n, high, once(9) ? 2_000_000_000 + below(2) : chance.nextInt(2_000_000_001) - (once(9) ? 1 : 0)); break;
            case 39: dealSome(kind, n, high); break;
            case 40: call("left"); break;
            case 41: if (once(taking)) { call("takes", kind, term(kind)); } break;
            case 42: call("undo"); break;
            case 43: if (once(4)) { call("anew"); } break;
            default: spell(kind, n);
        }
    }

    private void dealSome(int kind, int low, int high) {
        if (model.left() == 0) {
            call("deal", kind, low, high, below(2_000_000_001));
        }
        for (int i = below(10); i >= 0; i--) {
            call("dealt");
        }
    }

    /** All signs of a THING, and one behind. */
    private void spell(int kind, int n) {
        int rank = rank(kind, n);
        long length = call("length", kind, n, rank);
        for (int i = 0; i <= length && i < 30; i++) {
            call("sign", kind, n, rank, i);
        }
    }

    /** A THING in a text of any order, a spoiled one, one of another KIND, nothing. */
    private void tell() {
        int kind = below(kinds);
        List<Model.Thing> all = model.terms(kind) < 0 ? List.of() : model.all(kind, below(most + 1));
        String text = all.isEmpty() ? (once(2) ? "" : "0a") : mixed(all.get(below(all.size())));
        if (once(4)) {
            text = spoiled(text, "ab01-[]{}<>()");
        }
        if (tape(text)) {
            call("tells", once(6) ? kind() : kind);
        }
    }

    private String mixed(Model.Thing x) {
        List<String> in = new ArrayList<>();
        for (Model.Thing y : x.in) {
            in.add(mixed(y));
        }
        if (x.what == '{' || x.what == '<') {
            Collections.shuffle(in, chance);
        }
        if (x.what == '(') {
            Collections.rotate(in, below(in.size()));
        }
        if ("au".indexOf(x.what) >= 0) {
            return x.text;
        }
        String all = String.join("", in);
        boolean nests = "[{<(".indexOf(x.what) >= 0;
        return nests ? x.text.charAt(0) + all + x.text.charAt(x.text.length() - 1)
                : x.text.substring(0, x.text.length() - all.length()) + all;
    }

    /** Few GRAMMARS made by chance have a meaning, and some THINGS, but not too many. */
    private boolean isRich(String text) {
        try {
            Model scratch = new Model();
            scratch.tape(text);
            if (text.length() > 400 || scratch.grammar() < 0) {
                return false;
            }
            long all = 0;
            for (int kind = 0; kind < scratch.count(0); kind++) {
                all += scratch.upto(kind, scratch.count(1));
            }
            return all > enough;
        } catch (Model.TooMany none) {
            return false;
        }
    }

    private void tellGrammar() {
        String text = once(40) ? "" : invent();
        taking = once(12) ? 1 : 4;
        enough = once(3) ? 300 : once(2) ? 80 : 5;
        for (int i = 0; i < 500 && !once(300) && !isRich(text); i++) {
            text = invent();
        }
        if (once(6)) {
            text = spoiled(text, "a;=() 1890\n.A\u00e9");
        }
        grammar = text;
        if (tape(text) && call("grammar") < 0) {
            call("fault", 0);
            call("fault", 1);
        }
        kinds = Math.max(1, model.count(0));
        most = model.count(1);
    }

    /** How many calls were made until the model had too many THINGS to make. */
    private int all() {
        try {
            for (int i = 0; i < 6 && model.count(3) == 0 && run.size() < CALLS_MOST - 100; i++) {
                tellGrammar();
            }
            while (run.size() < CALLS_MOST - 60 && !wrong) {
                if (once(250)) {
                    tellGrammar();
                } else {
                    ask();
                }
            }
        } catch (Model.TooMany none) {
            return run.size();
        }
        return run.size();
    }

    public static void main(String[] arguments) {
        int tries = arguments.length > 0 ? Integer.parseInt(arguments[0]) : 1000;
        long seed = arguments.length > 1 ? Long.parseLong(arguments[1]) : 1;
        int whole = 0;
        for (int i = 0; i < tries && Kit.wrongs() < 5; i++) {
            RunTest test = new RunTest(seed * 1_000_003 + i);
            whole += test.all() >= CALLS_MOST - 60 ? 1 : 0;
        }
        System.out.println(whole + " runs of " + tries + " to their end");
        Kit.finish("RunTest");
    }
}
