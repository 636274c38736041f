import java.util.ArrayList;
import java.util.List;
import java.util.Random;

/** FAULTS 1 to 3: told cases, and spoiled grammars against a second reader that works on a list of TOKENS. */
public final class FaultTest {
    private static final List<String> WORDS =
        List.of("grammar", "most", "atom", "unit", "or", "with", "row", "bag", "set", "ring");

    private static final class Fault extends RuntimeException {
        private static final long serialVersionUID = 1L;
        final int number;
        final int place;

        Fault(int number, int place) {
            this.number = number;
            this.place = place;
        }
    }

    // ---- the second reader

    private final List<String> tokens = new ArrayList<>();
    private final List<Integer> places = new ArrayList<>();
    private final List<String> names = new ArrayList<>();
    private final List<String> lined = new ArrayList<>();
    private int at = 0;
    private int parts = 0;

    private FaultTest(String text) {
        int i = 0;
        while (i < text.length()) {
            char c = text.charAt(i);
            if (c == ' ' || c == '\n') {
                i++;
                continue;
            }
            int j = i + 1;
            String set = c >= 'a' && c <= 'z' ? "abcdefghijklmnopqrstuvwxyz" : c >= '0' && c <= '9' ? "0123456789" : "";
            while (j < text.length() && set.indexOf(text.charAt(j)) >= 0) {
                j++;
            }
            tokens.add(text.substring(i, j));
            places.add(i);
            i = j;
        }
        tokens.add("");
        places.add(text.length());
    }

    private String token() {
        return tokens.get(at);
    }

    private Fault fault(int number) {
        return new Fault(number, places.get(at));
    }

    private boolean isWord() {
        return !token().isEmpty() && Character.isLowerCase(token().charAt(0)) && token().charAt(0) < 128;
    }

    private boolean isNumber() {
        return !token().isEmpty() && token().charAt(0) >= '0' && token().charAt(0) <= '9';
    }

    private void must(String s) {
        if (!token().equals(s)) {
            throw fault(1);
        }
        at++;
    }

    private int number(int low, int high) {
        if (!isNumber()) {
            throw fault(1);
        }
        java.math.BigInteger n = new java.math.BigInteger(token());
        if (n.compareTo(java.math.BigInteger.valueOf(low)) < 0 || n.compareTo(java.math.BigInteger.valueOf(high)) > 0) {
            throw fault(2);
        }
        at++;
        return n.intValue();
    }

    private int all() {
        if (tokens.size() == 1) {
            return 0;
        }
        must("grammar");
        must("most");
        number(0, 7);
        do {
            if (!isWord() || WORDS.contains(token())) {
                throw fault(1);
            }
            if (token().length() > 8 || names.contains(token())) {
                throw fault(2);
            }
            if (names.size() == 6) {
                throw fault(3);
            }
            names.add(token());
            at++;
        } while (!token().equals(";"));
        at++;
        int lines = 1;
        while (!token().isEmpty()) {
            if (!isWord() || WORDS.contains(token())) {
                throw fault(1);
            }
            if (!names.contains(token()) || lined.contains(token())) {
                throw fault(2);
            }
            lined.add(token());
            at++;
            must("=");
            expr(0);
            must(";");
            lines++;
        }
        return lines;
    }

    private void expr(int deep) {
        int terms = 0;
        while (true) {
            part(deep, ++terms > 10);
            while (token().equals("with")) {
                at++;
                part(deep, false);
            }
            if (!token().equals("or")) {
                return;
            }
            at++;
        }
    }

    private void part(int deep, boolean late) {
        String t = token();
        boolean holds = List.of("row", "bag", "set", "ring", "(").contains(t);
        if (!isWord() && !t.equals("(") || List.of("grammar", "most", "or", "with").contains(t)) {
            throw fault(1);
        }
        if (isWord() && !WORDS.contains(t) && !names.contains(t)) {
            throw fault(2);
        }
        if (late || parts == 24 || holds && deep == 6) {
            throw fault(3);
        }
        parts++;
        at++;
        if (t.equals("atom")) {
            if (!isWord()) {
                throw fault(1);
            }
            if (token().length() > 1) {
                throw fault(2);
            }
            at++;
        } else if (t.equals("(")) {
            expr(deep + 1);
            must(")");
        } else if (holds) {
            if (isNumber()) {
                number(1, 7);
            }
            part(deep + 1, false);
        }
    }

    // ---- spoiled grammars

    private static final String[] BITS = {
        "grammar", "most", "atom", "unit", "or", "with", "row", "bag", "set", "ring", "=", ";", "(", ")", "0", "1", "7", "8",
        "a", "b", "p", "q", "abcdefgh", "abcdefghi", "07", "99999999999999999999", "!", "A", "\n", "\u00e9", "\0", "{", "-"};

    private static final String[] SOUND = {
        "grammar most 3 p q ; p = atom a with q or unit with atom b ; q = row 2 ( atom a or atom b ) or bag p ;",
        "grammar most 0 p ; p = set ring row bag ( ( atom x ) ) ;",
        "grammar most 7 a b c d e f ; f = a or b ; b = atom b with ( unit or unit with unit ) ; a = ring 7 b ;",
        "grammar most 5 p ; p = unit or unit or unit or unit or unit or unit or unit or unit or unit or unit ;",
        "grammar most 5 p ; p = ( unit or unit or unit or unit or unit or unit or unit or unit or unit or unit ) with unit ;",
        "grammar most 4 p q ; p = atom a with atom a with atom a with atom a with atom a with atom a with atom a with atom a"
            + " with atom a with atom a with atom a with atom a ; q = ( unit with unit with unit with unit with unit ) with"
            + " ( unit with unit with unit ) with p ;",
        "grammar most 7 abcdefgh p ; p = row row row row row row atom a ; abcdefgh = ( ( ( ( ( ( p ) ) ) ) ) ) ;"};

    private static void spoil(GrownKinds x, Random chance, String sound) {
        List<String> bits = new ArrayList<>(List.of(sound.split(" ")));
        int times = chance.nextInt(4);
        for (int i = 0; i < times && !bits.isEmpty(); i++) {
            int at = chance.nextInt(bits.size());
            String bit = chance.nextBoolean() ? BITS[chance.nextInt(BITS.length)] : bits.get(chance.nextInt(bits.size()));
            switch (chance.nextInt(5)) {
                case 0: bits.set(at, bit); break;
                case 1: bits.remove(at); break;
                case 2: bits.add(at, bit); break;
                case 3: bits = new ArrayList<>(bits.subList(0, at + 1)); break;
                default: bits.addAll(at, new ArrayList<>(bits.subList(at, Math.min(bits.size(), at + 1 + chance.nextInt(9)))));
            }
        }
        StringBuilder text = new StringBuilder();
        for (String bit : bits) {
            boolean glued = chance.nextInt(3) == 0 && !bit.isEmpty() && "=;()".contains(bit);
            text.append(glued ? "" : chance.nextInt(9) == 0 ? " \n " : " ").append(bit);
        }
        if (text.length() <= 400) {
            judge(x, text.toString());
        }
    }

    private static void judge(GrownKinds x, String text) {
        int number = 0;
        int place = -1;
        int lines = 0;
        try {
            lines = new FaultTest(text).all();
        } catch (Fault f) {
            number = f.number;
            place = f.place;
        }
        int got = Kit.grammar(x, text);
        boolean meaningless = number == 0 && x.fault(0) == 4;
        Kit.due("grammar() of " + text, got, number == 0 && !meaningless ? lines : -4);
        Kit.due("fault(0) of " + text, x.fault(0), meaningless ? 4 : number);
        if (!meaningless) {
            Kit.due("fault(1) of " + text, x.fault(1), place);
        }
        Kit.due("count(5) behind " + text, x.count(5), 0);
    }

    private static void told(String text, int number, int place) {
        GrownKinds x = new GrownKinds();
        int got = Kit.grammar(x, text);
        Kit.due("grammar() of " + text, got < 0 ? -4 : 0, number == 0 ? 0 : -4);
        Kit.due("fault(0) of " + text, x.fault(0), number);
        Kit.due("fault(1) of " + text, x.fault(1), place);
    }

    private static String repeat(String s, int times) {
        return s.repeat(times);
    }

    private static void toldCases() {
        String head = "grammar most 3 a b;";
        int h = head.length();
        told(head, 0, -1);
        told("", 0, -1);
        told(" \n ", 0, -1);
        told("Grammar", 1, 0);
        told("grammar", 1, 7);
        told("  grammars most 3 a;", 1, 2);
        told("grammar most a;", 1, 13);
        told("grammar most 8 a;", 2, 13);
        told("grammar most 07 a;", 0, -1);
        told("grammar most 4294967297 a;", 2, 13);
        told("grammar most 3;", 1, 14);
        told("grammar most 3 a", 1, 16);
        told("grammar most 3 a  ", 1, 18);
        told("grammar most 3 a=", 1, 16);
        told("grammar most 3 abcdefgh;", 0, -1);
        told("grammar most 3 abcdefghi;", 2, 15);
        told("grammar most 3 a a;", 2, 17);
        told("grammar most 3 a b c d e f a;", 2, 27);
        told("grammar most 3 a b c d e f row;", 1, 27);
        told("grammar most 3 a b c d e f g;", 3, 27);
        told("grammar most 3 a b c d e f 7;", 1, 27);
        for (String word : WORDS) {
            told("grammar most 3 " + word + ";", 1, 15);
            told(head + word + "=unit;", 1, h);
        }
        for (String word : List.of("grammar", "most", "or", "with")) {
            told(head + "a=" + word + ";", 1, h + 2);
        }
        told(head + ";", 1, h);
        told(head + "3", 1, h);
        told(head + "c=unit;", 2, h);
        told(head + "a=unit;a=unit;", 2, h + 7);
        told(head + "a unit;", 1, h + 2);
        told(head + "a=;", 1, h + 2);
        told(head + "a=c;", 2, h + 2);
        told(head + "a=unit", 1, h + 6);
        told(head + "a=unit b;", 1, h + 7);
        told(head + "a=unit or;", 1, h + 9);
        told(head + "a=unit with;", 1, h + 11);
        told(head + "a=atom;", 1, h + 6);
        told(head + "a=atom 3;", 1, h + 7);
        told(head + "a=atom or;", 2, h + 7);
        told(head + "a=atom ab;", 2, h + 7);
        told(head + "a=atoma;", 2, h + 2);
        told(head + "a=row 0 atom a;", 2, h + 6);
        told(head + "a=row 1 atom a;", 0, -1);
        told(head + "a=ring7atom a;", 0, -1);
        told(head + "a=row 8 atom a;", 2, h + 6);
        told(head + "a=row 2 2 atom a;", 1, h + 8);
        told(head + "a=row;", 1, h + 5);
        told(head + "a=2 atom a;", 1, h + 2);
        told(head + "a=(unit;", 1, h + 7);
        told(head + "a=();", 1, h + 3);
        told(head + "a=unit);", 1, h + 6);
        told(head + "a=unit;\0", 1, h + 7);
        told(head + "a=\tunit;", 1, h + 2);
        // the 11th TERM, in brackets too; what can't stand there, or is not told, comes first
        String ten = repeat("unit or ", 10);
        told(head + "a=" + repeat("unit or ", 9) + "unit;", 0, -1);
        told(head + "a=" + ten + "unit;", 3, h + 82);
        told(head + "a=" + ten + "c;", 2, h + 82);
        told(head + "a=" + ten + ";", 1, h + 82);
        told(head + "a=(" + ten + "unit);", 3, h + 83);
        // the 25th PART: of all LINES, brackets and what they hold
        String twelve = repeat("unit with ", 11) + "unit";
        told(head + "a=" + twelve + ";b=" + twelve + ";", 0, -1);
        told(head + "a=" + twelve + ";b=" + twelve + " with unit;", 3, h + 2 + 114 + 3 + 114 + 6);
        told(head + "a=" + twelve + ";b=(" + twelve + ");", 3, h + 2 + 114 + 4 + 110);
        // the 7th deep one
        told(head + "a=" + repeat("row ", 6) + "atom a;", 4, 0);
        told(head + "a=" + repeat("row 1 ", 6) + "atom a;", 0, -1);
        told(head + "a=" + repeat("row ", 7) + "atom a;", 3, h + 2 + 24);
        told(head + "a=" + repeat("(", 7) + "atom a" + repeat(")", 7) + ";", 3, h + 2 + 6);
        told(head + "a=" + repeat("(", 6) + "row atom a" + repeat(")", 6) + ";", 3, h + 2 + 6);
        told(head + "a=" + repeat("(", 6) + "b" + repeat(")", 6) + ";b=" + repeat("bag ", 6) + "atom a;", 4, 1);
        told(head + "a=" + repeat("ring ", 6) + "b;b=" + repeat("ring ", 6) + "atom a;", 0, -1);
        // the first by its place
        told(head + "a=row 9 c;", 2, h + 6);
        told(head + "a=c with row 9 !;", 2, h + 2);
    }

    /** FAULT 4: the first KIND by its number, whichever LINE comes first. */
    private static void meaninglessCases() {
        String head = "grammar most 3 a b c;";
        told(head + "a=a;", 4, 0);
        told(head + "b=b or unit;", 4, 1);
        told(head + "c=a;a=b;b=c;", 4, 0);
        told(head + "c=b;b=c;a=b;", 4, 1);
        told(head + "a=a with b;b=unit;", 4, 0);
        told(head + "a=a with b;b=atom x;", 0, -1);
        told(head + "a=b with a with unit;b=bag atom x;", 4, 0);
        told(head + "a=row a or atom x;", 4, 0);
        told(head + "a=row 1 a or atom x;", 4, 0);
        told(head + "a=row 2 a or atom x;", 0, -1);
        told(head + "a=ring 1 a;", 4, 0);
        told(head + "a=ring a or atom x;", 4, 0);
        told(head + "a=(atom x with a) or (unit with a);", 4, 0);
        told(head + "a=bag unit;", 4, 0);
        told(head + "a=bag 2 unit;", 4, 0);
        told(head + "a=ring bag atom x;", 4, 0);
        told(head + "a=ring ring atom x;", 0, -1);
        told(head + "a=atom x with (atom y or set (atom x or unit));", 4, 0);
        told(head + "b=row a;a=unit;", 4, 1);
        told(head + "b=row a;a=atom x;", 0, -1);
        // a set of two of an EMPTY PART is EMPTY by its words, though there is no such THING
        told(head + "a=row b;b=set 2 c;c=unit;", 4, 0);
        told(head + "a=atom x with b with a;b=c;c=b with atom x;", 0, -1);
        told(head + "b=atom x with unit;c=b with b;a=c with a or unit;", 0, -1);
    }

    /** After a FAULT all else stays as it was. */
    private static void staying() {
        GrownKinds x = Kit.of("grammar most 3 a;a=atom x with bag a or atom y;");
        Kit.due("takes", x.takes(0, 1), 1);
        Kit.due("deal", x.deal(0, 0, 3, 0), x.boxed(0, 0, 3));
        int left = x.left();
        Kit.due("a faulty grammar", Kit.grammar(x, "grammar most 3 b;b=b;"), -4);
        Kit.due("fault(0)", x.fault(0), 4);
        Kit.due("fault(1)", x.fault(1), 0);
        Kit.due("fault(2)", x.fault(2), -1);
        Kit.due("fault(-1)", x.fault(-1), -1);
        Kit.due("count(4)", x.count(4), 1);
        Kit.due("off", x.off(0), 2);
        Kit.due("left", x.left(), left);
        Kit.due("terms", x.terms(0), 2);
        Kit.due("another grammar", Kit.grammar(x, "grammar most 2 b c;c=unit;"), 2);
        Kit.due("fault(0)", x.fault(0), 0);
        Kit.due("fault(1)", x.fault(1), -1);
        Kit.due("count(4)", x.count(4), 0);
        Kit.due("left", x.left(), 0);
        Kit.due("count(1)", x.count(1), 2);
    }

    public static void main(String[] args) {
        int tries = args.length > 0 ? Integer.parseInt(args[0]) : 60000;
        toldCases();
        meaninglessCases();
        staying();
        Random chance = new Random(args.length > 1 ? Long.parseLong(args[1]) : 4);
        GrownKinds x = new GrownKinds();
        for (int i = 0; i < tries && Kit.wrongs() < 20; i++) {
            spoil(x, chance, SOUND[chance.nextInt(SOUND.length)]);
        }
        Kit.finish("FaultTest");
    }
}
