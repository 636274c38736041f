/** What the tests share: texts on the TAPE, answers looked at. */
final class Kit {
    private static int wrong = 0;
    private static int looked = 0;

    private Kit() {
    }

    static void due(String call, long got, long want) {
        looked++;
        if (got != want) {
            wrong++;
            if (wrong <= 50) {
                System.out.println(call + " answered " + got + ", due is " + want);
            }
        }
    }

    static void holds(String what, boolean so) {
        due(what, so ? 1 : 0, 1);
    }

    static int wrongs() {
        return wrong;
    }

    static void finish(String name) {
        System.out.println(name + ": " + looked + " answers, " + wrong + " not as due");
        if (wrong != 0) {
            System.exit(1);
        }
    }

    /** Puts a text on an empty TAPE, by feed and end. */
    static void tape(GrownKinds x, String text) {
        x.end(0);
        int fed = 0;
        while (fed < text.length()) {
            int[] n = new int[5];
            for (int i = 0; i < 20; i++) {
                int sign = fed + i < text.length() ? text.charAt(fed + i) & 255 : 0;
                n[i / 4] = n[i / 4] << 8 | sign;
            }
            if (x.feed(n[0], n[1], n[2], n[3], n[4]) < 0) {
                throw new IllegalStateException("the text is too long: " + text);
            }
            fed += 20;
        }
        if (x.end(text.length()) != text.length()) {
            throw new IllegalStateException("the TAPE does not end as it should");
        }
    }

    static int grammar(GrownKinds x, String text) {
        tape(x, text);
        return x.grammar();
    }

    static int tells(GrownKinds x, int kind, String text) {
        tape(x, text);
        return x.tells(kind);
    }

    static GrownKinds of(String text) {
        GrownKinds x = new GrownKinds();
        int lines = grammar(x, text);
        if (lines < 0) {
            due("grammar() of " + text + " (fault " + x.fault(0) + " at " + x.fault(1) + ")", lines, 0);
        }
        return x;
    }

    static String spelled(GrownKinds x, int kind, int n, int rank) {
        int length = x.length(kind, n, rank);
        StringBuilder text = new StringBuilder();
        for (int i = 0; i < length; i++) {
            text.append((char) x.sign(kind, n, rank, i));
        }
        return text.toString();
    }

    static void spelledAs(String about, GrownKinds x, int kind, int n, String... texts) {
        due(about + ": things(" + kind + ", " + n + ")", x.things(kind, n), texts.length);
        for (int rank = 0; rank < texts.length; rank++) {
            String got = spelled(x, kind, n, rank);
            if (!got.equals(texts[rank])) {
                due(about + ": " + kind + ", " + n + ", " + rank + " is spelled " + got + ", due is " + texts[rank], 0, 1);
            } else {
                due(about, 1, 1);
            }
        }
    }
}
