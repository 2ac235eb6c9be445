/** What the tests share: the sentence held, programs written as text, the count of wrong answers. */
final class Check {
    private static int wrong = 0;
    private static int sentences = 0;
    private static String holding = "";

    private static final String[] KEYWORDS = {
        "quote", "lambda", "let", "letrec", "if", "cons", "car", "cdr", "null",
        "add", "sub", "mul", "div", "eq", "lt"
    };

    static {
        // No call may throw; should one do so, the sentence under test must be told with it.
        Thread.setDefaultUncaughtExceptionHandler((thread, thrown) -> {
            System.out.println(holding + "a call threw " + thrown);
            thrown.printStackTrace();
            System.exit(1);
        });
    }

    private Check() {}

    /**
     * Names the sentence of the document that the checks up to the next call hold: the heading it
     * stands under and its own words. A wrong answer is told together with it.
     */
    static void sentence(String heading, String words) {
        sentences++;
        holding = heading + ", '" + words + "': ";
    }

    static void same(String what, long got, long due) {
        if (got != due) {
            tell(what, "" + got, "" + due);
        }
    }

    static void same(String what, boolean got, boolean due) {
        same(what, got ? 1 : 0, due ? 1 : 0);
    }

    static void same(String what, String got, String due) {
        if (!got.equals(due)) {
            tell(what, got, due);
        }
    }

    private static void tell(String what, String got, String due) {
        wrong++;
        System.out.println(holding + what + " answered " + got + ", due is " + due);
    }

    static void end() {
        String held = sentences == 0 ? "" : sentences + " sentences held, ";
        System.out.println(held + (wrong == 0 ? "all answers are as due" : wrong + " answers are not as due"));
        if (wrong != 0) {
            System.exit(1);
        }
    }

    /** Hands over a program such as "(add x 1)"; a name of one letter is its letter's number. */
    static void hand(SecdLisp lisp, String text) {
        for (String word : words(text)) {
            int kind = kindOf(word);
            same("token " + word + " of " + text, lisp.token(kind, valueOf(kind, word)), true);
        }
    }

    static String[] words(String text) {
        String spaced = text.replace("(", " ( ").replace(")", " ) ").trim();
        return spaced.isEmpty() ? new String[0] : spaced.split("\\s+");
    }

    static int kindOf(String word) {
        for (int i = 0; i < KEYWORDS.length; i++) {
            if (KEYWORDS[i].equals(word)) {
                return SecdLisp.TOK_QUOTE + i;
            }
        }
        switch (word) {
            case "(": return SecdLisp.TOK_LPAREN;
            case ")": return SecdLisp.TOK_RPAREN;
            case "nil": return SecdLisp.TOK_NIL;
            default: return word.matches("-?[0-9]+") ? SecdLisp.TOK_NUM : SecdLisp.TOK_SYM;
        }
    }

    static int valueOf(int kind, String word) {
        if (kind == SecdLisp.TOK_NUM) {
            return Integer.parseInt(word);
        }
        return kind == SecdLisp.TOK_SYM ? word.charAt(0) - 'a' : 0;
    }

    static SecdLisp holding(int depthLimit, String text) {
        SecdLisp lisp = new SecdLisp(depthLimit);
        hand(lisp, text);
        return lisp;
    }

    static SecdLisp compiled(int depthLimit, String text) {
        SecdLisp lisp = holding(depthLimit, text);
        same("compile of " + text, lisp.compile(), SecdLisp.OK);
        return lisp;
    }

    static SecdLisp ran(int depthLimit, String text) {
        SecdLisp lisp = compiled(depthLimit, text);
        same("run of " + text, lisp.run(SecdLisp.MAX_FUEL), SecdLisp.OK);
        return lisp;
    }

    /** Holds what compile answers for a text, and that the program is present just when it is OK. */
    static void compiles(String text, int due) {
        SecdLisp lisp = holding(5, text);
        same("compile of " + text, lisp.compile(), due);
        boolean present = lisp.run(SecdLisp.MAX_FUEL) != SecdLisp.ERR_NOPROG;
        same("program present after compile of " + text, present, due == SecdLisp.OK);
    }

    static void accepts(String... texts) {
        for (String text : texts) {
            compiles(text, SecdLisp.OK);
        }
    }

    static void refuses(String... texts) {
        for (String text : texts) {
            compiles(text, SecdLisp.ERR_SYNTAX);
        }
    }

    static void unbound(String... texts) {
        for (String text : texts) {
            compiles(text, SecdLisp.ERR_UNBOUND);
        }
    }

    /** The value as text, read by walking from the root; the cursor ends anywhere. */
    static String show(SecdLisp lisp) {
        return show(lisp, "");
    }

    private static String show(SecdLisp lisp, String path) {
        if (!walk(lisp, path)) {
            return "none";
        }
        switch (lisp.kind()) {
            case SecdLisp.KIND_INT: return "" + lisp.intValue();
            case SecdLisp.KIND_NIL: return "nil";
            case SecdLisp.KIND_CLOSURE:
                return "fn" + lisp.closureArity() + "@" + lisp.closureSource();
            case SecdLisp.KIND_PAIR:
                String first = show(lisp, path + "a");
                String second = show(lisp, path + "d");
                return "[" + first + " . " + second + "]";
            default: return "kind " + lisp.kind();
        }
    }

    private static boolean walk(SecdLisp lisp, String path) {
        if (!lisp.goRoot()) {
            return false;
        }
        for (char turn : path.toCharArray()) {
            same("step " + turn + " of " + path, turn == 'a' ? lisp.goCar() : lisp.goCdr(), true);
        }
        return true;
    }

    static void noResult(String when, SecdLisp lisp) {
        same(when + ": status", lisp.status(), SecdLisp.NO_RESULT);
        same(when + ": steps", lisp.steps(), 0);
        same(when + ": maxDepth", lisp.maxDepth(), 0);
        noValue(when, lisp);
    }

    static void noValue(String when, SecdLisp lisp) {
        same(when + ": kind", lisp.kind(), SecdLisp.KIND_NONE);
        same(when + ": intValue", lisp.intValue(), 0);
        same(when + ": closureArity", lisp.closureArity(), -1);
        same(when + ": closureSource", lisp.closureSource(), -1);
        same(when + ": goRoot", lisp.goRoot(), false);
        same(when + ": goCar", lisp.goCar(), false);
        same(when + ": goCdr", lisp.goCdr(), false);
    }
}
