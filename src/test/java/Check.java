/** What the tests share: programs written as text, and the count of wrong answers. */
final class Check {
    private static int wrong = 0;

    private static final String[] KEYWORDS = {
        "quote", "lambda", "let", "letrec", "if", "cons", "car", "cdr", "null",
        "add", "sub", "mul", "div", "eq", "lt"
    };

    private Check() {}

    static void same(String what, long got, long due) {
        if (got != due) {
            wrong++;
            System.out.println(what + " answered " + got + ", due is " + due);
        }
    }

    static void same(String what, boolean got, boolean due) {
        same(what, got ? 1 : 0, due ? 1 : 0);
    }

    static void same(String what, String got, String due) {
        if (!got.equals(due)) {
            wrong++;
            System.out.println(what + " answered " + got + ", due is " + due);
        }
    }

    static void end() {
        System.out.println(wrong == 0 ? "all answers are as due" : wrong + " answers are not as due");
        if (wrong != 0) {
            System.exit(1);
        }
    }

    /** Hands over a program such as "(add x 1)"; a name of one letter is its letter's number. */
    static void hand(SecdLisp lisp, String text) {
        for (String word : words(text)) {
            int kind = kindOf(word);
            same("token " + word + " of " + text, lisp.token(kind, valueOf(kind, word)), true);
        }
    }

    static String[] words(String text) {
        String spaced = text.replace("(", " ( ").replace(")", " ) ").trim();
        return spaced.isEmpty() ? new String[0] : spaced.split("\\s+");
    }

    static int kindOf(String word) {
        for (int i = 0; i < KEYWORDS.length; i++) {
            if (KEYWORDS[i].equals(word)) {
                return SecdLisp.TOK_QUOTE + i;
            }
        }
        switch (word) {
            case "(": return SecdLisp.TOK_LPAREN;
            case ")": return SecdLisp.TOK_RPAREN;
            case "nil": return SecdLisp.TOK_NIL;
            default: return word.matches("-?[0-9]+") ? SecdLisp.TOK_NUM : SecdLisp.TOK_SYM;
        }
    }

    static int valueOf(int kind, String word) {
        if (kind == SecdLisp.TOK_NUM) {
            return Integer.parseInt(word);
        }
        return kind == SecdLisp.TOK_SYM ? word.charAt(0) - 'a' : 0;
    }

    static SecdLisp holding(int depthLimit, String text) {
        SecdLisp lisp = new SecdLisp(depthLimit);
        hand(lisp, text);
        return lisp;
    }

    static SecdLisp compiled(int depthLimit, String text) {
        SecdLisp lisp = holding(depthLimit, text);
        same("compile of " + text, lisp.compile(), SecdLisp.OK);
        return lisp;
    }

    /** The value at the cursor as text, read by walking; the cursor ends anywhere. */
    static String show(SecdLisp lisp) {
        return show(lisp, "");
    }

    private static String show(SecdLisp lisp, String path) {
        if (!walk(lisp, path)) {
            return "none";
        }
        switch (lisp.kind()) {
            case SecdLisp.KIND_INT: return "" + lisp.intValue();
            case SecdLisp.KIND_NIL: return "nil";
            case SecdLisp.KIND_CLOSURE:
                return "fn" + lisp.closureArity() + "@" + lisp.closureSource();
            case SecdLisp.KIND_PAIR:
                String first = show(lisp, path + "a");
                String second = show(lisp, path + "d");
                return "[" + first + " . " + second + "]";
            default: return "kind " + lisp.kind();
        }
    }

    private static boolean walk(SecdLisp lisp, String path) {
        if (!lisp.goRoot()) {
            return false;
        }
        for (char turn : path.toCharArray()) {
            same("step " + turn + " of " + path, turn == 'a' ? lisp.goCar() : lisp.goCdr(), true);
        }
        return true;
    }

    static void noResult(String when, SecdLisp lisp) {
        same(when + ": status", lisp.status(), SecdLisp.NO_RESULT);
        same(when + ": steps", lisp.steps(), 0);
        same(when + ": maxDepth", lisp.maxDepth(), 0);
        noValue(when, lisp);
    }

    static void noValue(String when, SecdLisp lisp) {
        same(when + ": kind", lisp.kind(), SecdLisp.KIND_NONE);
        same(when + ": intValue", lisp.intValue(), 0);
        same(when + ": closureArity", lisp.closureArity(), -1);
        same(when + ": closureSource", lisp.closureSource(), -1);
        same(when + ": goRoot", lisp.goRoot(), false);
        same(when + ": goCar", lisp.goCar(), false);
        same(when + ": goCdr", lisp.goCdr(), false);
    }
}
