/**
 * Objects in every state that the document tells apart, each made anew by a run of calls, and a way
 * to tell whether two objects can be told apart by any call.
 */
final class States {
    /** Sixty-four tokens that are a program: a quoted list of fifty-nine numbers. */
    static final String FULL = "(quote (" + "1 2 3 4 5 6 ".repeat(9) + "7 8 9 10 11" + "))";
    static final String LOOP = "(letrec ((f (lambda () (f)))) (f))";

    private static final String[] NAMES = {
        "fresh", "cleared after a run", "an unfinished expr", "an unfinished expr, refused",
        "an unbound name, refused", "a program, not compiled", "a program", "a run, at the root",
        "a run, at the first part", "a run, at the second part", "a run with an int",
        "a run with nil", "a run with a closure", "ERR_FUEL", "ERR_DEPTH", "ERR_TYPE", "ERR_DIV",
        "ERR_APPLY", "ERR_ARITY", "full, not a program", "full, not a program, refused",
        "full, a program", "full, a run, cursor moved", "a token more than a program",
    };

    static final int COUNT = NAMES.length;

    private States() {}

    static String name(int state) {
        return NAMES[state];
    }

    /** Whether no program is present in a state. */
    static boolean noProgram(int state) {
        switch (NAMES[state]) {
            case "fresh":
            case "cleared after a run":
            case "an unfinished expr":
            case "an unfinished expr, refused":
            case "an unbound name, refused":
            case "a program, not compiled":
            case "full, not a program":
            case "full, not a program, refused":
            case "a token more than a program":
                return true;
            default:
                return false;
        }
    }

    /** Whether no token more can be held in a state. */
    static boolean full(int state) {
        return NAMES[state].startsWith("full");
    }

    /** The status that a state must have. */
    static int status(int state) {
        switch (NAMES[state]) {
            case "ERR_FUEL":
                return SecdLisp.ERR_FUEL;
            case "ERR_DEPTH":
                return SecdLisp.ERR_DEPTH;
            case "ERR_TYPE":
                return SecdLisp.ERR_TYPE;
            case "ERR_DIV":
                return SecdLisp.ERR_DIV;
            case "ERR_APPLY":
                return SecdLisp.ERR_APPLY;
            case "ERR_ARITY":
                return SecdLisp.ERR_ARITY;
            default:
                return NAMES[state].contains("a run,") || NAMES[state].startsWith("a run with")
                    ? SecdLisp.OK : SecdLisp.NO_RESULT;
        }
    }

    static SecdLisp make(int state) {
        return make(state, 3);
    }

    static SecdLisp make(int state, int limit) {
        SecdLisp lisp = new SecdLisp(limit);
        switch (NAMES[state]) {
            case "fresh":
                break;
            case "cleared after a run":
                run(lisp, "((lambda (a) (cons a 2)) 1)", 400);
                lisp.clear();
                break;
            case "an unfinished expr":
                Check.hand(lisp, "(cons 1");
                break;
            case "an unfinished expr, refused":
                compile(lisp, "(cons 1");
                break;
            case "an unbound name, refused":
                compile(lisp, "(add a 1)");
                break;
            case "a program, not compiled":
                Check.hand(lisp, "(cons 1 2)");
                break;
            case "a program":
                compile(lisp, "(cons 1 2)");
                break;
            case "a run, at the root":
                run(lisp, "((lambda (a) (cons a 2)) 1)", 400);
                break;
            case "a run, at the first part":
                run(lisp, "((lambda (a) (cons (cons 3 a) 2)) 1)", 400);
                lisp.goCar();
                break;
            case "a run, at the second part":
                run(lisp, "(cons 1 (quote (2 3)))", 400);
                lisp.goCdr();
                break;
            case "full, not a program":
                Check.hand(lisp, "1 ".repeat(SecdLisp.MAX_TOKENS));
                break;
            case "full, not a program, refused":
                compile(lisp, "1 ".repeat(SecdLisp.MAX_TOKENS));
                break;
            case "full, a program":
                compile(lisp, FULL);
                break;
            case "full, a run, cursor moved":
                run(lisp, FULL, 400);
                lisp.goCdr();
                break;
            case "a token more than a program":
                run(lisp, "((lambda (a) (cons a 2)) 1)", 400);
                lisp.token(SecdLisp.TOK_NIL, 0);
                break;
            default:
                makeEnded(lisp, NAMES[state]);
                break;
        }
        return lisp;
    }

    private static void makeEnded(SecdLisp lisp, String name) {
        switch (name) {
            case "a run with an int":
                run(lisp, "(add 20 22)", 400);
                break;
            case "a run with nil":
                run(lisp, "(cdr (quote (5)))", 400);
                break;
            case "a run with a closure":
                run(lisp, "((lambda (a) (lambda (b c) a)) 1)", 400);
                break;
            case "ERR_FUEL":
                run(lisp, "((lambda (a) (cons a 2)) 1)", 5);
                break;
            case "ERR_DEPTH":
                run(lisp, LOOP, 400);
                break;
            case "ERR_TYPE":
                run(lisp, "((lambda (a) (car a)) 1)", 400);
                break;
            case "ERR_DIV":
                run(lisp, "((lambda (a) (div a 0)) 1)", 400);
                break;
            case "ERR_APPLY":
                run(lisp, "((lambda (a) (a)) 1)", 400);
                break;
            case "ERR_ARITY":
                run(lisp, "((lambda (a) (a)) (lambda (b) 1))", 400);
                break;
            default:
                throw new IllegalStateException(name);
        }
    }

    private static void compile(SecdLisp lisp, String text) {
        Check.hand(lisp, text);
        lisp.compile();
    }

    private static void run(SecdLisp lisp, String text, int fuel) {
        compile(lisp, text);
        lisp.run(fuel);
    }

    /** What can be seen of an object without changing it. */
    static String now(SecdLisp lisp) {
        return "limit " + lisp.depthLimit() + " tokens " + lisp.tokenCount() + result(lisp);
    }

    private static String result(SecdLisp lisp) {
        return " status " + lisp.status() + " steps " + lisp.steps() + " depth " + lisp.maxDepth()
            + " kind " + lisp.kind() + " int " + lisp.intValue() + " arity " + lisp.closureArity()
            + " source " + lisp.closureSource();
    }

    /** What can be seen of an object now and in the calls that follow; it is used up by that. */
    static String future(SecdLisp lisp) {
        StringBuilder seen = new StringBuilder(now(lisp));
        seen.append("; goCdr ").append(lisp.goCdr()).append(result(lisp));
        seen.append("; goCar ").append(lisp.goCar()).append(result(lisp));
        seen.append("; goRoot ").append(lisp.goRoot()).append(result(lisp));
        seen.append("; whole ").append(Check.show(lisp));
        seen.append("; run ").append(lisp.run(400)).append(now(lisp)).append(Check.show(lisp));
        seen.append("; run short ").append(lisp.run(2)).append(now(lisp));
        seen.append("; compile ").append(lisp.compile()).append(now(lisp));
        seen.append("; run ").append(lisp.run(400)).append(now(lisp)).append(Check.show(lisp));
        // An unfinished expr becomes a program by these, and so tells which tokens are held.
        seen.append("; token ").append(lisp.token(SecdLisp.TOK_NUM, 2)).append(now(lisp));
        seen.append("; token ").append(lisp.token(SecdLisp.TOK_RPAREN, 0)).append(now(lisp));
        seen.append("; compile ").append(lisp.compile()).append(now(lisp));
        seen.append("; run ").append(lisp.run(400)).append(now(lisp)).append(Check.show(lisp));
        lisp.clear();
        Check.hand(lisp, LOOP);
        seen.append("; loop ").append(lisp.compile()).append(lisp.run(400)).append(now(lisp));
        return seen.toString();
    }

    /** Makes the same object anew each time. */
    interface Maker {
        SecdLisp make();
    }

    /** What one call, or a few, tell of an object. */
    private interface Look {
        String at(SecdLisp lisp);
    }

    private static final Look[] LOOKS = {
        lisp -> "depthLimit " + lisp.depthLimit(),
        lisp -> "tokenCount " + lisp.tokenCount(),
        lisp -> "status " + lisp.status(),
        lisp -> "steps " + lisp.steps(),
        lisp -> "maxDepth " + lisp.maxDepth(),
        lisp -> "kind " + lisp.kind(),
        lisp -> "intValue " + lisp.intValue(),
        lisp -> "closureArity " + lisp.closureArity(),
        lisp -> "closureSource " + lisp.closureSource(),
        lisp -> "goRoot " + lisp.goRoot() + " kind " + lisp.kind(),
        lisp -> "goCar " + lisp.goCar() + " kind " + lisp.kind() + " int " + lisp.intValue(),
        lisp -> "goCdr " + lisp.goCdr() + " kind " + lisp.kind() + " int " + lisp.intValue(),
        lisp -> "run " + lisp.run(400) + " value " + Check.show(lisp),
        lisp -> "compile " + lisp.compile() + " run " + lisp.run(400),
        lisp -> "token " + lisp.token(SecdLisp.TOK_NUM, 2) + " tokenCount " + lisp.tokenCount(),
        States::future,
    };

    /**
     * Holds that two objects cannot be told apart. Each look is at objects made anew, so that a call
     * that wrongly changes something cannot hide it from the looks after it.
     */
    static void alike(String what, Maker one, Maker other) {
        for (Look look : LOOKS) {
            Check.same(what, look.at(one.make()), look.at(other.make()));
        }
    }

    /** Calls that a test makes on an object. */
    interface Calls {
        void on(SecdLisp lisp);
    }

    private static Maker after(Maker maker, Calls calls) {
        return () -> {
            SecdLisp lisp = maker.make();
            calls.on(lisp);
            return lisp;
        };
    }

    /** Holds that calls change nothing in an object. */
    static void unchangedBy(String what, Maker maker, Calls calls) {
        alike(what, after(maker, calls), maker);
    }

    /** Holds that calls change nothing in a state. */
    static void unchangedBy(String what, int state, Calls calls) {
        unchangedBy(what + " in the state '" + name(state) + "'", () -> make(state), calls);
    }

    /** Holds that calls change nothing, whatever the state. */
    static void unchangedBy(String what, Calls calls) {
        for (int state = 0; state < COUNT; state++) {
            unchangedBy(what, state, calls);
        }
    }
}
