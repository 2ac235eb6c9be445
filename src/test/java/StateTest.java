/** Promises 1 to 5: construction, depthLimit, clear, token, tokenCount. */
final class StateTest {
    private static final String LOOP = "(letrec ((f (lambda () (f)))) (f))";

    public static void main(String[] args) {
        construction();
        depthLimitStays();
        clearing();
        refusedTokens();
        fullList();
        acceptedTokens();
        keptValues();
        Check.end();
    }

    private static void construction() {
        int[] given = {Integer.MIN_VALUE, -1, 0, 1, 2, 31, 32, 33, 1000, Integer.MAX_VALUE};
        int[] due = {1, 1, 1, 1, 2, 31, 32, 32, 32, 32};
        for (int i = 0; i < given.length; i++) {
            SecdLisp lisp = new SecdLisp(given[i]);
            String when = "new SecdLisp(" + given[i] + ")";
            Check.same(when + ": depthLimit", lisp.depthLimit(), due[i]);
            Check.same(when + ": tokenCount", lisp.tokenCount(), 0);
            Check.noResult(when, lisp);
            Check.same(when + ": run", lisp.run(10), SecdLisp.ERR_NOPROG);
            Check.noResult(when + " and run", lisp);
        }
    }

    private static void depthLimitStays() {
        for (int limit = 1; limit <= SecdLisp.MAX_DEPTH; limit++) {
            SecdLisp lisp = Check.compiled(limit, LOOP);
            Check.same("depth run", lisp.run(400), SecdLisp.ERR_DEPTH);
            Check.same("maxDepth", lisp.maxDepth(), limit);
            Check.same("depthLimit after run", lisp.depthLimit(), limit);
            Check.same("maxDepth after depthLimit", lisp.maxDepth(), limit);
            lisp.token(0, 0);
            lisp.clear();
            Check.same("depthLimit after clear", lisp.depthLimit(), limit);
            lisp.compile();
            Check.same("depthLimit after a refused compile", lisp.depthLimit(), limit);
        }
    }

    private static void clearing() {
        SecdLisp lisp = new SecdLisp(5);
        lisp.clear();
        Check.same("tokenCount after clear of new", lisp.tokenCount(), 0);
        Check.noResult("clear of new", lisp);
        Check.hand(lisp, "(cons 1 2)");
        Check.same("compile", lisp.compile(), SecdLisp.OK);
        Check.same("run", lisp.run(400), SecdLisp.OK);
        lisp.clear();
        Check.same("tokenCount after clear", lisp.tokenCount(), 0);
        Check.noResult("clear after run", lisp);
        Check.same("run after clear", lisp.run(400), SecdLisp.ERR_NOPROG);
        Check.same("compile after clear", lisp.compile(), SecdLisp.ERR_SYNTAX);
        Check.hand(lisp, "7");
        Check.same("compile anew", lisp.compile(), SecdLisp.OK);
        Check.same("run anew", lisp.run(400), SecdLisp.OK);
        Check.same("value anew", Check.show(lisp), "7");
    }

    private static void refusedTokens() {
        int[] kinds = {0, -1, 21, 22, 100, Integer.MIN_VALUE, Integer.MAX_VALUE};
        SecdLisp lisp = Check.compiled(5, "((lambda (x) (cons x 4)) 3)");
        Check.same("run", lisp.run(400), SecdLisp.OK);
        Check.same("goCdr", lisp.goCdr(), true);
        int held = lisp.tokenCount();
        for (int kind : kinds) {
            Check.same("token of kind " + kind, lisp.token(kind, 1), false);
            Check.same("tokenCount", lisp.tokenCount(), held);
            Check.same("status", lisp.status(), SecdLisp.OK);
            Check.same("steps", lisp.steps(), 6);
            Check.same("maxDepth", lisp.maxDepth(), 1);
            Check.same("cursor", lisp.intValue(), 4);
        }
        Check.same("run after refusals", lisp.run(400), SecdLisp.OK);
    }

    private static void fullList() {
        SecdLisp lisp = new SecdLisp(5);
        Check.hand(lisp, "(quote (");
        for (int i = 0; i < 60; i++) {
            Check.same("tokenCount", lisp.tokenCount(), 3 + i);
            if (i < 59) {
                Check.same("token " + i, lisp.token(SecdLisp.TOK_NUM, i), true);
            }
        }
        Check.hand(lisp, "))");
        Check.same("tokenCount when full", lisp.tokenCount(), 64);
        Check.same("compile when full", lisp.compile(), SecdLisp.OK);
        Check.same("run when full", lisp.run(400), SecdLisp.OK);
        Check.same("goCdr", lisp.goCdr(), true);
        for (int kind = 0; kind <= 21; kind++) {
            Check.same("token too many", lisp.token(kind, 9), false);
        }
        Check.same("tokenCount stays", lisp.tokenCount(), 64);
        Check.same("status stays", lisp.status(), SecdLisp.OK);
        Check.same("cursor stays", lisp.goCar() ? lisp.intValue() : -1, 1);
        Check.same("program stays", lisp.run(400), SecdLisp.OK);
        for (int i = 0; i < 59; i++) {
            lisp.goRoot();
            for (int j = 0; j < i; j++) {
                Check.same("goCdr in full list", lisp.goCdr(), true);
            }
            Check.same("goCar in full list", lisp.goCar(), true);
            Check.same("element", lisp.intValue(), i);
        }
    }

    private static void acceptedTokens() {
        for (int kind = 1; kind <= 20; kind++) {
            SecdLisp lisp = Check.compiled(5, "(cons 1 2)");
            Check.same("run", lisp.run(400), SecdLisp.OK);
            int held = lisp.tokenCount();
            Check.same("token of kind " + kind, lisp.token(kind, 5), true);
            Check.same("tokenCount", lisp.tokenCount(), held + 1);
            Check.noResult("token of kind " + kind, lisp);
            Check.same("run after token", lisp.run(400), SecdLisp.ERR_NOPROG);
            Check.same("compile after token", lisp.compile(), SecdLisp.ERR_SYNTAX);
            Check.same("tokenCount after compile", lisp.tokenCount(), held + 1);
        }
    }

    private static void keptValues() {
        int[] numbers = {0, 1, -1, 99, Integer.MIN_VALUE, Integer.MAX_VALUE};
        for (int number : numbers) {
            SecdLisp lisp = Check.compiled(1, "" + number);
            Check.same("run", lisp.run(1), SecdLisp.OK);
            Check.same("number kept", lisp.intValue(), number);

            lisp.clear();
            Check.hand(lisp, "((lambda (");
            lisp.token(SecdLisp.TOK_SYM, number);
            Check.hand(lisp, ")");
            lisp.token(SecdLisp.TOK_SYM, number);
            Check.hand(lisp, ") 8)");
            Check.same("compile with name " + number, lisp.compile(), SecdLisp.OK);
            Check.same("run with name", lisp.run(400), SecdLisp.OK);
            Check.same("value of name", lisp.intValue(), 8);

            lisp.clear();
            Check.hand(lisp, "((lambda (");
            lisp.token(SecdLisp.TOK_SYM, number);
            Check.hand(lisp, ")");
            lisp.token(SecdLisp.TOK_SYM, number + 1);
            Check.hand(lisp, ") 8)");
            Check.same("compile with other name", lisp.compile(), SecdLisp.ERR_UNBOUND);
        }
        SecdLisp lisp = new SecdLisp(1);
        lisp.token(SecdLisp.TOK_LPAREN, 77);
        lisp.token(SecdLisp.TOK_NULL, -5);
        lisp.token(SecdLisp.TOK_NIL, 12);
        lisp.token(SecdLisp.TOK_RPAREN, Integer.MIN_VALUE);
        Check.same("compile with odd values", lisp.compile(), SecdLisp.OK);
        Check.same("run with odd values", lisp.run(400), SecdLisp.OK);
        Check.same("value with odd values", lisp.intValue(), 1);
        lisp.clear();
        lisp.token(SecdLisp.TOK_NIL, 12);
        lisp.compile();
        lisp.run(1);
        Check.same("intValue of nil", lisp.intValue(), 0);
    }
}
