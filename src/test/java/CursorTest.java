/** Promises 11 to 16: kind, intValue, closureArity, closureSource, goRoot, goCar and goCdr. */
final class CursorTest {
    private static final String TREE = "(cons (cons 5 (quote ())) (cons (lambda (a b) a) (quote (0 -3))))";

    public static void main(String[] args) {
        atKinds();
        moving();
        refusedMoves();
        sources();
        nothingElseChanges();
        goneWithTheResult();
        Check.end();
    }

    private static void at(SecdLisp lisp, int kind, int intValue, int arity, int source) {
        for (int i = 0; i < 2; i++) {
            Check.same("kind", lisp.kind(), kind);
            Check.same("intValue", lisp.intValue(), intValue);
            Check.same("closureArity", lisp.closureArity(), arity);
            Check.same("closureSource", lisp.closureSource(), source);
        }
    }

    private static SecdLisp ran(String text) {
        SecdLisp lisp = Check.compiled(8, text);
        Check.same("run of " + text, lisp.run(400), SecdLisp.OK);
        return lisp;
    }

    private static void atKinds() {
        at(ran("0"), SecdLisp.KIND_INT, 0, -1, -1);
        at(ran("-2147483648"), SecdLisp.KIND_INT, Integer.MIN_VALUE, -1, -1);
        at(ran("2147483647"), SecdLisp.KIND_INT, Integer.MAX_VALUE, -1, -1);
        at(ran("(add 20 22)"), SecdLisp.KIND_INT, 42, -1, -1);
        at(ran("nil"), SecdLisp.KIND_NIL, 0, -1, -1);
        at(ran("(quote ())"), SecdLisp.KIND_NIL, 0, -1, -1);
        at(ran("(cons 1 2)"), SecdLisp.KIND_PAIR, 0, -1, -1);
        at(ran("(quote (7))"), SecdLisp.KIND_PAIR, 0, -1, -1);
        at(ran("(lambda () 1)"), SecdLisp.KIND_CLOSURE, 0, 0, 0);
        at(ran("(lambda (a) 1)"), SecdLisp.KIND_CLOSURE, 0, 1, 0);
        at(ran("(lambda (a b) 1)"), SecdLisp.KIND_CLOSURE, 0, 2, 0);
        at(ran("(lambda (a b c) 1)"), SecdLisp.KIND_CLOSURE, 0, 3, 0);
        at(ran("(lambda (a b c d) 1)"), SecdLisp.KIND_CLOSURE, 0, 4, 0);
        SecdLisp failed = Check.compiled(8, "(car 1)");
        Check.same("run", failed.run(400), SecdLisp.ERR_TYPE);
        at(failed, SecdLisp.KIND_NONE, 0, -1, -1);
    }

    private static void moving() {
        SecdLisp lisp = ran(TREE);
        at(lisp, SecdLisp.KIND_PAIR, 0, -1, -1);
        Check.same("goCar", lisp.goCar(), true);
        at(lisp, SecdLisp.KIND_PAIR, 0, -1, -1);
        Check.same("goCar", lisp.goCar(), true);
        at(lisp, SecdLisp.KIND_INT, 5, -1, -1);
        Check.same("goRoot", lisp.goRoot(), true);
        at(lisp, SecdLisp.KIND_PAIR, 0, -1, -1);
        Check.same("goCar", lisp.goCar(), true);
        Check.same("goCdr", lisp.goCdr(), true);
        at(lisp, SecdLisp.KIND_NIL, 0, -1, -1);
        Check.same("goRoot", lisp.goRoot(), true);
        Check.same("goRoot at root", lisp.goRoot(), true);
        Check.same("goCdr", lisp.goCdr(), true);
        Check.same("goCar", lisp.goCar(), true);
        at(lisp, SecdLisp.KIND_CLOSURE, 0, 2, 13);
        lisp.goRoot();
        lisp.goCdr();
        lisp.goCdr();
        Check.same("goCar", lisp.goCar(), true);
        at(lisp, SecdLisp.KIND_INT, 0, -1, -1);
        lisp.goRoot();
        lisp.goCdr();
        lisp.goCdr();
        lisp.goCdr();
        Check.same("goCar", lisp.goCar(), true);
        at(lisp, SecdLisp.KIND_INT, -3, -1, -1);
        Check.same("whole", Check.show(lisp), "[[5 . nil] . [fn2@13 . [0 . [-3 . nil]]]]");
    }

    private static void refusedMoves() {
        String[] leaves = {"6", "nil", "(lambda (a) a)"};
        int[] kinds = {SecdLisp.KIND_INT, SecdLisp.KIND_NIL, SecdLisp.KIND_CLOSURE};
        for (int i = 0; i < leaves.length; i++) {
            SecdLisp lisp = ran("(cons 1 " + leaves[i] + ")");
            Check.same("goCdr", lisp.goCdr(), true);
            Check.same("goCar at leaf", lisp.goCar(), false);
            Check.same("kind stays", lisp.kind(), kinds[i]);
            Check.same("goCdr at leaf", lisp.goCdr(), false);
            Check.same("kind stays", lisp.kind(), kinds[i]);
            Check.same("goRoot from leaf", lisp.goRoot(), true);
            Check.same("kind of root", lisp.kind(), SecdLisp.KIND_PAIR);
        }
    }

    private static void sources() {
        Check.same("second lam", Check.show(ran("(letrec ((f (lambda () 1)) (g (lambda (a b) 2))) g)")), "fn2@14");
        Check.same("first lam", Check.show(ran("(letrec ((f (lambda () 1)) (g (lambda (a b) 2))) f)")), "fn0@5");
        Check.same("inner lambda", Check.show(ran("((lambda (a) (lambda (b c d) a)) 1)")), "fn3@6");
        Check.same("lambda in let", Check.show(ran("(let ((a 1) (f (lambda () 2))) f)")), "fn0@9");
        Check.same("two closures of one form",
            Check.show(ran("(let ((f (lambda (a) (lambda () a)))) (cons (f 1) (f 2)))")), "[fn0@10 . fn0@10]");
    }

    private static void nothingElseChanges() {
        SecdLisp lisp = ran("((lambda (a) (cons a a)) 1)");
        for (int i = 0; i < 3; i++) {
            lisp.goCar();
            lisp.goCdr();
            lisp.goRoot();
            Check.same("status", lisp.status(), SecdLisp.OK);
            Check.same("steps", lisp.steps(), 6);
            Check.same("maxDepth", lisp.maxDepth(), 1);
            Check.same("tokenCount", lisp.tokenCount(), 14);
            Check.same("value", Check.show(lisp), "[1 . 1]");
        }
        Check.same("run again", lisp.run(400), SecdLisp.OK);
    }

    private static void goneWithTheResult() {
        SecdLisp lisp = ran(TREE);
        lisp.goCdr();
        Check.same("run again", lisp.run(400), SecdLisp.OK);
        Check.same("cursor at root after run", lisp.goCar(), true);
        Check.same("cursor at root after run", lisp.goCar(), true);
        Check.same("cursor at root after run", lisp.intValue(), 5);
        Check.same("run in want of fuel", lisp.run(1), SecdLisp.ERR_FUEL);
        Check.noValue("want of fuel", lisp);
        Check.same("run again", lisp.run(400), SecdLisp.OK);
        lisp.goCar();
        lisp.compile();
        Check.noResult("compile", lisp);
        lisp.run(400);
        lisp.token(SecdLisp.TOK_NIL, 0);
        Check.noResult("token", lisp);
        lisp = ran(TREE);
        lisp.clear();
        Check.noResult("clear", lisp);
    }
}
