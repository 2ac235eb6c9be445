/** Long runs of calls in any order, made by a fixed rule, each answer held against the model's. */
final class SequenceTest {
    private static final int OBJECTS = 3000;
    private static final int CALLS = 400;
    private static final String[] TEXTS = {
        "7", "nil", "a", "(cons 1 2)", "(quote (1 (2 nil) ()))", "(lambda (a b) a)", "(car 1)", "(div 1 0)",
        "(1)", "((lambda () 1) 2)", "((lambda (a) (cons a (lambda () a))) 3)", "(let ((a 1) (b nil)) (cons b a))",
        "(letrec ((f (lambda (n) (if n (cons n (f (sub n 1))) nil)))) (f 6))", States.LOOP, States.FULL,
        "(letrec ((f (lambda (n) (if n (let ((a (f (sub n 1)))) (f (sub n 1))) 0)))) (f 9))",
        "(cons 1", "(quote (1 2)", "1 2", ")", "(lambda (a a) 1)",
    };
    private static final int[] NUMBERS = {Integer.MIN_VALUE, -1, 0, 1, 2, 3, 20, 21, 64, 400, 401, Integer.MAX_VALUE};

    private static long seed = 1115;
    private static final int[] statuses = new int[11];

    public static void main(String[] args) {
        for (int object = 0; object < OBJECTS; object++) {
            int limit = below(3) == 0 ? NUMBERS[below(NUMBERS.length)] : 1 + below(34);
            SecdLisp lisp = new SecdLisp(limit);
            Model model = new Model(limit);
            for (int call = 0; call < CALLS; call++) {
                String what = "object " + object + " call " + call + " ";
                callBoth(what, lisp, model);
                look(what, lisp, model);
            }
        }
        // The calls must have led through every recorded status, or they would hold little.
        for (int status = SecdLisp.NO_RESULT; status <= SecdLisp.ERR_ARITY; status++) {
            boolean recorded = status <= SecdLisp.OK || status >= SecdLisp.ERR_FUEL;
            Check.same("status " + status + " was met", statuses[status + 1] > 100, recorded);
        }
        Check.end();
    }

    private static int below(int bound) {
        seed = seed * 6364136223846793005L + 1442695040888963407L;
        return (int) ((seed >>> 33) % bound);
    }

    private static void callBoth(String what, SecdLisp lisp, Model model) {
        switch (below(12)) {
            case 0:
                lisp.clear();
                model.clear();
                break;
            case 1:
                int kind = below(4) == 0 ? NUMBERS[below(NUMBERS.length)] : 1 + below(20);
                int value = NUMBERS[below(NUMBERS.length)];
                String token = what + "token(" + kind + ", " + value + ")";
                Check.same(token, lisp.token(kind, value), model.token(kind, value));
                break;
            case 2:
                hand(what, lisp, model);
                break;
            case 3:
                lisp.clear();
                model.clear();
                hand(what, lisp, model);
                Check.same(what + "compile", lisp.compile(), model.compile());
                break;
            case 4:
                Check.same(what + "compile", lisp.compile(), model.compile());
                break;
            case 5:
            case 6:
            case 7:
                int fuel = below(2) == 0 ? NUMBERS[below(NUMBERS.length)] : below(60);
                Check.same(what + "run(" + fuel + ")", lisp.run(fuel), model.run(fuel));
                break;
            case 8:
                Check.same(what + "goRoot", lisp.goRoot(), model.goRoot());
                break;
            case 9:
                Check.same(what + "goCar", lisp.goCar(), model.goCar());
                break;
            default:
                Check.same(what + "goCdr", lisp.goCdr(), model.goCdr());
                break;
        }
    }

    private static void hand(String what, SecdLisp lisp, Model model) {
        String text = TEXTS[below(TEXTS.length)];
        for (String word : Check.words(text)) {
            int kind = Check.kindOf(word);
            int value = Check.valueOf(kind, word);
            Check.same(what + "token " + word, lisp.token(kind, value), model.token(kind, value));
        }
    }

    private static void look(String what, SecdLisp lisp, Model model) {
        Check.same(what + "depthLimit", lisp.depthLimit(), model.depthLimit());
        Check.same(what + "tokenCount", lisp.tokenCount(), model.tokenCount());
        Check.same(what + "status", lisp.status(), model.status());
        Check.same(what + "steps", lisp.steps(), model.steps());
        Check.same(what + "maxDepth", lisp.maxDepth(), model.maxDepth());
        Check.same(what + "kind", lisp.kind(), model.kind());
        Check.same(what + "intValue", lisp.intValue(), model.intValue());
        Check.same(what + "closureArity", lisp.closureArity(), model.closureArity());
        Check.same(what + "closureSource", lisp.closureSource(), model.closureSource());
        statuses[model.status() + 1]++;
    }
}
