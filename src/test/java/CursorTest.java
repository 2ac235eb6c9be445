/** Promises 11 to 16, sentence by sentence: what is at the cursor, and how it moves. */
final class CursorTest {
    private static final String TREE = "(cons (cons 5 (quote ())) (cons (lambda (a b) a) (quote (0 -3))))";
    private static final String[] ERRORS = {
        "(car 1)", "(div 1 0)", "(1)", "((lambda () 1) 2)", "(letrec ((f (lambda () (f)))) (f))",
    };

    public static void main(String[] args) {
        noKindWithoutValue();
        kindOfEachValue();
        askingChangesNothing("Promise 11", "kind", SecdLisp::kind);
        intAtTheCursor();
        noIntElsewhere();
        askingChangesNothing("Promise 12", "intValue", SecdLisp::intValue);
        arityAtTheCursor();
        noArityElsewhere();
        askingChangesNothing("Promise 13", "closureArity", SecdLisp::closureArity);
        sourceAtTheCursor();
        sourceOfALam();
        noSourceElsewhere();
        askingChangesNothing("Promise 14", "closureSource", SecdLisp::closureSource);

        goRootWithoutValue();
        goRootFromAnywhere();
        valueNeverChanges();
        goCarElsewhere();
        goCarAtAPair();
        goCdrElsewhere();
        goCdrAtAPair();
        movesAlterNothingElse();
        nothingElseMoves();
        cursorGoesWithTheResult();
        longWalks();
        Check.end();
    }

    private static SecdLisp ran(String text) {
        return Check.ran(8, text);
    }

    private static SecdLisp failed(String text) {
        SecdLisp lisp = Check.compiled(2, text);
        Check.same("run of " + text + " fails", lisp.run(400) != SecdLisp.OK, true);
        return lisp;
    }

    private static void askingChangesNothing(String promise, String name, States.Calls call) {
        Check.sentence(promise, "It changes nothing.");
        States.unchangedBy(name, lisp -> {
            call.on(lisp);
            call.on(lisp);
        });
    }

    // ---- promise 11 ----

    private static void noKindWithoutValue() {
        Check.sentence("Promise 11", "kind() answers KIND_NONE if there is no value");
        for (int state = 0; state < States.COUNT; state++) {
            SecdLisp lisp = States.make(state);
            boolean none = lisp.kind() == SecdLisp.KIND_NONE;
            Check.same("no kind in the state '" + States.name(state) + "'", none,
                States.status(state) != SecdLisp.OK);
        }
        for (String text : ERRORS) {
            Check.same("kind after " + text, failed(text).kind(), SecdLisp.KIND_NONE);
        }
    }

    private static void kindOfEachValue() {
        Check.sentence("Promise 11",
            "otherwise the kind of the value at the cursor: KIND_INT, KIND_NIL, KIND_PAIR or KIND_CLOSURE.");
        String[] ints = {"0", "-1", "-2147483648", "(quote 4)", "(add 1 2)", "(null nil)", "(car (quote (1)))"};
        String[] nils = {"nil", "(quote nil)", "(quote ())", "(cdr (quote (1)))", "(car (quote (())))"};
        String[] pairs = {"(cons 1 2)", "(quote (1))", "(quote (()))", "(cdr (quote (1 2)))"};
        String[] closures = {"(lambda () 1)", "(letrec ((f (lambda (a) a))) f)", "((lambda () (lambda () 1)))"};
        String[][] texts = {ints, nils, pairs, closures};
        for (int i = 0; i < texts.length; i++) {
            for (String text : texts[i]) {
                Check.same("kind of " + text, ran(text).kind(), SecdLisp.KIND_INT + i);
                SecdLisp first = ran("(cons " + text + " 1)");
                first.goCar();
                Check.same("kind of " + text + " as a first part", first.kind(), SecdLisp.KIND_INT + i);
                SecdLisp second = ran("(cons nil " + text + ")");
                second.goCdr();
                Check.same("kind of " + text + " as a second part", second.kind(), SecdLisp.KIND_INT + i);
            }
        }
    }

    // ---- promise 12 ----

    private static void intAtTheCursor() {
        Check.sentence("Promise 12", "intValue() answers the int at the cursor if kind() = KIND_INT");
        for (int number : new int[] {Integer.MIN_VALUE, -1, 0, 1, 63, 64, 400, Integer.MAX_VALUE}) {
            Check.same("intValue", ran("" + number).intValue(), number);
            Check.same("intValue of a sum", ran("(add 0 " + number + ")").intValue(), number);
            SecdLisp lisp = ran("(cons (quote (" + number + ")) (sub " + number + " 1))");
            lisp.goCar();
            lisp.goCar();
            Check.same("intValue in a list", lisp.intValue(), number);
            lisp.goRoot();
            lisp.goCdr();
            Check.same("intValue in a pair", lisp.intValue(), number - 1);
        }
    }

    private static void noIntElsewhere() {
        Check.sentence("Promise 12", "otherwise 0");
        String[] texts = {
            "nil", "(quote ())", "(cons 5 6)", "(quote (5 6))", "(lambda (a) 5)", "((lambda (a) (lambda () a)) 7)",
        };
        for (String text : texts) {
            Check.same("intValue of " + text, ran(text).intValue(), 0);
        }
        for (String text : ERRORS) {
            Check.same("intValue after " + text, failed(text).intValue(), 0);
        }
        Check.same("intValue without a run", Check.compiled(3, "5").intValue(), 0);
    }

    // ---- promise 13 ----

    private static void arityAtTheCursor() {
        Check.sentence("Promise 13", "closureArity() answers the parameter count (0..4) of the closure at the"
            + " cursor if kind() = KIND_CLOSURE");
        String[] lists = {"()", "(a)", "(a b)", "(a b c)", "(a b c d)"};
        for (int count = 0; count <= 4; count++) {
            String lambda = "(lambda " + lists[count] + " 1)";
            Check.same("closureArity of " + lambda, ran(lambda).closureArity(), count);
            Check.same("closureArity of a lam", ran("(letrec ((f " + lambda + ")) f)").closureArity(), count);
            SecdLisp lisp = ran("(cons 1 " + lambda + ")");
            lisp.goCdr();
            Check.same("closureArity in a pair", lisp.closureArity(), count);
        }
    }

    private static void noArityElsewhere() {
        Check.sentence("Promise 13", "otherwise -1");
        for (String text : new String[] {"0", "4", "nil", "(cons (lambda () 1) 2)", "(quote (1))"}) {
            Check.same("closureArity of " + text, ran(text).closureArity(), -1);
        }
        for (String text : ERRORS) {
            Check.same("closureArity after " + text, failed(text).closureArity(), -1);
        }
        Check.same("closureArity without a run", Check.compiled(3, "(lambda () 1)").closureArity(), -1);
    }

    // ---- promise 14 ----

    private static void sourceAtTheCursor() {
        Check.sentence("Promise 14", "closureSource() answers, if kind() = KIND_CLOSURE, the index (0-based, in the"
            + " token list) of the '(' that opens the lambda form of that closure");
        Check.same("the program", ran("(lambda () 1)").closureSource(), 0);
        Check.same("an inner lambda", Check.show(ran("((lambda (a) (lambda (b c d) a)) 1)")), "fn3@6");
        Check.same("a lambda in a let", Check.show(ran("(let ((a 1) (f (lambda () 2))) f)")), "fn0@9");
        Check.same("two closures of one form",
            Check.show(ran("(let ((f (lambda (a) (lambda () a)))) (cons (f 1) (f 2)))")), "[fn0@10 . fn0@10]");
        Check.same("two like forms", Check.show(ran("(cons (lambda () 1) (lambda () 1))")), "[fn0@2 . fn0@8]");
        Check.same("an argument", Check.show(ran("((lambda (f) f) (lambda (a) a))")), "fn1@8");
        // Up to the greatest index that a lambda can begin at.
        for (int numbers = 0; numbers <= 45; numbers++) {
            String text = "(let ((a (quote (" + "1 ".repeat(numbers) + ")))) (lambda () 1))";
            Check.same("closureSource in " + text, ran(text).closureSource(), 12 + numbers);
        }
    }

    private static void sourceOfALam() {
        Check.sentence("Promise 14", "(for a LETREC lam, the '(' that opens that lam)");
        String lams = "(letrec ((a (lambda () 1)) (b (lambda (x) 1)) (c (lambda (x y) 1)) (d (lambda (x y z) 1))) ";
        int[] due = {5, 14, 24, 35};
        for (int i = 0; i < due.length; i++) {
            SecdLisp lisp = ran(lams + (char) ('a' + i) + ")");
            Check.same("closureSource of lam " + i, lisp.closureSource(), due[i]);
            Check.same("closureArity of lam " + i, lisp.closureArity(), i);
        }
        Check.same("a lam answered by itself", ran("(letrec ((f (lambda () f))) (f))").closureSource(), 5);
    }

    private static void noSourceElsewhere() {
        Check.sentence("Promise 14", "otherwise -1");
        for (String text : new String[] {"0", "7", "nil", "(cons (lambda () 1) 2)", "(quote (1))"}) {
            Check.same("closureSource of " + text, ran(text).closureSource(), -1);
        }
        for (String text : ERRORS) {
            Check.same("closureSource after " + text, failed(text).closureSource(), -1);
        }
        Check.same("closureSource without a run", Check.compiled(3, "(lambda () 1)").closureSource(), -1);
    }

    // ---- promise 15 ----

    private static void goRootWithoutValue() {
        Check.sentence("Promise 15", "goRoot() with no value answers false and changes nothing.");
        for (int state = 0; state < States.COUNT; state++) {
            if (States.status(state) != SecdLisp.OK) {
                Check.same("goRoot in the state '" + States.name(state) + "'", States.make(state).goRoot(), false);
                States.unchangedBy("goRoot without value", state, SecdLisp::goRoot);
            }
        }
    }

    private static void goRootFromAnywhere() {
        Check.sentence("Promise 15", "Otherwise the cursor goes to the root of the value and the answer is true.");
        for (String text : new String[] {"0", "nil", "(lambda () 1)", "(cons 1 2)"}) {
            SecdLisp lisp = ran(text);
            String root = States.now(lisp);
            Check.same("goRoot at the root of " + text, lisp.goRoot(), true);
            Check.same("still at the root of " + text, States.now(lisp), root);
        }
        String[] paths = {"", "a", "d", "aa", "ad", "da", "dd", "dda", "ddd", "ddda", "dddd"};
        for (String path : paths) {
            SecdLisp lisp = ran(TREE);
            walk(lisp, path);
            Check.same("goRoot from " + path, lisp.goRoot(), true);
            States.alike("at the root from " + path, () -> {
                SecdLisp walked = walked(path);
                walked.goRoot();
                return walked;
            }, () -> ran(TREE));
        }
    }

    private static void walk(SecdLisp lisp, String path) {
        for (char turn : path.toCharArray()) {
            Check.same("turn " + turn + " of " + path, turn == 'a' ? lisp.goCar() : lisp.goCdr(), true);
        }
    }

    private static SecdLisp walked(String path) {
        SecdLisp lisp = ran(TREE);
        walk(lisp, path);
        return lisp;
    }

    private static void valueNeverChanges() {
        Check.sentence("Promise 15", "The value itself never changes.");
        SecdLisp lisp = ran(TREE);
        for (int turn = 0; turn < 5; turn++) {
            Check.same("whole value", Check.show(lisp), "[[5 . nil] . [fn2@13 . [0 . [-3 . nil]]]]");
            lisp.goRoot();
            lisp.goCar();
            lisp.goCar();
            lisp.goCar();
            lisp.token(0, 0);
        }
    }

    // ---- promise 16 ----

    private interface Move {
        boolean on(SecdLisp lisp);
    }

    /** Holds that a move is refused, and changes nothing, at leaves and where there is no value. */
    private static void refused(String name, Move move) {
        for (int state = 0; state < States.COUNT; state++) {
            if (States.make(state).kind() != SecdLisp.KIND_PAIR) {
                Check.same(name + " in the state '" + States.name(state) + "'", move.on(States.make(state)), false);
                States.unchangedBy(name, state, move::on);
            }
        }
        for (String leaf : new String[] {"6", "0", "nil", "(quote ())", "(lambda (a) a)"}) {
            String[] texts = {leaf, "(cons 1 " + leaf + ")", "(cons 1 (cons 2 " + leaf + "))"};
            for (int pairs = 0; pairs < texts.length; pairs++) {
                String path = "d".repeat(pairs);
                String text = texts[pairs];
                States.Maker atEnd = () -> {
                    SecdLisp lisp = ran(text);
                    walk(lisp, path);
                    return lisp;
                };
                Check.same(name + " at the end of " + text, move.on(atEnd.make()), false);
                States.unchangedBy(name + " at the end of " + text, atEnd, move::on);
            }
        }
    }

    private static void goCarElsewhere() {
        Check.sentence("Promise 16", "goCar(): if kind() is not KIND_PAIR, answers false and changes nothing.");
        refused("goCar", SecdLisp::goCar);
    }

    private static void goCarAtAPair() {
        Check.sentence("Promise 16",
            "Otherwise the cursor goes to the first part of that pair and the answer is true.");
        SecdLisp lisp = ran("(cons (cons (quote (1 2)) 3) 4)");
        Check.same("goCar", lisp.goCar(), true);
        Check.same("kind", lisp.kind(), SecdLisp.KIND_PAIR);
        Check.same("goCar", lisp.goCar(), true);
        Check.same("kind", lisp.kind(), SecdLisp.KIND_PAIR);
        Check.same("goCar in a quoted list", lisp.goCar(), true);
        Check.same("intValue", lisp.intValue(), 1);
    }

    private static void goCdrElsewhere() {
        Check.sentence("Promise 16", "goCdr(): if kind() is not KIND_PAIR, answers false and changes nothing.");
        refused("goCdr", SecdLisp::goCdr);
    }

    private static void goCdrAtAPair() {
        Check.sentence("Promise 16",
            "Otherwise the cursor goes to the second part of that pair and the answer is true.");
        SecdLisp lisp = ran("(cons 4 (cons 3 (quote (1 2))))");
        Check.same("goCdr", lisp.goCdr(), true);
        Check.same("goCdr", lisp.goCdr(), true);
        Check.same("goCdr in a quoted list", lisp.goCdr(), true);
        Check.same("kind", lisp.kind(), SecdLisp.KIND_PAIR);
        Check.same("goCar in a quoted list", lisp.goCar(), true);
        Check.same("intValue", lisp.intValue(), 2);
        lisp.goRoot();
        walk(lisp, "dddd");
        Check.same("kind at the end", lisp.kind(), SecdLisp.KIND_NIL);
    }

    private static void movesAlterNothingElse() {
        Check.sentence("Promise 16", "Neither alters the value, the status, steps or maxDepth.");
        SecdLisp lisp = ran("((lambda (a) (cons a (cons a a))) 1)");
        for (int turn = 0; turn < 3; turn++) {
            lisp.goRoot();
            String[] moves = {"d", "d", "d", "a"};
            for (String move : moves) {
                boolean moved = move.equals("a") ? lisp.goCar() : lisp.goCdr();
                Check.same("status after " + move + moved, lisp.status(), SecdLisp.OK);
                Check.same("steps after " + move, lisp.steps(), 8);
                Check.same("maxDepth after " + move, lisp.maxDepth(), 1);
                Check.same("tokenCount after " + move, lisp.tokenCount(), 18);
            }
            Check.same("value", Check.show(lisp), "[1 . [1 . 1]]");
        }
        for (String text : ERRORS) {
            SecdLisp error = failed(text);
            String due = States.now(error);
            error.goCar();
            error.goCdr();
            Check.same("moves after " + text, States.now(error), due);
        }
    }

    private static void nothingElseMoves() {
        Check.sentence("Promise 16", "The cursor moves only through goRoot, goCar, goCdr and a run");
        String[] paths = {"", "a", "d", "aa", "ad", "da", "dd", "ddda", "dddd"};
        for (String path : paths) {
            States.unchangedBy("at " + path, () -> walked(path), lisp -> {
                lisp.token(0, 1);
                lisp.token(21, 1);
                States.now(lisp);
            });
            States.alike("a run from " + path, () -> {
                SecdLisp lisp = walked(path);
                lisp.run(400);
                return lisp;
            }, () -> ran(TREE));
        }
    }

    private static void cursorGoesWithTheResult() {
        Check.sentence("Promise 16", "it disappears with the value whenever the run result is cleared.");
        for (String path : new String[] {"", "a", "d", "aa"}) {
            SecdLisp lisp = ran(TREE);
            walk(lisp, path);
            lisp.compile();
            Check.noResult("compile at " + path, lisp);
            lisp.run(400);
            walk(lisp, path);
            lisp.token(SecdLisp.TOK_NIL, 0);
            Check.noResult("token at " + path, lisp);
            lisp = ran(TREE);
            walk(lisp, path);
            lisp.clear();
            Check.noResult("clear at " + path, lisp);
            lisp = ran(TREE);
            walk(lisp, path);
            Check.same("run in want of fuel", lisp.run(1), SecdLisp.ERR_FUEL);
            Check.noValue("want of fuel at " + path, lisp);
        }
    }

    /** The longest and deepest values that a program can make are walked to their ends. */
    private static void longWalks() {
        Check.sentence("Promise 16",
            "Otherwise the cursor goes to the second part of that pair and the answer is true.");
        SecdLisp list = ran(States.FULL);
        int length = 0;
        while (list.goCdr()) {
            length++;
        }
        Check.same("length of the longest quoted list", length, 59);
        Check.same("kind at its end", list.kind(), SecdLisp.KIND_NIL);
        SecdLisp nested = ran("(quote " + "(".repeat(30) + ")".repeat(30) + ")");
        int depth = 0;
        while (nested.goCar()) {
            depth++;
        }
        Check.same("depth of the deepest datum", depth, 29);
        // Each level doubles the tree, so it has far more ends than there were steps.
        SecdLisp doubled = Check.ran(32,
            "(letrec ((f (lambda (n) (if n (let ((a (f (sub n 1)))) (cons a a)) (cons 1 2))))) (f 20))");
        for (int path : new int[] {0, 1, 0x155555, 0xaaaaa, 0xfffff, 0x100000, 0x1fffff}) {
            doubled.goRoot();
            for (int bit = 0; bit <= 20; bit++) {
                Check.same("turn " + bit, (path >> bit & 1) == 0 ? doubled.goCar() : doubled.goCdr(), true);
            }
            Check.same("end of path " + path, doubled.intValue(), path >> 20 == 0 ? 1 : 2);
            Check.same("no further", doubled.goCar() || doubled.goCdr(), false);
        }
        SecdLisp chain = Check.ran(32, "(letrec ((f (lambda (n) (if n (cons n (f (sub n 1))) n)))) (f 31))");
        for (int n = 31; n > 0; n--) {
            Check.same("goCar", chain.goCar(), true);
            Check.same("element", chain.intValue(), n);
            chain.goRoot();
            for (int i = n; i <= 31; i++) {
                Check.same("goCdr", chain.goCdr(), true);
            }
        }
        Check.same("end of the chain", chain.intValue() == 0 && chain.kind() == SecdLisp.KIND_INT, true);
    }
}
