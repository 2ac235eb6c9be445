/** Promises 1 to 5, sentence by sentence: construction, depthLimit, clear, token, tokenCount. */
final class StateTest {
    private static final int MIN = Integer.MIN_VALUE;
    private static final int MAX = Integer.MAX_VALUE;
    private static final int[] ODD_NUMBERS = {MIN, MIN + 1, -65536, -1, 0, 1, 21, 400, 65536, MAX - 1, MAX};

    public static void main(String[] args) {
        anyLimitIsAccepted();
        smallLimitsBecomeOne();
        greatLimitsBecomeThirtyTwo();
        limitsBetweenAreKept();
        freshObjectHoldsNothing();
        noRunResultAnswers();

        limitIsClamped();
        limitNeverChanges();
        askingTheLimitChangesNothing();

        clearEmptiesInAnyState();
        clearKeepsTheLimit();
        clearedListFillsAnew();

        strangeKindOnAFullList();
        strangeKindsAreRefused();
        kindsInRangeAreAccepted();
        fullListRefuses();
        refusedKindChangesNothing();
        refusedWhenFullChangesNothing();
        tokenGoesToTheEnd();
        numbersKeepAnyInt();
        namesKeepAnyInt();
        otherValuesAreNothing();
        tokenTakesTheProgramAway();
        tokenTakesTheResultAway();
        anyTokensAreHeld();

        countGoesFromNoneToFull();
        countingChangesNothing();
        Check.end();
    }

    // ---- promise 1 ----

    private static void limitIs(int given, int due) {
        Check.same("depthLimit of new SecdLisp(" + given + ")", new SecdLisp(given).depthLimit(), due);
        // The limit answered must be the one that runs keep to.
        SecdLisp lisp = Check.compiled(given, States.LOOP);
        Check.same("run under " + given, lisp.run(400), SecdLisp.ERR_DEPTH);
        Check.same("maxDepth under " + given, lisp.maxDepth(), due);
    }

    private static void anyLimitIsAccepted() {
        Check.sentence("Promise 1", "SecdLisp(depthLimit) accepts any int.");
        for (int given : ODD_NUMBERS) {
            SecdLisp lisp = new SecdLisp(given);
            Check.hand(lisp, "7");
            Check.same("compile under " + given, lisp.compile(), SecdLisp.OK);
            Check.same("run under " + given, lisp.run(1), SecdLisp.OK);
            Check.same("value under " + given, lisp.intValue(), 7);
        }
    }

    private static void smallLimitsBecomeOne() {
        Check.sentence("Promise 1", "values below 1 become 1");
        for (int given : new int[] {MIN, MIN + 1, -1000, -33, -32, -2, -1, 0}) {
            limitIs(given, 1);
        }
    }

    private static void greatLimitsBecomeThirtyTwo() {
        Check.sentence("Promise 1", "values above 32 become 32");
        for (int given : new int[] {33, 34, 64, 400, 65536 + 1, MAX - 1, MAX}) {
            limitIs(given, 32);
        }
    }

    private static void limitsBetweenAreKept() {
        Check.sentence("Promise 1", "values in 1..32 are kept");
        for (int given = 1; given <= 32; given++) {
            limitIs(given, given);
        }
    }

    private static void freshObjectHoldsNothing() {
        Check.sentence("Promise 1",
            "The fresh object holds no tokens (tokenCount() = 0), no program, and no run result.");
        SecdLisp lisp = new SecdLisp(5);
        Check.same("tokenCount", lisp.tokenCount(), 0);
        Check.same("run", lisp.run(400), SecdLisp.ERR_NOPROG);
        Check.noResult("fresh", lisp);
        Check.same("compile", new SecdLisp(5).compile(), SecdLisp.ERR_SYNTAX);
        Check.hand(lisp, "7");
        Check.same("compile of the only token", lisp.compile(), SecdLisp.OK);
    }

    private static void noRunResultAnswers() {
        Check.sentence("Promise 1", "NO RUN RESULT means: status() = NO_RESULT, steps() = 0, maxDepth() = 0,"
            + " and there is no value, so kind() = KIND_NONE, intValue() = 0, closureArity() = -1,"
            + " closureSource() = -1, and goRoot(), goCar() and goCdr() answer false.");
        for (int given : ODD_NUMBERS) {
            Check.noResult("new SecdLisp(" + given + ")", new SecdLisp(given));
        }
        // Each call first of all, so that none leans on another.
        Check.same("status", new SecdLisp(1).status(), -1);
        Check.same("steps", new SecdLisp(1).steps(), 0);
        Check.same("maxDepth", new SecdLisp(1).maxDepth(), 0);
        Check.same("kind", new SecdLisp(1).kind(), 0);
        Check.same("intValue", new SecdLisp(1).intValue(), 0);
        Check.same("closureArity", new SecdLisp(1).closureArity(), -1);
        Check.same("closureSource", new SecdLisp(1).closureSource(), -1);
        Check.same("goRoot", new SecdLisp(1).goRoot(), false);
        Check.same("goCar", new SecdLisp(1).goCar(), false);
        Check.same("goCdr", new SecdLisp(1).goCdr(), false);
    }

    // ---- promise 2 ----

    private static void limitIsClamped() {
        Check.sentence("Promise 2",
            "depthLimit() answers the clamped limit fixed at construction, always in 1..32.");
        int[] given = {MIN, -1, 0, 1, 2, 31, 32, 33, MAX};
        int[] due = {1, 1, 1, 1, 2, 31, 32, 32, 32};
        for (int i = 0; i < given.length; i++) {
            for (int state = 0; state < States.COUNT; state++) {
                SecdLisp lisp = States.make(state, given[i]);
                Check.same("depthLimit for " + given[i] + " in the state '" + States.name(state) + "'",
                    lisp.depthLimit(), due[i]);
            }
        }
    }

    private static void limitNeverChanges() {
        Check.sentence("Promise 2", "It never changes, whatever else is called");
        for (int state = 0; state < States.COUNT; state++) {
            SecdLisp lisp = States.make(state, 7);
            States.future(lisp);
            lisp.token(0, 31);
            lisp.run(31);
            Check.same("depthLimit after all calls", lisp.depthLimit(), 7);
            lisp.clear();
            Check.same("depthLimit after clear", lisp.depthLimit(), 7);
        }
        SecdLisp first = new SecdLisp(7);
        SecdLisp second = new SecdLisp(9);
        Check.same("depthLimit of the first of two", first.depthLimit(), 7);
        Check.same("depthLimit of the second of two", second.depthLimit(), 9);
    }

    private static void askingTheLimitChangesNothing() {
        Check.sentence("Promise 2", "and the call changes nothing.");
        States.unchangedBy("depthLimit", lisp -> {
            lisp.depthLimit();
            lisp.depthLimit();
        });
    }

    // ---- promise 3 ----

    private static void clearEmptiesInAnyState() {
        Check.sentence("Promise 3", "clear() may be called in any state. Afterwards the token list is empty"
            + " (tokenCount() = 0), there is no program, and there is no run result.");
        for (int state = 0; state < States.COUNT; state++) {
            String when = "clear in the state '" + States.name(state) + "'";
            SecdLisp lisp = States.make(state);
            lisp.clear();
            Check.same(when + ": tokenCount", lisp.tokenCount(), 0);
            Check.noResult(when, lisp);
            Check.same(when + ": run", lisp.run(400), SecdLisp.ERR_NOPROG);
            Check.noResult(when + " and run", lisp);
            int given = state;
            States.alike(when, () -> cleared(given), () -> new SecdLisp(3));
            States.unchangedBy(when + " twice", () -> cleared(given), SecdLisp::clear);
        }
    }

    private static SecdLisp cleared(int state) {
        SecdLisp lisp = States.make(state);
        lisp.clear();
        return lisp;
    }

    private static void clearKeepsTheLimit() {
        Check.sentence("Promise 3", "The depth limit is unchanged.");
        for (int limit = 1; limit <= 32; limit++) {
            SecdLisp lisp = Check.holding(limit, States.LOOP);
            lisp.clear();
            Check.same("depthLimit after clear", lisp.depthLimit(), limit);
            Check.hand(lisp, States.LOOP);
            lisp.compile();
            lisp.run(400);
            Check.same("maxDepth after clear", lisp.maxDepth(), limit);
        }
    }

    private static void clearedListFillsAnew() {
        Check.sentence("Promise 3", "Afterwards the token list is empty (tokenCount() = 0)");
        SecdLisp lisp = Check.holding(3, States.FULL);
        for (int turn = 0; turn < 3; turn++) {
            Check.same("token 65", lisp.token(SecdLisp.TOK_NUM, 1), false);
            lisp.clear();
            for (int count = 0; count < 64; count++) {
                Check.same("tokenCount after clear", lisp.tokenCount(), count);
                Check.same("token after clear", lisp.token(SecdLisp.TOK_NUM, 1), true);
            }
        }
    }

    // ---- promise 4 ----

    private static void strangeKindOnAFullList() {
        Check.sentence("Promise 4", "token(kind, value) considers, in order");
        // Either ground alone refuses, and so do both together.
        for (int kind = -1; kind <= 22; kind++) {
            boolean strange = kind < 1 || kind > 20;
            Check.same("kind " + kind, new SecdLisp(3).token(kind, 1), !strange);
            Check.same("kind " + kind + " on a full list", Check.holding(3, States.FULL).token(kind, 1), false);
        }
    }

    private static void strangeKindsAreRefused() {
        Check.sentence("Promise 4", "kind not in 1..20: answers false.");
        int[] kinds = {MIN, MIN + 1, -65535, -256 + 1, -20, -1, 0, 21, 22, 64, 256 + 1, 65536 + 1, MAX - 1, MAX};
        for (int state = 0; state < States.COUNT; state++) {
            for (int kind : kinds) {
                for (int value : ODD_NUMBERS) {
                    SecdLisp lisp = States.make(state);
                    Check.same("token(" + kind + ", " + value + ")", lisp.token(kind, value), false);
                }
            }
        }
    }

    private static void kindsInRangeAreAccepted() {
        Check.sentence("Promise 4", "Otherwise the token is appended at the end of the list");
        for (int kind = 1; kind <= 20; kind++) {
            for (int value : ODD_NUMBERS) {
                SecdLisp lisp = new SecdLisp(3);
                Check.same("token(" + kind + ", " + value + ")", lisp.token(kind, value), true);
                Check.same("tokenCount", lisp.tokenCount(), 1);
            }
        }
    }

    private static void fullListRefuses() {
        Check.sentence("Promise 4", "MAX_TOKENS (64) tokens already held: answers false.");
        for (int kind = 1; kind <= 20; kind++) {
            SecdLisp lisp = new SecdLisp(3);
            for (int held = 0; held < 64; held++) {
                Check.same("token " + held + " of kind " + kind, lisp.token(kind, 5), true);
            }
            for (int next = -1; next <= 22; next++) {
                Check.same("token 65 of kind " + next, lisp.token(next, 5), false);
            }
            Check.same("tokenCount", lisp.tokenCount(), 64);
        }
    }

    private static void refusedKindChangesNothing() {
        Check.sentence("Promise 4",
            "A refused call changes nothing: tokens, program, run result and cursor stay as they were.");
        for (int kind : new int[] {MIN, -1, 0, 21, MAX}) {
            States.unchangedBy("token of kind " + kind, lisp -> lisp.token(kind, 1));
        }
    }

    private static void refusedWhenFullChangesNothing() {
        Check.sentence("Promise 4",
            "A refused call changes nothing: tokens, program, run result and cursor stay as they were.");
        for (int kind = 0; kind <= 21; kind++) {
            int given = kind;
            for (int state = 0; state < States.COUNT; state++) {
                if (States.full(state)) {
                    States.unchangedBy("token of kind " + kind, state, lisp -> lisp.token(given, 9));
                }
            }
        }
    }

    private static void tokenGoesToTheEnd() {
        Check.sentence("Promise 4",
            "appended at the end of the list (its index is the previous tokenCount())");
        // A closure tells the index of the paren that opens it, up to the last that can open one.
        for (int numbers = 0; numbers <= 45; numbers++) {
            SecdLisp lisp = Check.holding(3, "(let ((a (quote (" + "1 ".repeat(numbers) + "))))");
            int index = lisp.tokenCount();
            Check.hand(lisp, "(lambda () 1))");
            Check.same("compile", lisp.compile(), SecdLisp.OK);
            Check.same("run", lisp.run(400), SecdLisp.OK);
            Check.same("index of the token", lisp.closureSource(), index);
        }
    }

    private static void numbersKeepAnyInt() {
        Check.sentence("Promise 4",
            "with value kept for TOK_NUM and TOK_SYM (any int, including negative numbers and the int extremes)");
        for (int number : ODD_NUMBERS) {
            Check.same("number", Check.ran(1, "" + number).intValue(), number);
            Check.same("quoted number", Check.ran(1, "(quote " + number + ")").intValue(), number);
            SecdLisp list = Check.ran(1, "(quote (0 " + number + "))");
            list.goCdr();
            list.goCar();
            Check.same("number in a list", list.intValue(), number);
        }
    }

    /** The program ((lambda (bound) used) 8) for names that may be any int. */
    private static int compileNames(SecdLisp lisp, int bound, int used) {
        Check.hand(lisp, "((lambda (");
        lisp.token(SecdLisp.TOK_SYM, bound);
        Check.hand(lisp, ")");
        lisp.token(SecdLisp.TOK_SYM, used);
        Check.hand(lisp, ") 8)");
        return lisp.compile();
    }

    private static void namesKeepAnyInt() {
        Check.sentence("Promise 4",
            "with value kept for TOK_NUM and TOK_SYM (any int, including negative numbers and the int extremes)");
        for (int bound : ODD_NUMBERS) {
            for (int used : ODD_NUMBERS) {
                SecdLisp lisp = new SecdLisp(3);
                Check.same("name " + used + " where " + bound + " is bound",
                    compileNames(lisp, bound, used), bound == used ? SecdLisp.OK : SecdLisp.ERR_UNBOUND);
                if (bound == used) {
                    Check.same("run", lisp.run(400), SecdLisp.OK);
                    Check.same("value of name " + bound, lisp.intValue(), 8);
                }
            }
        }
    }

    private static void otherValuesAreNothing() {
        Check.sentence("Promise 4", "and taken as 0 for every other kind");
        String[] texts = {
            "nil", "(quote (nil ()))", "(null nil)", States.LOOP, "(cons nil (lambda (a b) a))",
            "(let ((a 1) (b nil)) (if (lt (add a 1) 2) a (cons (mul a 2) (sub (div 4 2) (eq a 1)))))",
            "(car (cdr (quote (1 nil))))", "()", "(a)",
        };
        for (String text : texts) {
            for (int value : ODD_NUMBERS) {
                SecdLisp lisp = new SecdLisp(3);
                for (String word : Check.words(text)) {
                    int kind = Check.kindOf(word);
                    boolean hasValue = kind == SecdLisp.TOK_NUM || kind == SecdLisp.TOK_SYM;
                    lisp.token(kind, hasValue ? Check.valueOf(kind, word) : value);
                }
                Check.same(text + " with values " + value, States.future(lisp),
                    States.future(Check.holding(3, text)));
            }
        }
    }

    private static void tokenTakesTheProgramAway() {
        Check.sentence("Promise 4", "the program becomes absent (even if one was present)");
        for (int kind = 1; kind <= 20; kind++) {
            for (int state = 0; state < States.COUNT; state++) {
                SecdLisp lisp = States.make(state);
                if (!States.full(state)) {
                    Check.same("token", lisp.token(kind, 5), true);
                    Check.same("run after a token of kind " + kind + " in the state '"
                        + States.name(state) + "'", lisp.run(400), SecdLisp.ERR_NOPROG);
                }
            }
        }
    }

    private static void tokenTakesTheResultAway() {
        Check.sentence("Promise 4", "there is no run result; the answer is true.");
        for (int kind = 1; kind <= 20; kind++) {
            for (int state = 0; state < States.COUNT; state++) {
                SecdLisp lisp = States.make(state);
                if (!States.full(state)) {
                    Check.same("token", lisp.token(kind, 5), true);
                    Check.noResult("token of kind " + kind + " in the state '" + States.name(state) + "'", lisp);
                }
            }
        }
        // A list one short of full takes the last token just as well.
        SecdLisp last = Check.holding(3, States.FULL.substring(0, States.FULL.length() - 1));
        Check.same("token 64", last.token(SecdLisp.TOK_RPAREN, 0), true);
        Check.same("compile of 64 tokens", last.compile(), SecdLisp.OK);
    }

    private static void anyTokensAreHeld() {
        Check.sentence("Promise 4", "Whether the tokens form a program plays no part here.");
        String[] texts = {
            ")", "))((", "lambda lambda", "(lambda (a a) b)", "1 2 3", "(quote quote)", "a", "(let () 1)",
            ")".repeat(64), "(".repeat(64), "if ".repeat(64),
        };
        for (String text : texts) {
            SecdLisp lisp = Check.holding(3, text);
            Check.same("tokenCount of " + text, lisp.tokenCount(), Check.words(text).length);
            lisp.compile();
            boolean room = lisp.tokenCount() < SecdLisp.MAX_TOKENS;
            Check.same("token after a refused compile", lisp.token(SecdLisp.TOK_LT, 0), room);
        }
    }

    // ---- promise 5 ----

    private static void countGoesFromNoneToFull() {
        Check.sentence("Promise 5", "tokenCount() answers the number of tokens held, 0..64.");
        SecdLisp lisp = new SecdLisp(3);
        for (int count = 0; count <= 70; count++) {
            Check.same("tokenCount", lisp.tokenCount(), Math.min(count, 64));
            lisp.token(21, count);
            Check.same("tokenCount after a refused token", lisp.tokenCount(), Math.min(count, 64));
            lisp.compile();
            Check.same("tokenCount after compile", lisp.tokenCount(), Math.min(count, 64));
            lisp.run(400);
            Check.same("tokenCount after run", lisp.tokenCount(), Math.min(count, 64));
            lisp.token(1 + count % 20, count);
        }
        lisp.clear();
        Check.same("tokenCount after clear", lisp.tokenCount(), 0);
    }

    private static void countingChangesNothing() {
        Check.sentence("Promise 5", "It changes nothing.");
        States.unchangedBy("tokenCount", lisp -> {
            lisp.tokenCount();
            lisp.tokenCount();
        });
    }
}
