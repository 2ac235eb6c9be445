/** Promises 7 to 10, sentence by sentence: run, status, steps and maxDepth. */
final class RunTest {
    private static final int[] LOW_FUELS = {Integer.MIN_VALUE, -65536, -400, -1, 0};
    private static final int[] HIGH_FUELS = {401, 402, 800, 65536 + 7, Integer.MAX_VALUE};

    /** The calls double from level to level, so the fuel ends while the depth is still small. */
    private static final String WIDE =
        "(letrec ((f (lambda (n) (if n (let ((a (f (sub n 1)))) (f (sub n 1))) 0)))) (f 9))";

    /** Takes 398 steps: 15 for each n from 26 down to 1, 3 for the last, and 5 to begin with. */
    private static final String LONG =
        "(letrec ((f (lambda (n) (if n (add (add 0 (add 0 0)) (add n (f (sub n 1)))) 0)))) (f 26))";

    /** Programs that end with each of the outcomes, some deep inside calls. */
    private static final String[] TEXTS = {
        "7", "(quote (1 (2 nil)))", "(lambda (a) a)",
        "(letrec ((f (lambda (n) (if n (cons n (f (sub n 1))) (lambda (a) f))))) (f 5))",
        "(letrec ((f (lambda (n) (if n (add n (f (sub n 1))) 0)))) (f 31))",
        "(letrec ((f (lambda (n) (if n (add n (f (sub n 1))) nil)))) (f 5))",
        "(let ((a (quote (1 2)))) (div (car a) (sub (car (cdr a)) 2)))",
        "(letrec ((f (lambda (n) (f n)))) (f 1))", "((lambda (a) (a 1)) 2)",
        "((lambda (a) (a)) (lambda (b) b))", WIDE,
    };

    public static void main(String[] args) {
        anyFuelIsAccepted();
        lowFuelBecomesOne();
        highFuelBecomesFourHundred();
        fuelBetweenIsKept();
        noProgram();
        runsAreFresh();
        statusOfEachOutcome();
        stepsAtTheEnd();
        stepsAfterWantOfFuel();
        depthWithoutCalls();
        depthNeverMoreThanTheLimit();
        valueIsKeptAndCursorAtRoot();
        errorLeavesNoValue();
        programAndTokensStay();
        answerIsTheStatus();
        outcomeDependsOnNothingElse();
        enoughFuelIsEnough();
        wantOfFuelIsWantOfLess();

        statusOfTheLastRun();
        noStatusWithoutResult();
        askingChangesNothing("Promise 8", "status", SecdLisp::status);
        stepsOfTheLastRun();
        askingChangesNothing("Promise 9", "steps", SecdLisp::steps);
        maxDepthOfTheLastRun();
        askingChangesNothing("Promise 10", "maxDepth", SecdLisp::maxDepth);
        Check.end();
    }

    // ---- promise 7 ----

    private static void anyFuelIsAccepted() {
        Check.sentence("Promise 7", "run(fuel) accepts any int");
        for (int[] fuels : new int[][] {LOW_FUELS, HIGH_FUELS, {1, 2, 200, 399, 400}}) {
            for (int fuel : fuels) {
                SecdLisp lisp = Check.compiled(1, "7");
                Check.same("run(" + fuel + ")", lisp.run(fuel), SecdLisp.OK);
                Check.same("value of run(" + fuel + ")", lisp.intValue(), 7);
                Check.same("run(" + fuel + ") without program", new SecdLisp(1).run(fuel), SecdLisp.ERR_NOPROG);
            }
        }
    }

    private static void lowFuelBecomesOne() {
        Check.sentence("Promise 7", "fuel is clamped into 1..MAX_FUEL (below 1 becomes 1");
        for (int fuel : LOW_FUELS) {
            SecdLisp lisp = Check.compiled(1, "7");
            Check.same("run(" + fuel + ") of one step", lisp.run(fuel), SecdLisp.OK);
            Check.same("steps", lisp.steps(), 1);
            lisp = Check.compiled(1, "(null nil)");
            Check.same("run(" + fuel + ") of two steps", lisp.run(fuel), SecdLisp.ERR_FUEL);
            Check.same("steps", lisp.steps(), 1);
            for (String text : TEXTS) {
                sameRuns(text, fuel, 1);
            }
        }
    }

    private static void highFuelBecomesFourHundred() {
        Check.sentence("Promise 7", "above 400 becomes 400");
        for (int fuel : HIGH_FUELS) {
            SecdLisp lisp = Check.compiled(32, WIDE);
            Check.same("run(" + fuel + ")", lisp.run(fuel), SecdLisp.ERR_FUEL);
            Check.same("steps of run(" + fuel + ")", lisp.steps(), 400);
            for (String text : TEXTS) {
                sameRuns(text, fuel, 400);
            }
        }
        // The greatest fuel is just enough for 400 steps, and not for one more.
        SecdLisp enough = Check.compiled(32, "(null (null " + LONG + "))");
        Check.same("run of 400 steps", enough.run(401), SecdLisp.OK);
        Check.same("steps", enough.steps(), 400);
        SecdLisp tooMany = Check.compiled(32, "(null (null (null " + LONG + ")))");
        Check.same("run of 401 steps", tooMany.run(401), SecdLisp.ERR_FUEL);
        Check.same("steps", tooMany.steps(), 400);
    }

    private static void fuelBetweenIsKept() {
        Check.sentence("Promise 7", "fuel is clamped into 1..MAX_FUEL");
        SecdLisp lisp = Check.compiled(32, WIDE);
        for (int fuel = 1; fuel <= 400; fuel++) {
            Check.same("run(" + fuel + ")", lisp.run(fuel), SecdLisp.ERR_FUEL);
            Check.same("steps of run(" + fuel + ")", lisp.steps(), fuel);
        }
    }

    private static void sameRuns(String text, int fuel, int other) {
        Check.same("run(" + fuel + ") of " + text, Check.compiled(9, text).run(fuel),
            Check.compiled(9, text).run(other));
        States.alike("after run(" + fuel + ") of " + text, () -> runWith(text, fuel), () -> runWith(text, other));
    }

    private static SecdLisp runWith(String text, int fuel) {
        SecdLisp lisp = Check.compiled(9, text);
        lisp.run(fuel);
        return lisp;
    }

    private static void noProgram() {
        Check.sentence("Promise 7", "If no program is present, it answers ERR_NOPROG and changes nothing.");
        for (int state = 0; state < States.COUNT; state++) {
            for (int fuel : new int[] {Integer.MIN_VALUE, 0, 1, 400, Integer.MAX_VALUE}) {
                SecdLisp lisp = States.make(state);
                boolean absent = lisp.run(fuel) == SecdLisp.ERR_NOPROG;
                Check.same("ERR_NOPROG in the state '" + States.name(state) + "'", absent, States.noProgram(state));
                if (States.noProgram(state)) {
                    Check.noResult("run in the state '" + States.name(state) + "'", lisp);
                    States.unchangedBy("run without program", state, object -> object.run(fuel));
                }
            }
        }
    }

    private static void runsAreFresh() {
        Check.sentence("Promise 7", "Otherwise it evaluates the program afresh as in Evaluation, with the clamped"
            + " fuel and depthLimit(); earlier runs have no effect on it.");
        for (String text : TEXTS) {
            SecdLisp fresh = Check.compiled(9, text);
            fresh.run(400);
            String due = States.now(fresh) + Check.show(fresh);
            SecdLisp lisp = Check.compiled(9, text);
            for (int fuel = 0; fuel <= 401; fuel++) {
                lisp.run(fuel);
                lisp.goCdr();
                lisp.run(400);
                Check.same("run after run(" + fuel + ") of " + text, States.now(lisp) + Check.show(lisp), due);
            }
        }
    }

    private static void statusOfEachOutcome() {
        Check.sentence("Promise 7", "status: OK, or the error that stopped the run"
            + " (ERR_FUEL, ERR_DEPTH, ERR_TYPE, ERR_DIV, ERR_APPLY or ERR_ARITY)");
        int[] due = {0, 0, 0, 0, 5, 6, 7, 5, 8, 9, 4};
        for (int i = 0; i < TEXTS.length; i++) {
            SecdLisp lisp = Check.compiled(10, TEXTS[i]);
            Check.same("run of " + TEXTS[i], lisp.run(400), due[i]);
            Check.same("status of " + TEXTS[i], lisp.status(), due[i]);
        }
    }

    private static void stepsAtTheEnd() {
        Check.sentence("Promise 7", "steps: the step counter when the run ended");
        int[] due = {1, 1, 1, 53, 95, 53, 10, 35, 6, 5, 400};
        for (int i = 0; i < TEXTS.length; i++) {
            SecdLisp lisp = Check.compiled(10, TEXTS[i]);
            lisp.run(400);
            Check.same("steps of " + TEXTS[i], lisp.steps(), due[i]);
        }
    }

    private static void stepsAfterWantOfFuel() {
        Check.sentence("Promise 7", "after ERR_FUEL this equals the clamped fuel");
        int[] given = {Integer.MIN_VALUE, -1, 0, 1, 2, 3, 399, 400, 401, Integer.MAX_VALUE};
        int[] due = {1, 1, 1, 1, 2, 3, 399, 400, 400, 400};
        for (int i = 0; i < given.length; i++) {
            SecdLisp lisp = Check.compiled(32, WIDE);
            Check.same("run(" + given[i] + ")", lisp.run(given[i]), SecdLisp.ERR_FUEL);
            Check.same("steps", lisp.steps(), due[i]);
        }
    }

    private static void depthWithoutCalls() {
        Check.sentence("Promise 7", "maxDepth: the greatest active count reached, 0 if no closure was entered");
        String[] texts = {
            "7", "(quote (1))", "(lambda () 1)", "(let ((a 1)) a)", "(letrec ((f (lambda () 1))) f)", "(1)",
            "((lambda (a) a))", "((lambda () 1) 2)", "(car 1)", "(div 1 0)", "((lambda (a) a) (car 1))",
        };
        for (String text : texts) {
            SecdLisp lisp = Check.compiled(1, text);
            lisp.run(400);
            Check.same("maxDepth of " + text, lisp.maxDepth(), 0);
        }
        // Just before the body is begun the closure is entered already.
        SecdLisp lisp = Check.compiled(3, "((lambda () ((lambda () 1))))");
        int[] due = {0, 1, 1, 2, 2};
        for (int fuel = 1; fuel <= 5; fuel++) {
            lisp.run(fuel);
            Check.same("maxDepth of run(" + fuel + ")", lisp.maxDepth(), due[fuel - 1]);
        }
        // It is the greatest reached, not the last.
        Check.same("maxDepth of deep then shallow",
            Check.ran(9, "(cons ((lambda () ((lambda () 1)))) ((lambda () 2)))").maxDepth(), 2);
    }

    private static void depthNeverMoreThanTheLimit() {
        Check.sentence("Promise 7", "never more than depthLimit()");
        for (String text : TEXTS) {
            for (int limit = 1; limit <= 32; limit++) {
                SecdLisp lisp = Check.compiled(limit, text);
                for (int fuel = 0; fuel <= 401; fuel++) {
                    lisp.run(fuel);
                    Check.same("maxDepth within the limit", lisp.maxDepth() <= lisp.depthLimit(), true);
                }
            }
        }
        for (int limit = 1; limit <= 32; limit++) {
            SecdLisp lisp = Check.compiled(limit, States.LOOP);
            Check.same("run", lisp.run(400), SecdLisp.ERR_DEPTH);
            Check.same("maxDepth after ERR_DEPTH", lisp.maxDepth(), limit);
        }
    }

    private static void valueIsKeptAndCursorAtRoot() {
        Check.sentence("Promise 7", "On OK the value is kept and the cursor is placed at its root.");
        SecdLisp lisp = Check.compiled(3, "(cons (cons 1 2) 3)");
        for (int turn = 0; turn < 3; turn++) {
            Check.same("run", lisp.run(400), SecdLisp.OK);
            Check.same("kind at the root", lisp.kind(), SecdLisp.KIND_PAIR);
            Check.same("goCdr from the root", lisp.goCdr(), true);
            Check.same("second part of the root", lisp.intValue(), 3);
            Check.same("run", lisp.run(400), SecdLisp.OK);
            Check.same("goCar from the root", lisp.goCar(), true);
            Check.same("goCdr", lisp.goCdr(), true);
            Check.same("second part of the first part", lisp.intValue(), 2);
        }
        Check.same("the value stays", Check.show(lisp), "[[1 . 2] . 3]");
        Check.same("the value stays again", Check.show(lisp), "[[1 . 2] . 3]");
    }

    private static void errorLeavesNoValue() {
        Check.sentence("Promise 7", "On an error there is no value (kind() = KIND_NONE).");
        for (String text : TEXTS) {
            SecdLisp lisp = Check.compiled(9, text);
            if (lisp.run(400) != SecdLisp.OK) {
                Check.noValue("error of " + text, lisp);
            }
        }
        SecdLisp lisp = Check.compiled(3, "(cons 1 2)");
        for (int turn = 0; turn < 3; turn++) {
            Check.same("run", lisp.run(400), SecdLisp.OK);
            lisp.goCar();
            Check.same("run in want of fuel", lisp.run(2), SecdLisp.ERR_FUEL);
            Check.noValue("a value before it is gone", lisp);
            Check.same("status", lisp.status(), SecdLisp.ERR_FUEL);
            Check.same("steps", lisp.steps(), 2);
        }
    }

    private static void programAndTokensStay() {
        Check.sentence("Promise 7", "The program stays present and the tokens are unchanged.");
        for (String text : TEXTS) {
            for (int fuel : new int[] {-1, 1, 2, 5, 50, 400, 1000}) {
                SecdLisp lisp = Check.compiled(9, text);
                lisp.run(fuel);
                Check.same("tokenCount", lisp.tokenCount(), Check.words(text).length);
                Check.same("program present", lisp.run(fuel) != SecdLisp.ERR_NOPROG, true);
                States.unchangedBy("run(" + fuel + ") again of " + text, () -> runWith(text, fuel),
                    object -> object.run(fuel));
            }
        }
    }

    private static void answerIsTheStatus() {
        Check.sentence("Promise 7", "The answer is the recorded status.");
        for (String text : TEXTS) {
            SecdLisp lisp = Check.compiled(9, text);
            for (int fuel = 0; fuel <= 401; fuel++) {
                int answered = lisp.run(fuel);
                Check.same("status after run(" + fuel + ") of " + text, lisp.status(), answered);
            }
        }
    }

    private static void outcomeDependsOnNothingElse() {
        Check.sentence("Promise 7",
            "A run's outcome depends only on the tokens, the clamped fuel and depthLimit().");
        SecdLisp used = new SecdLisp(9);
        for (String before : TEXTS) {
            for (String text : TEXTS) {
                used.clear();
                Check.hand(used, before);
                used.compile();
                used.run(400);
                used.clear();
                Check.hand(used, text);
                used.compile();
                used.run(400);
                SecdLisp fresh = Check.compiled(9, text);
                fresh.run(400);
                Check.same(text + " after " + before, States.now(used) + Check.show(used),
                    States.now(fresh) + Check.show(fresh));
            }
        }
        // Two objects do not share anything.
        SecdLisp one = Check.compiled(9, TEXTS[3]);
        SecdLisp other = Check.compiled(9, TEXTS[1]);
        one.run(400);
        other.run(400);
        Check.same("the first object's value", Check.show(one), "[5 . [4 . [3 . [2 . [1 . fn1@25]]]]]");
        Check.same("the second object's value", Check.show(other), "[1 . [[2 . [nil . nil]] . nil]]");
    }

    private static void enoughFuelIsEnough() {
        Check.sentence("Promise 7", "if run(f) answers r other than ERR_FUEL and leaves steps() = s, then for"
            + " every f2 with s <= f2 <= 400, run(f2) in its place answers r, leaves steps() = s and the same"
            + " maxDepth(), and gives the same answers to every following sequence of kind, intValue,"
            + " closureArity, closureSource, goRoot, goCar and goCdr calls.");
        for (String text : TEXTS) {
            SecdLisp lisp = Check.compiled(9, text);
            if (lisp.run(400) == SecdLisp.ERR_FUEL) {
                continue;
            }
            int enough = lisp.steps();
            String due = States.now(lisp) + Check.show(lisp);
            for (int fuel = enough; fuel <= 400; fuel++) {
                lisp.run(fuel);
                Check.same("run(" + fuel + ") of " + text, States.now(lisp) + Check.show(lisp), due);
            }
        }
    }

    private static void wantOfFuelIsWantOfLess() {
        Check.sentence("Promise 7", "If run(f) answers ERR_FUEL, then steps() equals f clamped into 1..400, and"
            + " for every f2 with 1 <= f2 <= that clamped f, run(f2) in its place answers ERR_FUEL with"
            + " steps() = f2.");
        for (String text : TEXTS) {
            SecdLisp lisp = Check.compiled(9, text);
            int greatest = lisp.run(400) == SecdLisp.ERR_FUEL ? 400 : lisp.steps() - 1;
            for (int fuel = 1; fuel <= greatest; fuel++) {
                Check.same("run(" + fuel + ") of " + text, lisp.run(fuel), SecdLisp.ERR_FUEL);
                Check.same("steps of run(" + fuel + ") of " + text, lisp.steps(), fuel);
            }
        }
    }

    // ---- promises 8 to 10 ----

    private static void statusOfTheLastRun() {
        Check.sentence("Promise 8", "status() answers the status of the last recorded run");
        for (int state = 0; state < States.COUNT; state++) {
            Check.same("status in the state '" + States.name(state) + "'", States.make(state).status(),
                States.status(state));
        }
        SecdLisp lisp = Check.compiled(3, "(null nil)");
        lisp.run(1);
        Check.same("status of the first run", lisp.status(), SecdLisp.ERR_FUEL);
        lisp.run(2);
        Check.same("status of the second run", lisp.status(), SecdLisp.OK);
        lisp.run(1);
        Check.same("status of the third run", lisp.status(), SecdLisp.ERR_FUEL);
    }

    private static void noStatusWithoutResult() {
        Check.sentence("Promise 8", "or NO_RESULT if there is no run result");
        // ERR_NOPROG is answered but not recorded, and so are compile's errors.
        SecdLisp lisp = new SecdLisp(3);
        Check.same("fresh", lisp.status(), SecdLisp.NO_RESULT);
        lisp.run(400);
        Check.same("after run without program", lisp.status(), SecdLisp.NO_RESULT);
        lisp.compile();
        Check.same("after compile of nothing", lisp.status(), SecdLisp.NO_RESULT);
        Check.hand(lisp, "a");
        lisp.compile();
        Check.same("after compile of an unbound name", lisp.status(), SecdLisp.NO_RESULT);
        lisp.run(400);
        Check.same("after run of an unbound name", lisp.status(), SecdLisp.NO_RESULT);
        lisp.clear();
        Check.hand(lisp, "7");
        Check.same("before compile", lisp.status(), SecdLisp.NO_RESULT);
        lisp.compile();
        Check.same("before run", lisp.status(), SecdLisp.NO_RESULT);
        lisp.run(400);
        Check.same("after run", lisp.status(), SecdLisp.OK);
        lisp.compile();
        Check.same("after compile", lisp.status(), SecdLisp.NO_RESULT);
        lisp.run(400);
        lisp.token(SecdLisp.TOK_NIL, 0);
        Check.same("after token", lisp.status(), SecdLisp.NO_RESULT);
    }

    private static void stepsOfTheLastRun() {
        Check.sentence("Promise 9",
            "steps() answers the steps of the last recorded run, or 0 if there is no run result.");
        SecdLisp lisp = Check.holding(3, "(null (null nil))");
        Check.same("before compile", lisp.steps(), 0);
        lisp.compile();
        Check.same("before run", lisp.steps(), 0);
        int[] fuels = {400, 1, 3, 2, 0, 1000};
        int[] due = {3, 1, 3, 2, 1, 3};
        for (int i = 0; i < fuels.length; i++) {
            lisp.run(fuels[i]);
            Check.same("steps of run(" + fuels[i] + ")", lisp.steps(), due[i]);
        }
        lisp.compile();
        Check.same("after compile", lisp.steps(), 0);
        lisp.run(400);
        lisp.token(SecdLisp.TOK_NIL, 0);
        Check.same("after token", lisp.steps(), 0);
        lisp.run(400);
        Check.same("after run without program", lisp.steps(), 0);
    }

    private static void maxDepthOfTheLastRun() {
        Check.sentence("Promise 10", "maxDepth() answers the greatest count of active applications in the last"
            + " recorded run, or 0 if there is no run result.");
        SecdLisp lisp = Check.holding(3, "((lambda () ((lambda () 1))))");
        Check.same("before compile", lisp.maxDepth(), 0);
        lisp.compile();
        Check.same("before run", lisp.maxDepth(), 0);
        int[] fuels = {400, 1, 3, 2, 0, 4, 1000};
        int[] due = {2, 0, 1, 1, 0, 2, 2};
        for (int i = 0; i < fuels.length; i++) {
            lisp.run(fuels[i]);
            Check.same("maxDepth of run(" + fuels[i] + ")", lisp.maxDepth(), due[i]);
        }
        lisp.compile();
        Check.same("after compile", lisp.maxDepth(), 0);
        lisp.run(400);
        lisp.token(SecdLisp.TOK_NIL, 0);
        Check.same("after token", lisp.maxDepth(), 0);
        lisp.run(400);
        Check.same("after run without program", lisp.maxDepth(), 0);
    }

    private static void askingChangesNothing(String promise, String name, States.Calls call) {
        Check.sentence(promise, "It changes nothing.");
        States.unchangedBy(name, lisp -> {
            call.on(lisp);
            call.on(lisp);
        });
    }
}
