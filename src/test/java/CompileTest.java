/** Promise 6, sentence by sentence: compile. What is a program is in GrammarTest. */
final class CompileTest {
    private static final String[] PROGRAMS = {
        "7", "nil", "(1)", "(quote (1 (2 nil) ()))", "(lambda (a b) (cons a b))",
        "(let ((a 1) (b (quote (2)))) (cons a b))", "(if (lt 1 2) (car (quote (3))) (null nil))",
        "(letrec ((f (lambda (n) (if n (cons n (f (sub n 1))) nil))) (g (lambda () f))) (f 2))",
        States.LOOP, States.FULL,
    };
    private static final String[] NOT_PROGRAMS = {
        "", "()", "(cons 1", "1 2", "(add 1)", "(quote a)", "(lambda (a a) a)", "(let () 1)", ")",
    };
    private static final String[] UNBOUND = {
        "a", "(a)", "(cons 1 a)", "(lambda (a) b)", "(let ((a a)) a)", "(letrec ((f (lambda () g))) f)",
    };

    public static void main(String[] args) {
        resultIsClearedInAnyState();
        emptyListIsRefused();
        trailingTokensAreRefused();
        incompleteExprsAreRefused();
        refusedByTheGrammar();
        refusedByTheScope();
        grammarComesBeforeScope();
        acceptedOtherwise();
        tokensAreKept();
        sameAnswerAgain();
        nothingLingers();
        limitIsUnchanged();
        Check.end();
    }

    private static void resultIsClearedInAnyState() {
        Check.sentence("Promise 6", "compile() always clears the run result first"
            + " (afterwards there is no run result, whatever the answer).");
        for (int state = 0; state < States.COUNT; state++) {
            SecdLisp lisp = States.make(state);
            lisp.compile();
            Check.noResult("compile in the state '" + States.name(state) + "'", lisp);
        }
        for (String text : PROGRAMS) {
            SecdLisp lisp = Check.compiled(3, text);
            Check.noResult("compile of " + text, lisp);
            lisp.run(400);
            lisp.goCar();
            lisp.compile();
            Check.noResult("compile after a run of " + text, lisp);
        }
    }

    private static void absent(String text, int due) {
        SecdLisp lisp = Check.holding(3, text);
        Check.same("compile of " + text, lisp.compile(), due);
        Check.noResult("compile of " + text, lisp);
        Check.same("run after compile of " + text, lisp.run(400), SecdLisp.ERR_NOPROG);
        Check.noResult("run after compile of " + text, lisp);
    }

    private static void emptyListIsRefused() {
        Check.sentence("Promise 6", "including the empty list");
        absent("", SecdLisp.ERR_SYNTAX);
        for (int state = 0; state < States.COUNT; state++) {
            SecdLisp lisp = States.make(state);
            lisp.clear();
            Check.same("compile after clear in the state '" + States.name(state) + "'", lisp.compile(),
                SecdLisp.ERR_SYNTAX);
            Check.same("run of the empty list", lisp.run(400), SecdLisp.ERR_NOPROG);
        }
    }

    private static void trailingTokensAreRefused() {
        Check.sentence("Promise 6", "trailing tokens after one complete expr");
        for (String text : PROGRAMS) {
            for (int kind = 1; kind <= 20; kind++) {
                SecdLisp lisp = Check.compiled(3, text);
                if (lisp.token(kind, 0)) {
                    Check.same(text + " and a token of kind " + kind, lisp.compile(), SecdLisp.ERR_SYNTAX);
                    Check.same("run of it", lisp.run(400), SecdLisp.ERR_NOPROG);
                }
            }
        }
        absent("1 ".repeat(64), SecdLisp.ERR_SYNTAX);
        absent("(1) (1)", SecdLisp.ERR_SYNTAX);
        // The last token of a full list is looked at like any other.
        absent("(quote (" + "1 ".repeat(58) + ")) 1", SecdLisp.ERR_SYNTAX);
    }

    private static void incompleteExprsAreRefused() {
        Check.sentence("Promise 6", "or an incomplete expr");
        for (String text : PROGRAMS) {
            String[] words = Check.words(text);
            SecdLisp lisp = new SecdLisp(3);
            for (int held = 0; held < words.length; held++) {
                Check.same("compile of the first " + held + " tokens of " + text, lisp.compile(),
                    SecdLisp.ERR_SYNTAX);
                Check.same("run of them", lisp.run(400), SecdLisp.ERR_NOPROG);
                Check.hand(lisp, words[held]);
            }
            Check.same("compile of all of " + text, lisp.compile(), SecdLisp.OK);
        }
        absent("(quote (" + "1 ".repeat(60) + ")", SecdLisp.ERR_SYNTAX);
    }

    private static void refusedByTheGrammar() {
        Check.sentence("Promise 6", "the program is absent and the answer is ERR_SYNTAX.");
        for (String text : NOT_PROGRAMS) {
            absent(text, SecdLisp.ERR_SYNTAX);
        }
    }

    private static void refusedByTheScope() {
        Check.sentence("Promise 6", "Otherwise, if some SYM used as an expr is unbound by the Scope rules:"
            + " the program is absent and the answer is ERR_UNBOUND.");
        for (String text : UNBOUND) {
            absent(text, SecdLisp.ERR_UNBOUND);
        }
        // One unbound name is enough, wherever it stands and even if no run would come to it.
        absent("(cons (let ((a 1)) a) (if 1 2 b))", SecdLisp.ERR_UNBOUND);
        absent("(cons a 1)", SecdLisp.ERR_UNBOUND);
        absent("(" + "(".repeat(30) + "a" + ")".repeat(30) + ")", SecdLisp.ERR_UNBOUND);
    }

    private static void grammarComesBeforeScope() {
        Check.sentence("Promise 6", "If the tokens held are not a program by the Grammar");
        String[] texts = {
            "a b", "a)", "(a", "(a ())", "(add a)", "(cons a (quote b))", "(a b c d e f)", "(let ((a a)) a a)",
            "(cons a (lambda (b b) 1))", "(a (letrec ((f 1)) f))", "(cons a)", "(let ((a b) (a c)) 1)",
        };
        for (String text : texts) {
            absent(text, SecdLisp.ERR_SYNTAX);
        }
    }

    private static void acceptedOtherwise() {
        Check.sentence("Promise 6", "Otherwise the program is present and the answer is OK.");
        for (String text : PROGRAMS) {
            SecdLisp lisp = Check.holding(3, text);
            Check.same("run before compile of " + text, lisp.run(400), SecdLisp.ERR_NOPROG);
            Check.same("compile of " + text, lisp.compile(), SecdLisp.OK);
            Check.same("program present: " + text, lisp.run(400) != SecdLisp.ERR_NOPROG, true);
        }
    }

    private static void tokensAreKept() {
        Check.sentence("Promise 6", "The tokens are kept unchanged in every case.");
        for (String[] texts : new String[][] {PROGRAMS, NOT_PROGRAMS, UNBOUND}) {
            for (String text : texts) {
                SecdLisp lisp = Check.holding(3, text);
                lisp.compile();
                Check.same("tokenCount of " + text, lisp.tokenCount(), Check.words(text).length);
            }
        }
        // Tokens held over a refusal are the first ones of the program that more tokens make.
        SecdLisp lisp = Check.holding(3, "(car");
        Check.same("unfinished", lisp.compile(), SecdLisp.ERR_SYNTAX);
        Check.hand(lisp, "(quote (7)))");
        Check.same("finished", lisp.compile(), SecdLisp.OK);
        Check.same("run of finished", lisp.run(400), SecdLisp.OK);
        Check.same("value of finished", lisp.intValue(), 7);
        // Compiling between any two tokens makes no difference.
        for (String text : PROGRAMS) {
            SecdLisp often = new SecdLisp(3);
            for (String word : Check.words(text)) {
                often.compile();
                Check.hand(often, word);
            }
            Check.same(text + " compiled often", States.future(often), States.future(Check.holding(3, text)));
        }
    }

    private static void sameAnswerAgain() {
        Check.sentence("Promise 6", "Calling compile() again on the same tokens gives the same answer.");
        for (String[] texts : new String[][] {PROGRAMS, NOT_PROGRAMS, UNBOUND}) {
            for (String text : texts) {
                SecdLisp lisp = Check.holding(3, text);
                int answered = lisp.compile();
                Check.same("compile again of " + text, lisp.compile(), answered);
                lisp.run(400);
                Check.same("compile after run of " + text, lisp.compile(), answered);
                lisp.token(0, 0);
                Check.same("compile after a refused token of " + text, lisp.compile(), answered);
                SecdLisp once = Check.holding(3, text);
                once.compile();
                Check.same("future of " + text, States.future(lisp), States.future(once));
            }
        }
    }

    private static void nothingLingers() {
        Check.sentence("Promise 6", "Calling compile() again on the same tokens gives the same answer.");
        // Nor may other tokens, compiled before on the same object, play a part.
        for (String[] befores : new String[][] {PROGRAMS, NOT_PROGRAMS, UNBOUND}) {
            for (String before : befores) {
                for (String[] texts : new String[][] {PROGRAMS, NOT_PROGRAMS, UNBOUND}) {
                    for (String text : texts) {
                        SecdLisp lisp = Check.holding(3, before);
                        lisp.compile();
                        lisp.run(400);
                        lisp.clear();
                        Check.hand(lisp, text);
                        Check.same(text + " after " + before, States.future(lisp),
                            States.future(Check.holding(3, text)));
                    }
                }
            }
        }
    }

    private static void limitIsUnchanged() {
        Check.sentence("Promise 6", "The depth limit is unchanged.");
        for (String[] texts : new String[][] {PROGRAMS, NOT_PROGRAMS, UNBOUND}) {
            for (String text : texts) {
                for (int limit = 1; limit <= 32; limit++) {
                    SecdLisp lisp = Check.holding(limit, text);
                    lisp.compile();
                    Check.same("depthLimit after compile of " + text, lisp.depthLimit(), limit);
                }
            }
        }
    }
}
