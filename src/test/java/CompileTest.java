/** Promise 6: compile, with the grammar and the scope rules. */
final class CompileTest {
    public static void main(String[] args) {
        programs();
        notPrograms();
        unbound();
        syntaxComesFirst();
        resultIsCleared();
        recompiling();
        deepNesting();
        Check.end();
    }

    private static void answers(String text, int due) {
        SecdLisp lisp = Check.holding(5, text);
        int held = lisp.tokenCount();
        Check.same("compile of " + text, lisp.compile(), due);
        Check.same("compile again of " + text, lisp.compile(), due);
        Check.same("tokenCount after compile of " + text, lisp.tokenCount(), held);
        Check.noResult("compile of " + text, lisp);
        Check.same("depthLimit after compile", lisp.depthLimit(), 5);
        boolean ran = lisp.run(400) != SecdLisp.ERR_NOPROG;
        Check.same("program present after compile of " + text, ran, due == SecdLisp.OK);
        if (!ran) {
            Check.noResult("run without program " + text, lisp);
        }
    }

    private static void programs() {
        String[] texts = {
            "1", "nil", "(1)", "(nil)", "(1 2 3 4 5)", "((quote 1))",
            "(quote 1)", "(quote nil)", "(quote ())", "(quote (()))", "(quote (1 nil (2 3) ()))",
            "(quote (1 2 3 4 5 6 7 8 9))",
            "(lambda () 1)", "(lambda (a) a)", "(lambda (a b c d) d)",
            "(let ((a 1)) a)", "(let ((a 1) (b 2) (c 3) (d 4)) d)", "(let ((a (lambda (a) a))) a)",
            "(let ((a (let ((b 1)) b)) (b (lambda (a b) a))) b)",
            "(letrec ((f (lambda () 1))) f)",
            "(letrec ((f (lambda () (g))) (g (lambda (a b c d) f))) f)",
            "(letrec ((f (lambda (f) f)) (g (lambda (f) f)) (h (lambda () 1)) (i (lambda () 1))) 1)",
            "(if 1 2 3)", "(cons 1 2)", "(add 1 2)", "(sub 1 2)", "(mul 1 2)", "(div 1 2)",
            "(eq 1 2)", "(lt 1 2)", "(car 1)", "(cdr 1)", "(null 1)",
            "((lambda (a) (lambda (a) a)) 1)", "(lambda (a) (a a a a a))",
        };
        for (String text : texts) {
            answers(text, SecdLisp.OK);
        }
    }

    private static void notPrograms() {
        String[] texts = {
            "", "(", ")", "()", "(1", "1)", ")(", "(1))", "((1)", "1 2", "1 nil", "() 1", "(1) 2",
            "(())", "(1 ())", "(if () 1 2)", "(add () 1)", "(1 2 3 4 5 6)", "(1 add 2)",
            "(add add 1)", "(add (add) 1)", "(1 (quote))",
            "(quote)", "(quote 1 2)", "(quote a)", "(quote (a))", "(quote (1 (2 a)))",
            "(quote quote)", "(quote (quote 1))", "(quote (add 1 2))", "(quote (1 lt))", "quote 1",
            "(lambda)", "(lambda 1)", "(lambda ())", "(lambda () 1 2)", "(lambda a a)",
            "(lambda nil 1)", "(lambda (1) 1)", "(lambda (nil) 1)", "(lambda ((a)) a)",
            "(lambda (a a) a)", "(lambda (a b c a) 1)", "(lambda (a b b) 1)",
            "(lambda (a b c d e) a)", "(lambda (add) 1)", "(lambda (()) 1)", "(lambda () ())",
            "(let)", "(let 1)", "(let () 1)", "(let ((a 1)))", "(let ((a 1)) a a)", "(let (a 1) a)",
            "(let a a)", "(let nil 1)", "(let (1) 1)", "(let ((a)) 1)", "(let ((a 1 2)) 1)",
            "(let (()) 1)", "(let ((1 1)) 1)", "(let ((nil 1)) 1)", "(let (((a) 1)) 1)",
            "(let ((a 1) (a 2)) a)", "(let ((a 1) (b 1) (c 1) (a 2)) a)", "(let ((add 1)) 1)",
            "(let ((a 1) (b 2) (c 3) (d 4) (e 5)) 1)", "(let ((a 1) 2) 1)", "(let ((a 1) b) 1)",
            "(let ((a ())) a)", "(let ((a add)) a)", "(let ((a 1)) ())", "(let 1 ((a 1)))",
            "(letrec)", "(letrec () 1)", "(letrec ((f 1)) 1)", "(letrec ((f nil)) 1)",
            "(letrec ((f (quote 1))) 1)", "(letrec ((f (add 1 2))) 1)", "(letrec ((f (1))) 1)",
            "(letrec ((f ())) 1)", "(letrec ((f lambda)) 1)", "(letrec ((f (lambda 1))) 1)",
            "(letrec ((f (lambda () 1))))", "(letrec ((f (lambda () 1)) (f (lambda () 2))) 1)",
            "(letrec ((f (lambda (a a) 1))) 1)", "(letrec ((f (lambda () 1) 2)) 1)",
            "(letrec ((f (lambda (a b c d e) 1))) 1)", "(letrec ((f ((lambda () 1)))) 1)",
            "(letrec ((f (lambda () 1)) (g 2)) 1)", "(letrec ((f (let ((a 1)) (lambda () a)))) 1)",
            "(letrec ((a (lambda () 1)) (b (lambda () 1)) (c (lambda () 1)) (d (lambda () 1))"
                + " (e (lambda () 1))) 1)",
            "(if)", "(if 1)", "(if 1 2)", "(if 1 2 3 4)", "(if if 1 2)",
            "(cons)", "(cons 1)", "(cons 1 2 3)", "(add 1)", "(add 1 2 3)", "(sub 1)",
            "(sub 1 2 3)", "(mul 1)", "(mul 1 2 3)", "(div 1)", "(div 1 2 3)", "(eq 1)",
            "(eq 1 2 3)", "(lt 1)", "(lt 1 2 3)", "(car)", "(car 1 2)", "(cdr)", "(cdr 1 2)",
            "(null)", "(null 1 2)", "(add)",
            "add", "lambda", "quote", "let", "letrec", "if", "car", "(1 2 car)",
        };
        for (String text : texts) {
            answers(text, SecdLisp.ERR_SYNTAX);
        }
    }

    private static void unbound() {
        String[] texts = {
            "a", "(a)", "(1 a)", "(add 1 a)", "(null a)", "(if 1 2 a)", "(lambda (a) b)",
            "(lambda () a)", "(let ((a a)) 1)", "(let ((a 1) (b a)) b)", "(let ((a b) (b 1)) b)",
            "(let ((a (lambda () a))) 1)", "(cons (let ((a 1)) a) a)", "(cons a (let ((a 1)) a))",
            "((lambda (a) a) a)", "(letrec ((f (lambda (a) f))) a)",
            "(cons (letrec ((f (lambda () 1))) f) f)", "(letrec ((f (lambda (a) g))) f)",
            "(letrec ((f (lambda (a) a)) (g (lambda () a))) f)",
            "(let ((a (lambda (b) 1))) b)", "((lambda (a) 1) (lambda () a))",
        };
        for (String text : texts) {
            answers(text, SecdLisp.ERR_UNBOUND);
        }
    }

    private static void syntaxComesFirst() {
        String[] texts = {
            "a b", "(a ())", "(add a)", "(cons a (quote b))", "(a b c d e f)", "(let ((a a)) a a)",
            "(cons a (lambda (b b) 1))", "(a (letrec ((f 1)) f))", "a)",
        };
        for (String text : texts) {
            answers(text, SecdLisp.ERR_SYNTAX);
        }
    }

    private static void resultIsCleared() {
        SecdLisp lisp = Check.compiled(3, "((lambda (a) (cons a a)) 1)");
        Check.same("run", lisp.run(400), SecdLisp.OK);
        Check.same("goCar", lisp.goCar(), true);
        Check.same("compile after run", lisp.compile(), SecdLisp.OK);
        Check.noResult("compile after run", lisp);
        Check.same("run after compile", lisp.run(400), SecdLisp.OK);
        Check.same("value", Check.show(lisp), "[1 . 1]");
    }

    /** What one compile finds must not linger in the next, whatever the two programs are. */
    private static void recompiling() {
        SecdLisp lisp = new SecdLisp(3);
        String[] texts = {
            "(quote (1 (2 3) nil))", "(lambda (a) a)", "(lambda (a b) a)", "(quote (a))", "(a)",
            "(let ((a 1)) (add a a))", "(add (quote 1) 2)", "(((",
        };
        int[] due = {0, 0, 0, 1, 2, 0, 0, 1};
        for (int i = 0; i < texts.length; i++) {
            for (int j = 0; j < texts.length; j++) {
                lisp.clear();
                Check.hand(lisp, texts[i]);
                Check.same("compile of " + texts[i], lisp.compile(), due[i]);
                lisp.run(400);
                lisp.clear();
                Check.hand(lisp, texts[j]);
                Check.same(texts[j] + " after " + texts[i], lisp.compile(), due[j]);
            }
        }
        lisp.clear();
        Check.hand(lisp, "(car");
        Check.same("unfinished", lisp.compile(), SecdLisp.ERR_SYNTAX);
        Check.hand(lisp, "(quote (7)))");
        Check.same("finished", lisp.compile(), SecdLisp.OK);
        Check.same("run of finished", lisp.run(400), SecdLisp.OK);
        Check.same("value of finished", Check.show(lisp), "7");
        Check.hand(lisp, "1");
        Check.same("trailing", lisp.compile(), SecdLisp.ERR_SYNTAX);
        Check.same("run of trailing", lisp.run(400), SecdLisp.ERR_NOPROG);
    }

    private static void deepNesting() {
        String open = "(".repeat(31);
        String close = ")".repeat(31);
        answers(open + "1" + close, SecdLisp.OK);
        answers(open + "1" + close + ")", SecdLisp.ERR_SYNTAX);
        answers(open + close, SecdLisp.ERR_SYNTAX);
        answers("(quote " + "(".repeat(30) + ")".repeat(30) + ")", SecdLisp.OK);
        answers("(".repeat(64), SecdLisp.ERR_SYNTAX);
        answers(")".repeat(64), SecdLisp.ERR_SYNTAX);
        answers("(lambda () ".repeat(12) + "1" + ")".repeat(12), SecdLisp.OK);
    }
}
