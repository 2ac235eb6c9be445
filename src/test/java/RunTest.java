/** Promises 7 to 10: run, status, steps and maxDepth, with the evaluation rules. */
final class RunTest {
    public static void main(String[] args) {
        literals();
        arithmetic();
        typeErrors();
        listsAndBranches();
        bindings();
        recursion();
        applications();
        order();
        depth();
        fuelClamp();
        fuelLaw();
        runsAreFresh();
        room();
        Check.end();
    }

    /** Runs with all the fuel there is; due is the value's text, or "error n". */
    private static void gives(int limit, String text, String due, int steps, int maxDepth) {
        SecdLisp lisp = Check.compiled(limit, text);
        int answered = lisp.run(400);
        String got = answered == SecdLisp.OK ? Check.show(lisp) : "error " + answered;
        Check.same("run of " + text, got, due);
        Check.same("status of " + text, lisp.status(), answered);
        Check.same("steps of " + text, lisp.steps(), steps);
        Check.same("maxDepth of " + text, lisp.maxDepth(), maxDepth);
        if (answered != SecdLisp.OK) {
            Check.noValue("error of " + text, lisp);
        }
    }

    private static void literals() {
        gives(1, "5", "5", 1, 0);
        gives(1, "-2147483648", "-2147483648", 1, 0);
        gives(1, "nil", "nil", 1, 0);
        gives(1, "(quote 5)", "5", 1, 0);
        gives(1, "(quote nil)", "nil", 1, 0);
        gives(1, "(quote ())", "nil", 1, 0);
        gives(1, "(quote (()))", "[nil . nil]", 1, 0);
        gives(1, "(quote (1))", "[1 . nil]", 1, 0);
        gives(1, "(quote (1 (2 nil) () 3))", "[1 . [[2 . [nil . nil]] . [nil . [3 . nil]]]]", 1, 0);
        gives(1, "(quote ((1 2) (3)))", "[[1 . [2 . nil]] . [[3 . nil] . nil]]", 1, 0);
        gives(1, "(cons (quote (1)) (quote (2)))", "[[1 . nil] . [2 . nil]]", 3, 0);
        gives(1, "(lambda () (car 1))", "fn0@0", 1, 0);
        gives(1, "(lambda (a b c d) a)", "fn4@0", 1, 0);
    }

    private static void arithmetic() {
        gives(1, "(add 2 3)", "5", 3, 0);
        gives(1, "(add 2147483647 1)", "-2147483648", 3, 0);
        gives(1, "(sub 2 3)", "-1", 3, 0);
        gives(1, "(sub -2147483648 1)", "2147483647", 3, 0);
        gives(1, "(mul 6 -7)", "-42", 3, 0);
        gives(1, "(mul 65536 65536)", "0", 3, 0);
        gives(1, "(mul 65537 65537)", "131073", 3, 0);
        gives(1, "(div 7 2)", "3", 3, 0);
        gives(1, "(div -7 2)", "-3", 3, 0);
        gives(1, "(div 7 -2)", "-3", 3, 0);
        gives(1, "(div -7 -2)", "3", 3, 0);
        gives(1, "(div 0 5)", "0", 3, 0);
        gives(1, "(div -2147483648 -1)", "-2147483648", 3, 0);
        gives(1, "(div 1 0)", "error 7", 3, 0);
        gives(1, "(div 0 0)", "error 7", 3, 0);
        gives(1, "(eq 4 4)", "1", 3, 0);
        gives(1, "(eq 4 5)", "0", 3, 0);
        gives(1, "(eq -2147483648 2147483647)", "0", 3, 0);
        gives(1, "(lt 4 5)", "1", 3, 0);
        gives(1, "(lt 5 5)", "0", 3, 0);
        gives(1, "(lt 6 5)", "0", 3, 0);
        gives(1, "(lt -2147483648 2147483647)", "1", 3, 0);
        gives(1, "(lt 2147483647 -2147483648)", "0", 3, 0);
        gives(1, "(add (mul 2 3) (sub 9 4))", "11", 7, 0);
    }

    private static void typeErrors() {
        String[] operators = {"add", "sub", "mul", "div", "eq", "lt"};
        String[] others = {"nil", "(quote (1))", "(lambda () 1)"};
        for (String operator : operators) {
            for (String other : others) {
                gives(1, "(" + operator + " " + other + " 1)", "error 6", 3, 0);
                gives(1, "(" + operator + " 1 " + other + ")", "error 6", 3, 0);
                gives(1, "(" + operator + " " + other + " 0)", "error 6", 3, 0);
                gives(1, "(" + operator + " " + other + " " + other + ")", "error 6", 3, 0);
            }
            gives(1, "(" + operator + " nil (div 1 0))", "error 7", 5, 0);
            gives(1, "(" + operator + " nil (1))", "error 8", 4, 0);
            gives(1, "(" + operator + " (1) (div 1 0))", "error 8", 3, 0);
        }
        String[] parts = {"car", "cdr"};
        for (String part : parts) {
            gives(1, "(" + part + " 1)", "error 6", 2, 0);
            gives(1, "(" + part + " nil)", "error 6", 2, 0);
            gives(1, "(" + part + " (lambda () 1))", "error 6", 2, 0);
        }
        gives(1, "(if nil 1 2)", "error 6", 2, 0);
        gives(1, "(if (quote (1)) 1 2)", "error 6", 2, 0);
        gives(1, "(if (lambda () 1) 1 2)", "error 6", 2, 0);
    }

    private static void listsAndBranches() {
        gives(1, "(cons 1 2)", "[1 . 2]", 3, 0);
        gives(1, "(cons nil (lambda (a) a))", "[nil . fn1@3]", 3, 0);
        gives(1, "(car (cons 1 2))", "1", 4, 0);
        gives(1, "(cdr (cons 1 2))", "2", 4, 0);
        gives(1, "(car (cdr (quote (1 2 3))))", "2", 3, 0);
        gives(1, "(cdr (quote (1)))", "nil", 2, 0);
        gives(1, "(cons (div 1 0) (car 1))", "error 7", 4, 0);
        gives(1, "(null nil)", "1", 2, 0);
        gives(1, "(null (quote ()))", "1", 2, 0);
        gives(1, "(null 0)", "0", 2, 0);
        gives(1, "(null (cons nil nil))", "0", 4, 0);
        gives(1, "(null (lambda () nil))", "0", 2, 0);
        gives(1, "(if 1 2 3)", "2", 3, 0);
        gives(1, "(if -1 2 3)", "2", 3, 0);
        gives(1, "(if 0 2 3)", "3", 3, 0);
        gives(1, "(if 1 2 (car 1))", "2", 3, 0);
        gives(1, "(if 0 (car 1) (cons 2 3))", "[2 . 3]", 5, 0);
    }

    private static void bindings() {
        gives(1, "(let ((a 1)) a)", "1", 3, 0);
        gives(1, "(let ((a 1) (b 2) (c 3) (d 4)) (cons a (cons b (cons c d))))",
            "[1 . [2 . [3 . 4]]]", 12, 0);
        gives(1, "(let ((a 1)) (let ((a 2) (b a)) (cons a b)))", "[2 . 1]", 8, 0);
        gives(1, "(let ((a 1)) (cons (let ((a 2)) a) a))", "[2 . 1]", 7, 0);
        gives(1, "(let ((a (car 1)) (b (div 1 0))) 1)", "error 6", 3, 0);
        gives(1, "(let ((a 1) (b (div 1 0))) 1)", "error 7", 5, 0);
        gives(3, "(let ((a 1)) (let ((f (lambda () a))) (let ((a 2)) (f))))", "1", 9, 1);
        gives(1, "(letrec ((f (lambda () 1)) (g (lambda (a) 2))) (cons f g))", "[fn0@5 . fn1@14]", 6, 0);
        gives(2, "(letrec ((f (lambda () 1)) (g (lambda () (f)))) (g))", "1", 8, 2);
        gives(2, "(letrec ((f (lambda () (g))) (g (lambda () 1))) (f))", "1", 8, 2);
        gives(1, "(let ((f 9)) (letrec ((f (lambda () f))) (f)))", "fn0@13", 7, 1);
        gives(1, "(let ((f (lambda () 9))) (let ((f (lambda () (f)))) (f)))", "error 5", 8, 1);
        gives(2, "(let ((f (lambda () 9))) (let ((f (lambda () (f)))) (f)))", "9", 9, 2);
        gives(1, "(letrec ((f (lambda (f) f))) (f 3))", "3", 6, 1);
        gives(4, "(letrec ((a (lambda () (d))) (b (lambda () (a))) (c (lambda () (b))) (d (lambda () a))) (c))",
            "fn0@5", 14, 4);
    }

    private static void recursion() {
        String sum = "(letrec ((f (lambda (n) (if n (add n (f (sub n 1))) 0)))) (f %d))";
        gives(32, String.format(sum, 0), "0", 8, 1);
        gives(32, String.format(sum, 10), "55", 98, 11);
        gives(32, String.format(sum, 31), "496", 287, 32);
        gives(32, String.format(sum, 32), "error 5", 293, 32);
        gives(1, String.format(sum, 1), "error 5", 14, 1);
        gives(32, "(letrec ((e (lambda (n) (if n (o (sub n 1)) 1))) (o (lambda (n) (if n (e (sub n 1)) 0))))"
            + " (e 7))", "0", 58, 8);
    }

    private static void applications() {
        gives(1, "((lambda () 7))", "7", 3, 1);
        gives(1, "((lambda (a b c d) (cons a (cons b (cons c d)))) 1 2 3 4)", "[1 . [2 . [3 . 4]]]", 13, 1);
        gives(1, "(1)", "error 8", 2, 0);
        gives(1, "(nil)", "error 8", 2, 0);
        gives(1, "((quote (1)) 2)", "error 8", 3, 0);
        gives(1, "((lambda () 1) 2)", "error 9", 3, 0);
        gives(1, "((lambda (a) 1))", "error 9", 2, 0);
        gives(1, "((lambda (a b c d) 1) 1 2 3)", "error 9", 5, 0);
        gives(1, "((lambda (a b c) 1) 1 2 3 4)", "error 9", 6, 0);
        gives(1, "(((lambda (a) (lambda (b) (sub a b))) 9) 2)", "7", 9, 1);
        gives(2, "((lambda (f) (f f)) (lambda (f) 3))", "3", 7, 2);
        gives(1, "((lambda (a) (lambda () a)) 1)", "fn0@6", 4, 1);
    }

    private static void order() {
        // The operands come before the operator, and left before right.
        gives(1, "((car 1) (div 1 0))", "error 7", 4, 0);
        gives(1, "((div 1 0) 1 (car 1))", "error 6", 4, 0);
        gives(1, "(1 (car 1) (div 1 0))", "error 6", 3, 0);
        // Not a closure, then the wrong count, then too deep.
        gives(1, "((lambda () (1)))", "error 8", 4, 1);
        gives(1, "((lambda () ((lambda (a) 1))))", "error 9", 4, 1);
        gives(1, "((lambda () ((lambda () 1))))", "error 5", 4, 1);
    }

    private static void depth() {
        // The count falls again: sequences are not nesting, nor are let and letrec.
        gives(1, "(cons ((lambda () 1)) ((lambda () 2)))", "[1 . 2]", 7, 1);
        gives(2, "((lambda (a) ((lambda (b) (add a b)) 2)) ((lambda () 1)))", "3", 11, 2);
        gives(1, "((lambda (a) a) ((lambda (a) a) ((lambda (a) a) 5)))", "5", 10, 1);
        gives(1, "(let ((a 1)) (let ((b 2)) (letrec ((f (lambda () b))) (f))))", "2", 9, 1);
        gives(3, "(cons ((lambda () ((lambda () 1)))) ((lambda () 2)))", "[1 . 2]", 9, 2);
        gives(1, "(let ((f (lambda () 1))) (cons (f) (cons (f) (f))))", "[1 . [1 . 1]]", 13, 1);
    }

    private static void fuelClamp() {
        int[] low = {Integer.MIN_VALUE, -400, -1, 0, 1};
        for (int fuel : low) {
            SecdLisp lisp = Check.compiled(1, "(null nil)");
            Check.same("run(" + fuel + ")", lisp.run(fuel), SecdLisp.ERR_FUEL);
            Check.same("steps", lisp.steps(), 1);
            Check.noValue("run(" + fuel + ")", lisp);
            lisp = Check.compiled(1, "7");
            Check.same("run(" + fuel + ") of 7", lisp.run(fuel), SecdLisp.OK);
            Check.same("steps", lisp.steps(), 1);
        }
        // The calls double from level to level, so the fuel ends while the depth is still small.
        String wide = "(letrec ((f (lambda (n) (if n (let ((a (f (sub n 1)))) (f (sub n 1))) 0)))) (f 9))";
        int[] high = {399, 400, 401, 1000, Integer.MAX_VALUE};
        int[] due = {399, 400, 400, 400, 400};
        for (int i = 0; i < high.length; i++) {
            SecdLisp lisp = Check.compiled(32, wide);
            Check.same("run(" + high[i] + ")", lisp.run(high[i]), SecdLisp.ERR_FUEL);
            Check.same("steps of run(" + high[i] + ")", lisp.steps(), due[i]);
            Check.same("maxDepth of run(" + high[i] + ")", lisp.maxDepth(), 10);
        }
    }

    private static void fuelLaw() {
        String[] texts = {
            "(letrec ((f (lambda (n) (if n (cons n (f (sub n 1))) (lambda (a) f))))) (f 5))",
            "(letrec ((f (lambda (n) (if n (add n (f (sub n 1))) nil)))) (f 5))",
            "(let ((a (quote (1 2)))) (div (car a) (sub (car (cdr a)) 2)))",
            "(letrec ((f (lambda (n) (f n)))) (f 1))",
        };
        for (String text : texts) {
            SecdLisp lisp = Check.compiled(9, text);
            int answered = lisp.run(400);
            int steps = lisp.steps();
            int deepest = lisp.maxDepth();
            String value = Check.show(lisp);
            for (int fuel = 1; fuel <= 400; fuel++) {
                Check.same("run(" + fuel + ") of " + text, lisp.run(fuel),
                    fuel < steps ? SecdLisp.ERR_FUEL : answered);
                Check.same("steps", lisp.steps(), fuel < steps ? fuel : steps);
                Check.same("value", Check.show(lisp), fuel < steps ? "none" : value);
                if (fuel >= steps) {
                    Check.same("maxDepth", lisp.maxDepth(), deepest);
                }
            }
        }
    }

    private static void runsAreFresh() {
        SecdLisp lisp = Check.compiled(4, "(letrec ((f (lambda (n) (if n (cons n (f (sub n 1))) nil)))) (f 3))");
        for (int i = 0; i < 1000; i++) {
            Check.same("run", lisp.run(400), SecdLisp.OK);
            Check.same("steps", lisp.steps(), 35);
            Check.same("maxDepth", lisp.maxDepth(), 4);
            Check.same("kind", lisp.kind(), SecdLisp.KIND_PAIR);
            lisp.goCdr();
            Check.same("run with little fuel", lisp.run(30), SecdLisp.ERR_FUEL);
            Check.noValue("little fuel", lisp);
        }
        Check.same("run at last", lisp.run(400), SecdLisp.OK);
        Check.same("value at last", Check.show(lisp), "[3 . [2 . [1 . nil]]]");
        Check.same("tokenCount after runs", lisp.tokenCount(), 35);
    }

    /** Programs that use as much room of each sort as 400 steps allow. */
    private static void room() {
        String[] texts = {
            "(letrec ((f (lambda () (let ((a 1) (b 2) (c 3) (d 4)) (let ((a 1) (b 2) (c 3) (d 4)) (f)))))) (f))",
            "(letrec ((f (lambda (a b c d) (let ((e (f 1 2 3 4))) e)))) (f 1 2 3 4))",
            "(letrec ((f (lambda () (add (f) 1)))) (f))",
            "(letrec ((f (lambda (n) (let ((q (quote (1 2 3 4 5 6 7 8 9))) (m (sub n 1))) (if m (cons q (f m)) q)))))"
                + " (f 30))",
            "(letrec ((f (lambda (n) (if n (let ((a (f (sub n 1))) (b (f (sub n 1)))) (cons a b)) nil)))) (f 31))",
            "(letrec ((f (lambda (n) (letrec ((g (lambda () 1)) (h (lambda () 1)) (i (lambda () 1)))"
                + " (if n (f (sub n 1)) g))))) (f 31))",
        };
        for (String text : texts) {
            SecdLisp lisp = Check.compiled(32, text);
            int answered = lisp.run(400);
            boolean expected = answered == SecdLisp.OK || answered == SecdLisp.ERR_FUEL
                || answered == SecdLisp.ERR_DEPTH;
            Check.same("room for " + text + " (" + answered + ")", expected, true);
        }
    }
}
