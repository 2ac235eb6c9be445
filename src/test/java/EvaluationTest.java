/** What runs give by 'Values' and 'Evaluation', sentence by sentence. */
final class EvaluationTest {
    private static final String MIN = "-2147483648";
    private static final String MAX = "2147483647";
    private static final String[] BINARY = {"add", "sub", "mul", "div", "eq", "lt"};
    private static final String[] NOT_INTS = {"nil", "(quote (1))", "(cons 0 0)", "(lambda () 1)"};
    private static final int[] NOT_INT_STEPS = {1, 1, 3, 1};

    private static final String TYPE = "error 6";
    private static final String DIV = "error 7";
    private static final String APPLY = "error 8";
    private static final String ARITY = "error 9";
    private static final String DEPTH = "error 5";

    public static void main(String[] args) {
        valuesOfEachSort();
        arithmeticWraps();

        everyExprIsAStep();
        fuelRule();
        firstErrorStops();
        atoms();
        quotes();
        datumIsNotEvaluated();
        lambdaBodyIsNotEvaluated();
        ifTakesInts();
        ifTakesOneBranch();
        consTakesBothInOrder();
        carAndCdrTakePairs();
        nullTells();
        binaryEvaluatesBoth();
        binaryTakesInts();
        divTypeComesFirst();
        addSubMul();
        divByNothing();
        divTruncates();
        divOverflows();
        eqAndLt();
        letBinds();
        letrecBinds();
        letrecLamsCostFuel();
        argumentsThenOperator();
        notAClosure();
        wrongCount();
        tooDeep();
        errorsOfACallInOrder();
        activeCountRises();
        activeCountFalls();
        closureKeepsItsEnvironment();
        letsAreNoApplications();
        startsFromNothing();
        neverWantsRoom();
        Check.end();
    }

    private static String outcome(SecdLisp lisp, int fuel) {
        int answered = lisp.run(fuel);
        Check.same("status", lisp.status(), answered);
        String end = answered == SecdLisp.OK ? Check.show(lisp) : "error " + answered;
        return end + " steps " + lisp.steps() + " depth " + lisp.maxDepth();
    }

    /** Due is the value's text, or "error n"; just the fuel used must do, and less must not. */
    private static void gives(int limit, String text, String due, int steps, int maxDepth) {
        SecdLisp lisp = Check.compiled(limit, text);
        String whole = due + " steps " + steps + " depth " + maxDepth;
        Check.same("run of " + text, outcome(lisp, 400), whole);
        Check.same("run with just the fuel of " + text, outcome(lisp, steps), whole);
        if (steps > 1) {
            Check.same("run with less fuel of " + text, lisp.run(steps - 1), SecdLisp.ERR_FUEL);
            Check.same("steps with less fuel of " + text, lisp.steps(), steps - 1);
        }
    }

    private static void gives(String text, String due, int steps) {
        gives(1, text, due, steps, 0);
    }

    // ---- values ----

    private static void valuesOfEachSort() {
        Check.sentence("Values", "A value is a 32-bit int; nil; a pair of two values; or a closure"
            + " (a lambda form together with the environment in which it was evaluated).");
        String[] exprs = {MIN, MAX, "nil", "(quote (0))", "(lambda (x) x)"};
        String[] shown = {MIN, MAX, "nil", "[0 . nil]", "fn1@"};
        int[] sizes = {1, 1, 1, 6, 7};
        for (int i = 0; i < exprs.length; i++) {
            for (int j = 0; j < exprs.length; j++) {
                String first = shown[i].equals("fn1@") ? "fn1@2" : shown[i];
                String second = shown[j].equals("fn1@") ? "fn1@" + (2 + sizes[i]) : shown[j];
                gives("(cons " + exprs[i] + " " + exprs[j] + ")", "[" + first + " . " + second + "]", 3);
            }
            String bound = shown[i].equals("fn1@") ? "fn1@5" : shown[i];
            gives("(let ((a " + exprs[i] + ")) a)", bound, 3);
        }
        // A closure has the environment of its making with it wherever it goes.
        gives(1, "(let ((p (let ((a 4)) (cons (lambda () a) nil)))) (let ((a 5)) ((car p))))", "4", 12, 1);
    }

    private static void arithmeticWraps() {
        Check.sentence("Values", "Arithmetic wraps as 32-bit two's complement, as Java int arithmetic does.");
        gives("(add " + MAX + " 1)", MIN, 3);
        gives("(add " + MAX + " " + MAX + ")", "-2", 3);
        gives("(add " + MIN + " -1)", MAX, 3);
        gives("(add " + MIN + " " + MIN + ")", "0", 3);
        gives("(sub " + MIN + " 1)", MAX, 3);
        gives("(sub " + MAX + " -1)", MIN, 3);
        gives("(sub 0 " + MIN + ")", MIN, 3);
        gives("(sub " + MAX + " " + MIN + ")", "-1", 3);
        gives("(mul 65536 65536)", "0", 3);
        gives("(mul 65537 65537)", "131073", 3);
        gives("(mul " + MAX + " 2)", "-2", 3);
        gives("(mul " + MAX + " " + MAX + ")", "1", 3);
        gives("(mul " + MIN + " -1)", MIN, 3);
        gives("(mul " + MIN + " 2)", "0", 3);
        gives("(mul 46341 46341)", "-2147479015", 3);
        gives("(add (add " + MAX + " 1) -1)", MAX, 5);
    }

    // ---- evaluation ----

    private static void everyExprIsAStep() {
        Check.sentence("Evaluation",
            "Each time any expr is evaluated (every subexpression, each time), first the fuel rule applies");
        // Each form takes one step for itself and those of the exprs in it that are evaluated.
        gives("1", "1", 1);
        gives("nil", "nil", 1);
        gives("(quote (1 2))", "[1 . [2 . nil]]", 1);
        gives("(lambda (a) a)", "fn1@0", 1);
        gives("(let ((a 1)) 2)", "2", 3);
        gives("(let ((a 1) (b 2) (c 3) (d 4)) 5)", "5", 6);
        gives("(letrec ((f (lambda () 1))) 2)", "2", 3);
        gives("(if 1 2 3)", "2", 3);
        gives("(if 0 2 3)", "3", 3);
        gives("(cons 1 2)", "[1 . 2]", 3);
        gives("(car (quote (1)))", "1", 2);
        gives("(cdr (quote (1)))", "nil", 2);
        gives("(null 1)", "0", 2);
        String[] ofOnes = {"2", "0", "1", "1", "1", "0"};
        for (int i = 0; i < BINARY.length; i++) {
            gives("(" + BINARY[i] + " 1 1)", ofOnes[i], 3);
        }
        gives(1, "((lambda () 1))", "1", 3, 1);
        gives(1, "((lambda (a) a) 1)", "1", 4, 1);
        gives(1, "((lambda (a b c d) a) 1 2 3 4)", "1", 7, 1);
        // A SYM in use is an expr, the name in a bind is not; a body is evaluated at each call.
        gives("(let ((a 1)) (add a a))", "2", 5);
        gives(1, "(let ((f (lambda () (add 1 1)))) (add (f) (f)))", "4", 13, 1);
    }

    private static void fuelRule() {
        Check.sentence("Evaluation", "if the run's step counter equals the fuel, the run stops at once with"
            + " ERR_FUEL; otherwise the counter goes up by one.");
        // A chain of n exprs takes n steps: n is enough, n - 1 is not.
        for (int length = 1; length <= 21; length++) {
            String chain = "(null ".repeat(length) + "1" + ")".repeat(length);
            SecdLisp lisp = Check.compiled(1, chain);
            for (int fuel = 1; fuel <= 25; fuel++) {
                boolean enough = fuel >= length + 1;
                Check.same("run(" + fuel + ") of " + chain, lisp.run(fuel),
                    enough ? SecdLisp.OK : SecdLisp.ERR_FUEL);
                Check.same("steps", lisp.steps(), enough ? length + 1 : fuel);
            }
        }
        // Want of fuel is met before the expr that wants it is looked at, an error only in its turn.
        SecdLisp lisp = Check.compiled(1, "(add (car 1) (div 1 0))");
        int[] due = {SecdLisp.ERR_FUEL, SecdLisp.ERR_FUEL, SecdLisp.ERR_TYPE, SecdLisp.ERR_TYPE};
        for (int fuel = 1; fuel <= due.length; fuel++) {
            Check.same("run(" + fuel + ")", lisp.run(fuel), due[fuel - 1]);
        }
        // The same expr costs a step each time it is evaluated.
        gives(1, "(let ((f (lambda () 1))) (cons (f) (cons (f) (f))))", "[1 . [1 . 1]]", 13, 1);
    }

    private static void firstErrorStops() {
        Check.sentence("Evaluation", "the first error stops the whole run and no value is produced");
        String[] texts = {"(car 1)", "(div 1 0)", "(1)", "((lambda () 1) 2)", "(if nil 1 2)", "(add nil 1)"};
        String[] due = {TYPE, DIV, APPLY, ARITY, TYPE, TYPE};
        int[] steps = {2, 3, 2, 3, 2, 3};
        for (int i = 0; i < texts.length; i++) {
            for (int j = 0; j < texts.length; j++) {
                gives("(cons " + texts[i] + " " + texts[j] + ")", due[i], 1 + steps[i]);
                gives("(let ((a " + texts[i] + ") (b " + texts[j] + ")) 1)", due[i], 1 + steps[i]);
                gives("(1 " + texts[i] + " " + texts[j] + ")", due[i], 1 + steps[i]);
                gives("(if " + texts[i] + " " + texts[j] + " 1)", due[i], 1 + steps[i]);
            }
            SecdLisp lisp = Check.compiled(1, "(cons 1 " + texts[i] + ")");
            lisp.run(400);
            Check.noValue("error of " + texts[i], lisp);
        }
    }

    private static void atoms() {
        Check.sentence("Evaluation", "NUM: the int. NIL: nil. SYM: its value in env.");
        for (String number : new String[] {"0", "1", "-1", "7", MIN, MAX}) {
            gives(number, number, 1);
            gives("(let ((a " + number + ")) a)", number, 3);
        }
        gives("nil", "nil", 1);
        gives("(let ((a nil)) a)", "nil", 3);
        gives("(let ((a (cons 1 2))) a)", "[1 . 2]", 5);
        gives("(let ((a (lambda (b) b))) a)", "fn1@5", 3);
        for (int i = 0; i < 4; i++) {
            char name = (char) ('a' + i);
            gives("(let ((a 0) (b 1) (c 2) (d 3)) " + name + ")", "" + i, 6);
            gives(1, "((lambda (a b c d) " + name + ") 0 1 2 3)", "" + i, 7, 1);
        }
    }

    private static void quotes() {
        Check.sentence("Evaluation", "(quote d): d as a value: a NUM is its int, NIL or () is nil, a list"
            + " (d1 .. dn) is the pairs d1 . (d2 . ( .. (dn . nil))).");
        gives("(quote 5)", "5", 1);
        gives("(quote " + MIN + ")", MIN, 1);
        gives("(quote nil)", "nil", 1);
        gives("(quote ())", "nil", 1);
        gives("(quote (1))", "[1 . nil]", 1);
        gives("(quote (nil))", "[nil . nil]", 1);
        gives("(quote (()))", "[nil . nil]", 1);
        gives("(quote (1 2))", "[1 . [2 . nil]]", 1);
        gives("(quote (1 (2 nil) () 3))", "[1 . [[2 . [nil . nil]] . [nil . [3 . nil]]]]", 1);
        gives("(quote ((1 2) (3)))", "[[1 . [2 . nil]] . [[3 . nil] . nil]]", 1);
        gives("(cons (quote (1)) (quote (2)))", "[[1 . nil] . [2 . nil]]", 3);
        // The longest list and the deepest datum that 64 tokens hold.
        StringBuilder list = new StringBuilder();
        for (int i = 1; i <= 59; i++) {
            list.append("[").append(i).append(" . ");
        }
        StringBuilder numbers = new StringBuilder();
        for (int i = 1; i <= 59; i++) {
            numbers.append(i).append(' ');
        }
        gives("(quote (" + numbers + "))", list + "nil" + "]".repeat(59), 1);
        gives("(quote " + "(".repeat(30) + "8" + ")".repeat(30) + ")",
            "[".repeat(30) + "8" + " . nil]".repeat(30), 1);
    }

    private static void datumIsNotEvaluated() {
        Check.sentence("Evaluation", "The datum is not itself evaluated as an expr.");
        gives("(quote (1 2 3 4 5 6 7))", "[1 . [2 . [3 . [4 . [5 . [6 . [7 . nil]]]]]]]", 1);
        gives("(quote (1 (2) 3))", "[1 . [[2 . nil] . [3 . nil]]]", 1);
        gives("(car (quote ((1))))", "[1 . nil]", 2);
    }

    private static void lambdaBodyIsNotEvaluated() {
        Check.sentence("Evaluation", "(lambda ..): a closure of this form and env; the body is not evaluated.");
        gives("(lambda () (car 1))", "fn0@0", 1);
        gives("(lambda (a b c d) (a (div 1 0)))", "fn4@0", 1);
        gives("(cons (lambda () (1)) (lambda (a) (div 1 0)))", "[fn0@2 . fn1@10]", 3);
    }

    private static void ifTakesInts() {
        Check.sentence("Evaluation", "(if a b c): evaluate a; if it is not an int: ERR_TYPE");
        for (int i = 0; i < NOT_INTS.length; i++) {
            gives("(if " + NOT_INTS[i] + " 1 2)", TYPE, 1 + NOT_INT_STEPS[i]);
            gives("(if " + NOT_INTS[i] + " (div 1 0) (1))", TYPE, 1 + NOT_INT_STEPS[i]);
        }
    }

    private static void ifTakesOneBranch() {
        Check.sentence("Evaluation", "if nonzero, the value of b; if 0, the value of c.");
        for (String number : new String[] {"1", "-1", "2", "65536", MIN, MAX}) {
            gives("(if " + number + " 7 8)", "7", 3);
            gives("(if " + number + " 7 (car 1))", "7", 3);
        }
        gives("(if 0 7 8)", "8", 3);
        gives("(if 0 (car 1) 8)", "8", 3);
        gives("(if (null 1) 7 8)", "8", 4);
        gives("(if (null nil) 7 8)", "7", 4);
        gives("(if 1 nil (1))", "nil", 3);
        gives("(if 0 (1) (cons 2 3))", "[2 . 3]", 5);
        gives("(if (if 0 1 0) (if 1 2 3) (if 0 4 5))", "5", 7);
        gives("(if 1 (div 1 0) 8)", DIV, 5);
    }

    private static void consTakesBothInOrder() {
        Check.sentence("Evaluation", "(cons a b): a then b; the pair of their values.");
        gives("(cons 1 2)", "[1 . 2]", 3);
        gives("(cons nil nil)", "[nil . nil]", 3);
        gives("(cons (cons 1 2) (cons 3 4))", "[[1 . 2] . [3 . 4]]", 7);
        gives("(cons nil (lambda (a) a))", "[nil . fn1@3]", 3);
        gives("(let ((a (cons 1 2))) (cons a a))", "[[1 . 2] . [1 . 2]]", 7);
        gives("(cons (div 1 0) (car 1))", DIV, 4);
        gives("(cons (car 1) (div 1 0))", TYPE, 3);
        gives("(cons 1 (div 1 0))", DIV, 5);
    }

    private static void carAndCdrTakePairs() {
        Check.sentence("Evaluation",
            "(car a), (cdr a): evaluate a; not a pair: ERR_TYPE; otherwise its first / second part.");
        for (String part : new String[] {"car", "cdr"}) {
            gives("(" + part + " 1)", TYPE, 2);
            gives("(" + part + " 0)", TYPE, 2);
            gives("(" + part + " nil)", TYPE, 2);
            gives("(" + part + " (quote ()))", TYPE, 2);
            gives("(" + part + " (lambda () 1))", TYPE, 2);
            gives("(" + part + " (div 1 0))", DIV, 4);
        }
        gives("(car (cons 1 2))", "1", 4);
        gives("(cdr (cons 1 2))", "2", 4);
        gives("(car (quote (1)))", "1", 2);
        gives("(cdr (quote (1)))", "nil", 2);
        gives("(cdr (cdr (quote (1))))", TYPE, 3);
        gives("(car (cdr (quote (1 2 3))))", "2", 3);
        gives("(cdr (car (quote ((1 2) 3))))", "[2 . nil]", 3);
    }

    private static void nullTells() {
        Check.sentence("Evaluation", "(null a): evaluate a; 1 if it is nil, otherwise 0.");
        gives("(null nil)", "1", 2);
        gives("(null (quote ()))", "1", 2);
        gives("(null (quote nil))", "1", 2);
        gives("(null (cdr (quote (1))))", "1", 3);
        gives("(null 0)", "0", 2);
        gives("(null 1)", "0", 2);
        gives("(null (quote (nil)))", "0", 2);
        gives("(null (cons nil nil))", "0", 4);
        gives("(null (lambda () nil))", "0", 2);
        gives("(null (null nil))", "0", 3);
        gives("(null (car 1))", TYPE, 3);
    }

    private static void binaryEvaluatesBoth() {
        Check.sentence("Evaluation", "(add a b) and the other binary operators: evaluate a, then evaluate b"
            + " (b is evaluated even if a's value is not an int)");
        for (String head : BINARY) {
            for (int i = 0; i < NOT_INTS.length; i++) {
                gives("(" + head + " " + NOT_INTS[i] + " (div 1 0))", DIV, 4 + NOT_INT_STEPS[i]);
                gives("(" + head + " " + NOT_INTS[i] + " (1))", APPLY, 3 + NOT_INT_STEPS[i]);
                gives("(" + head + " (1) " + NOT_INTS[i] + ")", APPLY, 3);
            }
            gives("(" + head + " (1) (div 1 0))", APPLY, 3);
            gives("(" + head + " (div 1 0) (1))", DIV, 4);
        }
    }

    private static void binaryTakesInts() {
        Check.sentence("Evaluation", "only then, if either value is not an int: ERR_TYPE");
        for (String head : BINARY) {
            for (int i = 0; i < NOT_INTS.length; i++) {
                gives("(" + head + " " + NOT_INTS[i] + " 1)", TYPE, 2 + NOT_INT_STEPS[i]);
                gives("(" + head + " 1 " + NOT_INTS[i] + ")", TYPE, 2 + NOT_INT_STEPS[i]);
                for (int j = 0; j < NOT_INTS.length; j++) {
                    gives("(" + head + " " + NOT_INTS[i] + " " + NOT_INTS[j] + ")", TYPE,
                        1 + NOT_INT_STEPS[i] + NOT_INT_STEPS[j]);
                }
            }
        }
    }

    private static void divTypeComesFirst() {
        Check.sentence("Evaluation", "(for DIV this test comes before the b = 0 test)");
        for (int i = 0; i < NOT_INTS.length; i++) {
            gives("(div " + NOT_INTS[i] + " 0)", TYPE, 2 + NOT_INT_STEPS[i]);
            gives("(div 0 " + NOT_INTS[i] + ")", TYPE, 2 + NOT_INT_STEPS[i]);
        }
    }

    private static void addSubMul() {
        Check.sentence("Evaluation", "ADD gives a+b, SUB a-b, MUL a*b, all wrapping.");
        gives("(add 2 3)", "5", 3);
        gives("(add -2 -3)", "-5", 3);
        gives("(add " + MIN + " " + MAX + ")", "-1", 3);
        gives("(sub 2 3)", "-1", 3);
        gives("(sub 3 2)", "1", 3);
        gives("(sub " + MIN + " " + MIN + ")", "0", 3);
        gives("(mul 6 -7)", "-42", 3);
        gives("(mul 0 " + MIN + ")", "0", 3);
        gives("(mul 1 " + MIN + ")", MIN, 3);
        gives("(add (mul 2 3) (sub 9 4))", "11", 7);
        gives("(add " + MAX + " 2)", "-2147483647", 3);
        gives("(sub " + MIN + " 2)", "2147483646", 3);
        gives("(mul " + MIN + " " + MIN + ")", "0", 3);
    }

    private static void divByNothing() {
        Check.sentence("Evaluation", "DIV: b = 0 gives ERR_DIV");
        for (String number : new String[] {"0", "1", "-1", MIN, MAX}) {
            gives("(div " + number + " 0)", DIV, 3);
            gives("(div " + number + " (sub 5 5))", DIV, 5);
        }
    }

    private static void divTruncates() {
        Check.sentence("Evaluation", "otherwise a/b truncated toward zero");
        gives("(div 7 2)", "3", 3);
        gives("(div -7 2)", "-3", 3);
        gives("(div 7 -2)", "-3", 3);
        gives("(div -7 -2)", "3", 3);
        gives("(div 1 2)", "0", 3);
        gives("(div -1 2)", "0", 3);
        gives("(div 1 -2)", "0", 3);
        gives("(div 0 5)", "0", 3);
        gives("(div 6 3)", "2", 3);
        gives("(div -6 3)", "-2", 3);
        gives("(div " + MIN + " 1)", MIN, 3);
        gives("(div " + MIN + " 2)", "-1073741824", 3);
        gives("(div " + MIN + " " + MIN + ")", "1", 3);
        gives("(div " + MIN + " " + MAX + ")", "-1", 3);
        gives("(div " + MAX + " " + MIN + ")", "0", 3);
        gives("(div " + MAX + " -1)", "-2147483647", 3);
        gives("(div 1 " + MIN + ")", "0", 3);
    }

    private static void divOverflows() {
        Check.sentence("Evaluation", "with Integer.MIN_VALUE / -1 = Integer.MIN_VALUE");
        gives("(div " + MIN + " -1)", MIN, 3);
        gives("(div -2147483647 -1)", MAX, 3);
    }

    private static void eqAndLt() {
        Check.sentence("Evaluation", "EQ: 1 if a = b, else 0. LT: 1 if a < b, else 0.");
        long[] numbers = {Integer.MIN_VALUE, Integer.MIN_VALUE + 1, -1, 0, 1, 127, 128, 65536, Integer.MAX_VALUE};
        for (long a : numbers) {
            for (long b : numbers) {
                gives("(eq " + a + " " + b + ")", a == b ? "1" : "0", 3);
                gives("(lt " + a + " " + b + ")", a < b ? "1" : "0", 3);
            }
        }
    }

    private static void letBinds() {
        Check.sentence("Evaluation", "(let ((x1 e1) .. (xn en)) b): e1..en left to right in env; then b in env"
            + " extended by x1..xn bound to those values.");
        gives("(let ((a 1)) a)", "1", 3);
        gives("(let ((a 1) (b 2) (c 3) (d 4)) (cons a (cons b (cons c d))))", "[1 . [2 . [3 . 4]]]", 12);
        gives("(let ((a 1)) (let ((a 2) (b a)) (cons a b)))", "[2 . 1]", 8);
        gives("(let ((a 1)) (cons (let ((a 2)) a) a))", "[2 . 1]", 7);
        gives("(let ((a 1) (b 2)) (let ((a b) (b a)) (cons a b)))", "[2 . 1]", 9);
        gives("(let ((a (car 1)) (b (div 1 0))) 1)", TYPE, 3);
        gives("(let ((a 1) (b (div 1 0)) (c (car 1))) 1)", DIV, 5);
        gives("(let ((a 1) (b 2) (c 3) (d (car 1))) (div 1 0))", TYPE, 6);
        gives("(let ((a 1)) (div a 0))", DIV, 5);
    }

    private static void letrecBinds() {
        Check.sentence("Evaluation", "env2 is env extended by f1..fn; l1..ln are evaluated left to right in"
            + " env2 (each is evaluated as any expr, under the fuel rule, and makes a closure over env2),"
            + " fi is bound to the value of li; then b in env2.");
        gives("(letrec ((f (lambda () 1)) (g (lambda (a) 2))) (cons f g))", "[fn0@5 . fn1@14]", 6);
        gives("(letrec ((a (lambda () 1)) (b (lambda (x) 1)) (c (lambda (x y) 1)) (d (lambda (x y z) 1)))"
            + " (cons a (cons b (cons c d))))", "[fn0@5 . [fn1@14 . [fn2@24 . fn3@35]]]", 12);
        gives(2, "(letrec ((f (lambda () 1)) (g (lambda () (f)))) (g))", "1", 8, 2);
        gives(2, "(letrec ((f (lambda () (g))) (g (lambda () 1))) (f))", "1", 8, 2);
        gives(1, "(let ((f 9)) (letrec ((f (lambda () f))) (f)))", "fn0@13", 7, 1);
        gives(4, "(letrec ((a (lambda () (d))) (b (lambda () (a))) (c (lambda () (b))) (d (lambda () a))) (c))",
            "fn0@5", 14, 4);
        // A let is no letrec: the lambda sees the outer name.
        gives(2, "(let ((f (lambda () 9))) (let ((f (lambda () (f)))) (f)))", "9", 9, 2);
        // The closures of one letrec share its environment, and the one that was there before it.
        gives(2, "(let ((n 7)) (letrec ((f (lambda () (g n))) (g (lambda (m) (sub m n)))) (f)))", "0", 13, 2);
    }

    private static void letrecLamsCostFuel() {
        Check.sentence("Evaluation", "each is evaluated as any expr, under the fuel rule");
        for (int count = 1; count <= 4; count++) {
            StringBuilder binds = new StringBuilder();
            for (int i = 0; i < count; i++) {
                binds.append('(').append((char) ('a' + i)).append(" (lambda () 1))");
            }
            gives("(letrec (" + binds + ") 5)", "5", count + 2);
            SecdLisp lisp = Check.compiled(1, "(letrec (" + binds + ") 5)");
            for (int fuel = 1; fuel <= count + 1; fuel++) {
                Check.same("run(" + fuel + ") of a letrec of " + count, lisp.run(fuel), SecdLisp.ERR_FUEL);
                Check.same("steps", lisp.steps(), fuel);
            }
        }
    }

    private static void argumentsThenOperator() {
        Check.sentence("Evaluation", "(e0 e1 .. ek): e1..ek left to right, then e0.");
        gives("((car 1) (div 1 0))", DIV, 4);
        gives("((div 1 0) (car 1))", TYPE, 3);
        gives("((div 1 0) 1 (car 1))", TYPE, 4);
        gives("(1 (car 1) (div 1 0))", TYPE, 3);
        gives("(1 1 2 3 (car 1))", TYPE, 6);
        gives("((car 1) 1 2 3 4)", TYPE, 7);
        gives("((car 1))", TYPE, 3);
        for (int count = 0; count <= 4; count++) {
            gives("((div 1 0)" + " 1".repeat(count) + ")", DIV, 4 + count);
        }
        gives(1, "((lambda (a b c d) (cons a (cons b (cons c d)))) 1 2 3 4)", "[1 . [2 . [3 . 4]]]", 13, 1);
    }

    private static void notAClosure() {
        Check.sentence("Evaluation", "if the value of e0 is not a closure: ERR_APPLY");
        for (int count = 0; count <= 4; count++) {
            gives("(1" + " 2".repeat(count) + ")", APPLY, 2 + count);
            gives("(0" + " 2".repeat(count) + ")", APPLY, 2 + count);
            gives("(nil" + " 2".repeat(count) + ")", APPLY, 2 + count);
            gives("((quote (1 2))" + " 2".repeat(count) + ")", APPLY, 2 + count);
            gives("((cons (lambda () 1) 2)" + " 2".repeat(count) + ")", APPLY, 4 + count);
        }
        gives("((quote 5) 1)", APPLY, 3);
        gives(2, "((lambda (a) (a)) 1)", APPLY, 5, 1);
    }

    private static void wrongCount() {
        Check.sentence("Evaluation", "if its parameter count is not k: ERR_ARITY");
        String names = "abcd";
        for (int parameters = 0; parameters <= 4; parameters++) {
            String list = String.join(" ", names.substring(0, parameters).split(""));
            for (int arguments = 0; arguments <= 4; arguments++) {
                String text = "((lambda (" + list + ") 7)" + " 1".repeat(arguments) + ")";
                if (parameters == arguments) {
                    gives(1, text, "7", 3 + arguments, 1);
                } else {
                    gives(1, text, ARITY, 2 + arguments, 0);
                }
            }
        }
    }

    private static void tooDeep() {
        Check.sentence("Evaluation", "if the count of active applications equals depthLimit(): ERR_DEPTH");
        // f calls itself n times more: n + 1 applications are active at once.
        String down = "(letrec ((f (lambda (n) (if n (f (sub n 1)) 7)))) (f %d))";
        for (int limit = 1; limit <= 32; limit++) {
            gives(limit, String.format(down, limit - 1), "7", 8 + 7 * (limit - 1), limit);
            gives(limit, String.format(down, limit), DEPTH, 5 + 7 * limit, limit);
        }
        gives(1, "((lambda () ((lambda () 1))))", DEPTH, 4, 1);
        gives(2, "((lambda () ((lambda () 1))))", "1", 5, 2);
        String sum = "(letrec ((f (lambda (n) (if n (add n (f (sub n 1))) 0)))) (f %d))";
        gives(32, String.format(sum, 31), "496", 287, 32);
        gives(32, String.format(sum, 32), DEPTH, 293, 32);
    }

    private static void errorsOfACallInOrder() {
        Check.sentence("Evaluation", "Then, in this order: if the value of e0 is not a closure: ERR_APPLY;"
            + " if its parameter count is not k: ERR_ARITY; if the count of active applications equals"
            + " depthLimit(): ERR_DEPTH.");
        gives(1, "((lambda () (1)))", APPLY, 4, 1);
        gives(1, "((lambda () (1 2)))", APPLY, 5, 1);
        gives(1, "((lambda () ((lambda (a) 1))))", ARITY, 4, 1);
        gives(1, "((lambda () ((lambda () 1) 2)))", ARITY, 5, 1);
        gives(1, "((lambda () ((lambda () 1))))", DEPTH, 4, 1);
        gives(1, "((lambda () ((lambda (a) a) 2)))", DEPTH, 5, 1);
        // All of them come after the arguments and the operator.
        gives(1, "((lambda () (1 (car 1))))", TYPE, 5, 1);
        gives(1, "((lambda () ((lambda () 1) (car 1))))", TYPE, 5, 1);
        gives(1, "((lambda () ((lambda (a) a) (car 1))))", TYPE, 5, 1);
    }

    private static void activeCountRises() {
        Check.sentence("Evaluation",
            "Otherwise the active count rises by one (maxDepth is the greatest value it reaches)");
        for (int calls = 1; calls <= 9; calls++) {
            String nested = "((lambda () ".repeat(calls) + "1" + "))".repeat(calls);
            gives(calls, nested, "1", 2 * calls + 1, calls);
            gives(32, nested, "1", 2 * calls + 1, calls);
            // The arguments are evaluated before the call is active, so they do not nest in it.
            String arguments = "((lambda (a) a) ".repeat(Math.min(calls, 6)) + "1" + ")".repeat(Math.min(calls, 6));
            gives(32, arguments, "1", 3 * Math.min(calls, 6) + 1, 1);
        }
        gives(32, "(cons ((lambda () ((lambda () 1)))) ((lambda () 2)))", "[1 . 2]", 9, 2);
        gives(32, "(cons ((lambda () 1)) ((lambda () ((lambda () 2)))))", "[1 . 2]", 9, 2);
    }

    private static void activeCountFalls() {
        Check.sentence("Evaluation", "the active count falls by one, and the body's value is the answer.");
        gives(1, "(cons ((lambda () 1)) ((lambda () 2)))", "[1 . 2]", 7, 1);
        gives(2, "((lambda (a) ((lambda (b) (add a b)) 2)) ((lambda () 1)))", "3", 11, 2);
        gives(1, "((lambda (a) a) ((lambda (a) a) ((lambda (a) a) 5)))", "5", 10, 1);
        gives(1, "(((lambda (a) (lambda (b) (sub a b))) 9) 2)", "7", 9, 1);
        gives(3, "(cons ((lambda () ((lambda () 1)))) ((lambda () 2)))", "[1 . 2]", 9, 2);
        // As the last thing of a body a call is nested all the same.
        gives(2, "((lambda (f) (f f)) (lambda (f) 3))", "3", 7, 2);
        gives(1, "((lambda (f) (f f)) (lambda (f) 3))", DEPTH, 6, 1);
        gives(1, "(let ((f (lambda (a) (add a 1)))) (f (f (f (f 0)))))", "4", 23, 1);
    }

    private static void closureKeepsItsEnvironment() {
        Check.sentence("Evaluation", "the closure's body is evaluated in the closure's environment extended by"
            + " its parameters bound to the k values in order");
        gives(3, "(let ((a 1)) (let ((f (lambda () a))) (let ((a 2)) (f))))", "1", 9, 1);
        gives(1, "(let ((a 1)) (let ((f (lambda (b) (cons a b)))) (let ((a 2)) (f a))))", "[1 . 2]", 12, 1);
        gives(1, "((lambda (a b c d) (sub (sub a b) (sub c d))) 1000 300 20 1)", "681", 13, 1);
        gives(1, "(letrec ((f (lambda (f) f))) (f 3))", "3", 6, 1);
        gives(1, "(let ((m (lambda (a) (lambda () a)))) (let ((x (m 1)) (y (m 2))) (cons (x) (y))))",
            "[1 . 2]", 18, 1);
        gives(1, "((lambda (a) (lambda () a)) 1)", "fn0@6", 4, 1);
    }

    private static void letsAreNoApplications() {
        Check.sentence("Evaluation", "LET and LETREC do not count as applications.");
        gives("(let ((a 1)) (let ((b 2)) (let ((c 3)) (let ((d 4)) a))))", "1", 9);
        gives("(letrec ((f (lambda () 1))) (letrec ((g (lambda () 2))) 3))", "3", 5);
        gives(1, "(let ((a 1)) (let ((b 2)) (letrec ((f (lambda () b))) (f))))", "2", 9, 1);
        gives(1, "((lambda () (let ((a 1)) (letrec ((f (lambda () a))) (let ((b 2)) b)))))", "2", 9, 1);
    }

    private static void startsFromNothing() {
        Check.sentence("Evaluation",
            "The program is evaluated in the empty environment with step counter 0 and active count 0.");
        SecdLisp lisp = Check.compiled(2, "((lambda () ((lambda () 1))))");
        for (int turn = 0; turn < 50; turn++) {
            Check.same("run", outcome(lisp, 5), "1 steps 5 depth 2");
            Check.same("run that ends inside two calls", outcome(lisp, 4), "error 4 steps 4 depth 2");
        }
        SecdLisp deep = Check.compiled(4, States.LOOP);
        for (int turn = 0; turn < 50; turn++) {
            Check.same("run that ends too deep", outcome(deep, 400), "error 5 steps 12 depth 4");
        }
        Check.same("a name from an earlier run", Check.holding(2, "a").compile(), SecdLisp.ERR_UNBOUND);
    }

    /** Programs that take as much of each sort of room as the greatest fuel and depth allow. */
    private static void neverWantsRoom() {
        Check.sentence("Evaluation",
            "No run ever fails for want of room: every outcome is one of those described here.");
        String[] texts = {
            // Forms under way.
            "(letrec ((f (lambda () " + "(car ".repeat(15) + "(f)" + ")".repeat(15) + "))) (f))",
            "(letrec ((f (lambda () (add (f) 1)))) (f))",
            // Operands that wait.
            "(letrec ((f (lambda () (1 2 3 4 (1 2 3 4 (1 2 3 4 (1 2 3 4 (f)))))))) (f))",
            "(letrec ((f (lambda (a b c d) (f 1 2 3 (f 1 2 3 (f 1 2 3 4)))))) (f 1 2 3 4))",
            // Bound names.
            "(letrec ((f (lambda () (let ((a 1) (b 2) (c 3) (d 4)) (let ((a 1) (b 2) (c 3) (d 4)) (f)))))) (f))",
            "(letrec ((f (lambda (a b c d) (let ((e (f 1 2 3 4))) e)))) (f 1 2 3 4))",
            "(letrec ((f (lambda () (letrec ((a (lambda () 1)) (b (lambda () 1)) (c (lambda () 1))) (f))))) (f))",
            // Answers handed on: 398 steps, and no expr but the let leaves its answer to another.
            "(let ((d (lambda (f) (lambda () (cons (f) (f))))))"
                + " ((d (d (d (d (d (lambda () (cons 1 (cons 1 (cons 1 1)))))))))))",
            // Values made.
            "(letrec ((f (lambda (x) (f " + "(null ".repeat(12) + "(lambda () 1)" + ")".repeat(12) + ")))) (f 1))",
            "(letrec ((f (lambda (n) (if n (cons (cons n n) (f (sub n 1))) nil)))) (f 31))",
            "(letrec ((f (lambda (n) (if n (let ((a (f (sub n 1))) (b (f (sub n 1)))) (cons a b)) nil)))) (f 31))",
            "(letrec ((f (lambda (n) (let ((q (quote (1 2 3 4 5 6 7 8 9))) (m (sub n 1))) (if m (cons q (f m)) q)))))"
                + " (f 30))",
            States.FULL,
        };
        for (String text : texts) {
            String[] words = Check.words(text);
            int[] kinds = new int[words.length];
            int[] values = new int[words.length];
            for (int i = 0; i < words.length; i++) {
                kinds[i] = Check.kindOf(words[i]);
                values[i] = Check.valueOf(kinds[i], words[i]);
            }
            for (int limit : new int[] {1, 16, 31, 32}) {
                SecdLisp lisp = Check.compiled(limit, text);
                Reference reference = new Reference(limit, kinds, values);
                Check.same("compile of " + text, reference.judge(), SecdLisp.OK);
                for (int fuel = 1; fuel <= 400; fuel++) {
                    lisp.run(fuel);
                    String got = lisp.status() + " " + Check.show(lisp) + " steps " + lisp.steps() + " depth "
                        + lisp.maxDepth();
                    Check.same("run(" + fuel + ") under " + limit + " of " + text, got, reference.outcome(fuel));
                }
            }
        }
    }
}
