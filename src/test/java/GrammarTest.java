import java.util.List;

/** What compile answers by 'Tokens', 'Grammar' and 'Scope', sentence by sentence. */
final class GrammarTest {
    private static final String[] KEYWORDS = {
        "quote", "lambda", "let", "letrec", "if", "cons", "car", "cdr", "null",
        "add", "sub", "mul", "div", "eq", "lt"
    };
    private static final String[] BINARY = {"cons", "add", "sub", "mul", "div", "eq", "lt"};
    private static final String[] UNARY = {"car", "cdr", "null"};
    private static final String[] EXPRS = {
        "1", "nil", "(quote 1)", "(lambda () 1)", "(let ((a 1)) a)", "(letrec ((f (lambda () 1))) f)",
        "(if 1 2 3)", "(cons 1 2)", "(car 1)", "(1 2)", "((1))"
    };

    /** Every place where an expr may stand, marked by '_'. */
    private static final String[] PLACES = {
        "_", "(_)", "(_ 1)", "(1 _)", "(1 2 3 4 _)", "(lambda () _)", "(lambda (x) _)",
        "(let ((x _)) 1)", "(let ((x 1) (y _)) 1)", "(let ((x 1)) _)",
        "(letrec ((x (lambda () _))) 1)", "(letrec ((x (lambda () 1)) (y (lambda (z) _))) 1)",
        "(letrec ((x (lambda () 1))) _)", "(if _ 1 2)", "(if 1 _ 2)", "(if 1 2 _)", "(cons _ 1)",
        "(cons 1 _)", "(add _ 1)", "(add 1 _)", "(sub _ 1)", "(sub 1 _)", "(mul _ 1)", "(mul 1 _)",
        "(div _ 1)", "(div 1 _)", "(eq _ 1)", "(eq 1 _)", "(lt _ 1)", "(lt 1 _)", "(car _)",
        "(cdr _)", "(null _)",
    };

    public static void main(String[] args) {
        keywordKinds();
        valuesOfOtherTokensDoNotMatter();
        sameNamesAreEqualInts();
        tokensAreNumberedFromNone();

        wholeListIsOneExpr();
        exprs();
        quoteTakesOneDatum();
        lambdaTakesUpToFourNames();
        lambdaNamesDiffer();
        letTakesOneToFourBinds();
        bindIsANameAndAnExpr();
        letrecTakesOneToFourBinds();
        letrecBindsLamsOnly();
        lamTakesUpToFourNames();
        ifTakesThree();
        binaryTakeTwo();
        unaryTakeOne();
        applicationTakesUpToFour();
        datums();
        boundNamesDiffer();
        keywordPicksTheForm();
        otherTokensStartAnApplication();
        keywordAnywhereElse();
        emptyParensAreNoExpr();
        emptyParensInADatum();
        emptyListIsNoProgram();
        fullLists();

        parametersAreSeenInTheBody();
        letNamesAreSeenInTheBodyOnly();
        letrecNamesAreSeenInAll();
        innerHidesOuter();
        unboundNames();
        bindingIsNoUse();
        Check.end();
    }

    // ---- tokens ----

    private static void keywordKinds() {
        Check.sentence("What it is", "Kinds 6..20 are the keyword tokens.");
        for (int kind = SecdLisp.TOK_NUM; kind <= 20; kind++) {
            boolean keyword = kind >= 6;
            int due = keyword ? SecdLisp.ERR_SYNTAX : kind == SecdLisp.TOK_SYM ? SecdLisp.ERR_UNBOUND : SecdLisp.OK;
            SecdLisp alone = new SecdLisp(3);
            alone.token(kind, 7);
            Check.same("compile of kind " + kind + " alone", alone.compile(), due);
            SecdLisp argument = Check.holding(3, "(1");
            argument.token(kind, 7);
            Check.hand(argument, ")");
            Check.same("compile of kind " + kind + " as an argument", argument.compile(), due);
            SecdLisp first = Check.holding(3, "(");
            first.token(kind, 7);
            Check.hand(first, ")");
            Check.same("compile of kind " + kind + " as a form of its own", first.compile(), due);
        }
    }

    private static void valuesOfOtherTokensDoNotMatter() {
        Check.sentence("Tokens", "The value matters only for TOK_NUM (the number, any int) and TOK_SYM");
        int[] values = {Integer.MIN_VALUE, -1, 1, 2, 20, Integer.MAX_VALUE};
        String[] texts = {"()", "nil", "(quote (nil ()))", "(lambda (a b) (cons a nil))", "(lambda (a a) 1)", "(a)",
            "(let ((a 1)) (if a nil ()))", "(letrec ((f (lambda () nil))) (f))"};
        for (String text : texts) {
            for (int value : values) {
                SecdLisp lisp = new SecdLisp(3);
                for (String word : Check.words(text)) {
                    int kind = Check.kindOf(word);
                    boolean matters = kind == SecdLisp.TOK_NUM || kind == SecdLisp.TOK_SYM;
                    lisp.token(kind, matters ? Check.valueOf(kind, word) : value);
                }
                SecdLisp plain = Check.holding(3, text);
                Check.same("compile of " + text + " with values " + value, lisp.compile(), plain.compile());
                Check.same("run of " + text + " with values " + value, lisp.run(400), plain.run(400));
                Check.same("value of " + text + " with values " + value, Check.show(lisp), Check.show(plain));
            }
        }
        // And there it matters.
        Check.same("a number", Check.ran(1, "-2147483648").intValue(), Integer.MIN_VALUE);
        Check.unbound("(lambda (a) b)");
    }

    private static int compileSymbols(String before, int... names) {
        SecdLisp lisp = new SecdLisp(3);
        String[] words = Check.words(before);
        int next = 0;
        for (String word : words) {
            boolean isName = Check.kindOf(word) == SecdLisp.TOK_SYM;
            lisp.token(Check.kindOf(word), isName ? names[next++] : Check.valueOf(Check.kindOf(word), word));
        }
        return lisp.compile();
    }

    private static void sameNamesAreEqualInts() {
        Check.sentence("Tokens", "two names are the same exactly when their ints are equal");
        int[] names = {Integer.MIN_VALUE, -65536, -1, 0, 1, 255, 256, 65536, 1 << 24, Integer.MAX_VALUE};
        for (int one : names) {
            for (int other : names) {
                boolean same = one == other;
                int seen = same ? SecdLisp.OK : SecdLisp.ERR_UNBOUND;
                int together = same ? SecdLisp.ERR_SYNTAX : SecdLisp.OK;
                String which = " of names " + one + " and " + other;
                Check.same("use" + which, compileSymbols("(lambda (x) x)", one, other), seen);
                Check.same("use in let" + which, compileSymbols("(let ((x 1)) x)", one, other), seen);
                Check.same("use in letrec" + which,
                    compileSymbols("(letrec ((x (lambda () 1))) x)", one, other), seen);
                Check.same("parameters" + which, compileSymbols("(lambda (x x) 1)", one, other), together);
                Check.same("binds" + which, compileSymbols("(let ((x 1) (x 2)) 1)", one, other), together);
                Check.same("rbinds" + which,
                    compileSymbols("(letrec ((x (lambda () 1)) (x (lambda () 2))) 1)", one, other), together);
            }
        }
    }

    private static void tokensAreNumberedFromNone() {
        Check.sentence("Tokens", "Tokens are numbered from 0 in the order they were appended.");
        Check.same("first", Check.ran(1, "(lambda () 1)").closureSource(), 0);
        Check.same("third", Check.ran(1, "(car (cons (lambda () 1) 2))").closureSource(), 4);
        // A lambda needs six tokens, and one more closes what it stands in: 57 is the greatest index.
        String late = "(let ((a (quote (" + "1 ".repeat(45) + ")))) (lambda () 1))";
        Check.same("tokens", Check.words(late).length, SecdLisp.MAX_TOKENS);
        Check.same("last", Check.ran(1, late).closureSource(), 57);
    }

    // ---- grammar ----

    private static void wholeListIsOneExpr() {
        Check.sentence("Grammar", "A program is exactly one expr that uses every token held, in order.");
        Check.accepts(EXPRS);
        for (String expr : EXPRS) {
            for (String more : EXPRS) {
                Check.refuses(expr + " " + more);
            }
            Check.refuses(expr + ")", "(" + expr, expr + " (", ") " + expr, "() " + expr, expr + " ()",
                expr + " a", "a " + expr);
        }
        Check.refuses(")(", ") 1 (", "1 ( )", "(1 2", "1 2)", "(1) (2)", "(1))(2)", "quote 1");
    }

    private static void exprs() {
        Check.sentence("Grammar", "expr := NUM | NIL | SYM | '(' form ')'");
        for (String place : PLACES) {
            for (String expr : EXPRS) {
                Check.accepts(place.replace("_", expr));
            }
            Check.accepts("(lambda (a) " + place.replace("_", "a") + ")");
            Check.refuses(place.replace("_", "("), place.replace("_", ")"));
        }
    }

    private static void quoteTakesOneDatum() {
        Check.sentence("Grammar", "QUOTE datum");
        Check.refuses("(quote)", "(quote 1 2)", "(quote nil nil)", "(quote () ())", "(quote (1) 2)",
            "(quote 1 (2))");
        Check.accepts("(quote 1)", "(quote nil)", "(quote ())", "(quote (1 2))");
    }

    /** A list of names "a b c ..", n of them. */
    private static String names(int count) {
        StringBuilder text = new StringBuilder();
        for (int i = 0; i < count; i++) {
            text.append((char) ('a' + i)).append(' ');
        }
        return text.toString();
    }

    private static void lambdaTakesUpToFourNames() {
        Check.sentence("Grammar", "LAMBDA '(' SYM{0..4} ')' expr");
        for (int count = 0; count <= 8; count++) {
            Check.compiles("(lambda (" + names(count) + ") 1)", count <= 4 ? SecdLisp.OK : SecdLisp.ERR_SYNTAX);
        }
        Check.refuses("(lambda)", "(lambda 1)", "(lambda ())", "(lambda (a))", "(lambda () 1 2)",
            "(lambda (a) a a)", "(lambda a 1)", "(lambda nil 1)", "(lambda 1 1)", "(lambda 1 ())",
            "(lambda (1) 1)", "(lambda (nil) 1)", "(lambda (()) 1)", "(lambda ((a)) 1)", "(lambda (a 1) 1)",
            "(lambda (a (b)) 1)", "(lambda (a b c 1) 1)", "(lambda (a b c ()) 1)", "(lambda (a b c d ()) 1)",
            "(lambda (a b c d 1) 1)");
    }

    private static void lambdaNamesDiffer() {
        Check.sentence("Grammar", "names pairwise different");
        for (int count = 2; count <= 4; count++) {
            for (int i = 0; i < count; i++) {
                for (int j = i + 1; j < count; j++) {
                    String same = names(count).replace((char) ('a' + j), (char) ('a' + i));
                    Check.refuses("(lambda (" + same + ") 1)");
                    Check.refuses("(letrec ((f (lambda (" + same + ") 1))) 1)");
                }
            }
        }
        Check.accepts("(lambda (a) (lambda (a) a))", "(cons (lambda (a) a) (lambda (a) a))");
    }

    private static String binds(int count, String bound) {
        StringBuilder text = new StringBuilder();
        for (int i = 0; i < count; i++) {
            text.append('(').append((char) ('a' + i)).append(' ').append(bound).append(')');
        }
        return text.toString();
    }

    private static void letTakesOneToFourBinds() {
        Check.sentence("Grammar", "LET '(' bind{1..4} ')' expr");
        for (int count = 0; count <= 8; count++) {
            boolean fits = count >= 1 && count <= 4;
            Check.compiles("(let (" + binds(count, "1") + ") 1)", fits ? SecdLisp.OK : SecdLisp.ERR_SYNTAX);
        }
        Check.refuses("(let)", "(let 1)", "(let ())", "(let ((a 1)))", "(let ((a 1)) 1 2)", "(let a 1)",
            "(let nil 1)", "(let 1 1)", "(let 1 ((a 1)))", "(let (a 1) 1)");
    }

    private static void bindIsANameAndAnExpr() {
        Check.sentence("Grammar", "bind := '(' SYM expr ')'");
        Check.refuses("(let (()) 1)", "(let ((a)) 1)", "(let ((a 1 2)) 1)", "(let ((1 1)) 1)",
            "(let ((nil 1)) 1)", "(let (((a) 1)) 1)", "(let ((() 1)) 1)", "(let ((1 a)) 1)", "(let (1) 1)",
            "(let (a) 1)", "(let (nil) 1)", "(let ((a 1) 2) 1)", "(let ((a 1) b) 1)", "(let ((a 1) ()) 1)",
            "(let ((a 1) (b)) 1)", "(let ((a 1) (b 2) (c 3) 4) 1)", "(let ((a 1) (b 2) (c 3) (d)) 1)");
    }

    private static void letrecTakesOneToFourBinds() {
        Check.sentence("Grammar", "LETREC '(' rbind{1..4} ')' expr");
        for (int count = 0; count <= 5; count++) {
            boolean fits = count >= 1 && count <= 4;
            Check.compiles("(letrec (" + binds(count, "(lambda () 1)") + ") 1)",
                fits ? SecdLisp.OK : SecdLisp.ERR_SYNTAX);
        }
        Check.refuses("(letrec)", "(letrec 1)", "(letrec ())", "(letrec ((a (lambda () 1))))",
            "(letrec ((a (lambda () 1))) 1 2)", "(letrec a 1)", "(letrec nil 1)", "(letrec 1 1)",
            "(letrec (a (lambda () 1)) 1)");
    }

    private static void letrecBindsLamsOnly() {
        Check.sentence("Grammar", "rbind := '(' SYM lam ')'");
        for (String expr : EXPRS) {
            Check.compiles("(letrec ((f " + expr + ")) 1)",
                expr.startsWith("(lambda") ? SecdLisp.OK : SecdLisp.ERR_SYNTAX);
            Check.compiles("(letrec ((f (lambda () 1)) (g " + expr + ")) 1)",
                expr.startsWith("(lambda") ? SecdLisp.OK : SecdLisp.ERR_SYNTAX);
        }
        Check.refuses("(letrec ((f f)) 1)", "(letrec ((f lambda)) 1)", "(letrec ((f ())) 1)",
            "(letrec ((f)) 1)", "(letrec ((f (lambda () 1) 2)) 1)", "(letrec ((1 (lambda () 1))) 1)",
            "(letrec ((nil (lambda () 1))) 1)", "(letrec (((f) (lambda () 1))) 1)",
            "(letrec ((f ((lambda () 1)))) 1)", "(letrec ((lambda () 1)) 1)", "(letrec ((f lambda () 1)) 1)",
            "(letrec ((f (lambda () 1)) 2) 1)", "(letrec ((f (lambda () 1)) g) 1)");
    }

    private static void lamTakesUpToFourNames() {
        Check.sentence("Grammar", "lam := '(' LAMBDA '(' SYM{0..4} ')' expr ')'");
        for (int count = 0; count <= 8; count++) {
            Check.compiles("(letrec ((f (lambda (" + names(count) + ") 1))) 1)",
                count <= 4 ? SecdLisp.OK : SecdLisp.ERR_SYNTAX);
        }
        Check.refuses("(letrec ((f (lambda))) 1)", "(letrec ((f (lambda 1))) 1)",
            "(letrec ((f (lambda ()))) 1)", "(letrec ((f (lambda () 1 2))) 1)",
            "(letrec ((f (lambda a 1))) 1)", "(letrec ((f (lambda (1) 1))) 1)",
            "(letrec ((f (lambda () ()))) 1)");
    }

    private static void ifTakesThree() {
        Check.sentence("Grammar", "IF expr expr expr");
        for (int count = 0; count <= 6; count++) {
            Check.compiles("(if" + " 1".repeat(count) + ")", count == 3 ? SecdLisp.OK : SecdLisp.ERR_SYNTAX);
            Check.compiles("(if" + " (1)".repeat(count) + ")", count == 3 ? SecdLisp.OK : SecdLisp.ERR_SYNTAX);
        }
    }

    private static void binaryTakeTwo() {
        Check.sentence("Grammar", "CONS expr expr | ADD expr expr | SUB expr expr | MUL expr expr"
            + " | DIV expr expr | EQ expr expr | LT expr expr");
        for (String head : BINARY) {
            for (int count = 0; count <= 6; count++) {
                int due = count == 2 ? SecdLisp.OK : SecdLisp.ERR_SYNTAX;
                Check.compiles("(" + head + " 1".repeat(count) + ")", due);
                Check.compiles("(" + head + " (1)".repeat(count) + ")", due);
            }
        }
    }

    private static void unaryTakeOne() {
        Check.sentence("Grammar", "CAR expr | CDR expr | NULL expr");
        for (String head : UNARY) {
            for (int count = 0; count <= 6; count++) {
                int due = count == 1 ? SecdLisp.OK : SecdLisp.ERR_SYNTAX;
                Check.compiles("(" + head + " 1".repeat(count) + ")", due);
                Check.compiles("(" + head + " (1)".repeat(count) + ")", due);
            }
        }
    }

    private static void applicationTakesUpToFour() {
        Check.sentence("Grammar", "expr expr{0..4} application");
        for (String first : EXPRS) {
            for (int count = 0; count <= 8; count++) {
                int due = count <= 4 ? SecdLisp.OK : SecdLisp.ERR_SYNTAX;
                Check.compiles("(" + first + " 1".repeat(count) + ")", due);
                Check.compiles("(" + first + " (1)".repeat(count) + ")", due);
            }
        }
    }

    private static void datums() {
        Check.sentence("Grammar", "datum := NUM | NIL | '(' datum* ')'");
        for (int count = 0; count <= 59; count++) {
            Check.accepts("(quote (" + "1 ".repeat(count) + "))", "(quote (" + "nil ".repeat(count) + "))");
        }
        for (int depth = 1; depth <= 30; depth++) {
            Check.accepts("(quote " + "(".repeat(depth) + ")".repeat(depth) + ")");
        }
        Check.accepts("(quote ((1 2) (3 (nil) ()) 4))");
        Check.refuses("(quote a)", "(quote (a))", "(quote (1 a))", "(quote (a 1))", "(quote ((1) (2 a)))",
            "(lambda (a) (quote a))", "(lambda (a) (quote (1 (a))))", "(quote (1)", "(quote 1))", "(quote ))");
        for (String keyword : KEYWORDS) {
            Check.refuses("(quote " + keyword + ")", "(quote (" + keyword + "))", "(quote (1 " + keyword + "))",
                "(quote (" + keyword + " 1))", "(quote ((" + keyword + " 1 2)))");
        }
    }

    private static void boundNamesDiffer() {
        Check.sentence("Grammar", "Within one LET or one LETREC the bound names are pairwise different.");
        for (int count = 2; count <= 4; count++) {
            for (int i = 0; i < count; i++) {
                for (int j = i + 1; j < count; j++) {
                    String one = "(" + (char) ('a' + j);
                    String same = "(" + (char) ('a' + i);
                    Check.refuses("(let (" + binds(count, "1").replace(one, same) + ") 1)");
                    Check.refuses("(let (" + binds(count, "(1)").replace(one, same) + ") 1)");
                    Check.refuses("(letrec (" + binds(count, "(lambda () 1)").replace(one, same) + ") 1)");
                }
            }
        }
        // Only within one: a name may be bound again further in, or elsewhere.
        Check.accepts("(let ((a 1)) (let ((a 2)) a))", "(let ((a (let ((a 1)) a))) a)",
            "(let ((a (let ((b 1)) b)) (b 2)) b)", "(let ((a (lambda (b) b)) (b 2)) b)",
            "(let ((a 1) (b (let ((a 2)) a))) b)", "(letrec ((a (lambda (a b) a)) (b (lambda (a b) b))) a)",
            "(letrec ((a (lambda () 1))) (letrec ((a (lambda () 2))) a))",
            "(letrec ((a (lambda () (letrec ((b (lambda () 1))) b))) (b (lambda () 2))) b)",
            "(cons (let ((a 1)) a) (let ((a 1)) a))");
    }

    private static void keywordPicksTheForm() {
        Check.sentence("Grammar", "a keyword token (kinds 6..20) picks its form");
        // What follows the keyword fits one sort of form each, so the answers tell which was picked.
        for (String keyword : KEYWORDS) {
            boolean binary = List.of(BINARY).contains(keyword);
            boolean unary = List.of(UNARY).contains(keyword);
            boolean quote = keyword.equals("quote");
            picks(keyword, "", false);
            picks(keyword, "1", unary || quote);
            picks(keyword, "()", quote);
            picks(keyword, "(1 2 3 4 5 6)", quote);
            picks(keyword, "(lambda () 1)", unary);
            picks(keyword, "1 2", binary);
            picks(keyword, "1 2 3", keyword.equals("if"));
            picks(keyword, "() 1", keyword.equals("lambda"));
            picks(keyword, "((x 1)) 1", keyword.equals("let") || binary);
            picks(keyword, "((x (x))) 1", keyword.equals("let") || binary);
            picks(keyword, "((x (lambda () 1)) (y (lambda () (x)))) y",
                keyword.equals("let") || keyword.equals("letrec") || binary);
        }
        Check.accepts("(let ((x 1)) x)", "(letrec ((x (lambda () (x)))) x)");
        Check.unbound("(let ((x (lambda () (x)))) x)", "(add ((x (lambda () (x)))) x)");
    }

    /** Holds that a form fits the grammar or not, whether or not its names are bound. */
    private static void picks(String keyword, String rest, boolean fits) {
        String text = "(" + keyword + " " + rest + ")";
        int answered = Check.holding(5, text).compile();
        Check.same("compile of " + text + " (" + answered + ") fits", answered != SecdLisp.ERR_SYNTAX, fits);
    }

    private static void otherTokensStartAnApplication() {
        Check.sentence("Grammar", "any other token starts an application");
        Check.accepts("(1)", "(nil)", "((1))", "(lambda (a) (a))", "(lambda (a) (a a a a a))", "(1 2 3 4 5)",
            "(nil nil)", "((quote 1) 2)", "((lambda () 1))", "((car 1) 2 3)");
        Check.unbound("(a)", "(a 1 2)");
        Check.refuses("()", "() 1", "(1 2 3 4 5 6)", "(nil 1 2 3 4 5)", "((1) 1 2 3 4 5)");
    }

    private static void keywordAnywhereElse() {
        Check.sentence("Grammar", "A keyword token anywhere else");
        for (String keyword : KEYWORDS) {
            for (String place : PLACES) {
                // As the first item of a list it would pick a form.
                if (!place.startsWith("(_")) {
                    Check.refuses(place.replace("_", keyword));
                }
                Check.refuses(place.replace("_", "(1 " + keyword + ")"));
            }
            Check.refuses("(lambda (" + keyword + ") 1)", "(lambda (a " + keyword + ") 1)",
                "(lambda " + keyword + " 1)", "(let ((" + keyword + " 1)) 1)", "(let (" + keyword + ") 1)",
                "(let " + keyword + " 1)", "(let ((a 1) " + keyword + ") 1)",
                "(letrec ((" + keyword + " (lambda () 1))) 1)", "(letrec ((f " + keyword + ")) 1)",
                "(" + keyword + " " + keyword + ")", "1 " + keyword, keyword + " 1");
        }
    }

    private static void emptyParensAreNoExpr() {
        Check.sentence("Grammar", "'(' ')' used as an expr");
        for (String place : PLACES) {
            Check.refuses(place.replace("_", "()"), place.replace("_", "(())"), place.replace("_", "(1 ())"));
        }
    }

    private static void emptyParensInADatum() {
        Check.sentence("Grammar", "Inside a datum, '(' ')' is nil.");
        Check.same("()", Check.show(Check.ran(1, "(quote ())")), "nil");
        Check.same("(())", Check.show(Check.ran(1, "(quote (()))")), "[nil . nil]");
        Check.same("(1 ())", Check.show(Check.ran(1, "(quote (1 ()))")), "[1 . [nil . nil]]");
        Check.same("(() 1)", Check.show(Check.ran(1, "(quote (() 1))")), "[nil . [1 . nil]]");
        Check.same("((()) ())", Check.show(Check.ran(1, "(quote ((()) ()))")), "[[nil . nil] . [nil . nil]]");
        Check.same("null of ()", Check.ran(1, "(null (quote ()))").intValue(), 1);
    }

    private static void emptyListIsNoProgram() {
        Check.sentence("Grammar", "An empty token list is not a program.");
        Check.refuses("");
        SecdLisp lisp = Check.ran(3, "7");
        lisp.clear();
        Check.same("compile after clear", lisp.compile(), SecdLisp.ERR_SYNTAX);
        Check.same("run after clear and compile", lisp.run(400), SecdLisp.ERR_NOPROG);
    }

    /** No sentence bounds a program but MAX_TOKENS, so each sort of nesting goes up to it. */
    private static void fullLists() {
        Check.sentence("Grammar", "or any other deviation means the tokens are not a program");
        Check.accepts("(".repeat(31) + "1" + ")".repeat(31), "(".repeat(31) + "1 2" + ")".repeat(31));
        Check.refuses("(".repeat(32) + ")".repeat(32), "(".repeat(31) + "1" + ")".repeat(30),
            "(".repeat(31) + "1" + ")".repeat(32), "(".repeat(64), ")".repeat(64), "1 ".repeat(64));
        Check.accepts("(quote " + "(".repeat(30) + ")".repeat(30) + ")",
            "(quote " + "(".repeat(30) + "1" + ")".repeat(30) + ")");
        Check.accepts("(lambda () ".repeat(12) + "(1)" + ")".repeat(12), "(null ".repeat(21) + "1" + ")".repeat(21));
        Check.accepts("(let ((a 1)) ".repeat(6) + "(add a (add a 1))" + ")".repeat(6));
        Check.accepts("(let ((a ".repeat(7) + "1" + ")) 1)".repeat(6) + ")) a)");
        Check.accepts("(letrec ((f (lambda () ".repeat(3) + "(letrec ((f (lambda () 1))) f)" + "))) (f))".repeat(3));
    }

    // ---- scope ----

    private static void parametersAreSeenInTheBody() {
        Check.sentence("Scope", "LAMBDA parameters are seen in its body.");
        for (int count = 1; count <= 4; count++) {
            for (int i = 0; i < count; i++) {
                char name = (char) ('a' + i);
                for (String place : PLACES) {
                    Check.accepts("(lambda (" + names(count) + ") " + place.replace('_', name) + ")");
                }
            }
            Check.unbound("(lambda (" + names(count) + ") " + (char) ('a' + count) + ")");
        }
        Check.unbound("((lambda (a) a) a)", "(a (lambda (a) a))", "(cons (lambda (a) a) a)",
            "(cons a (lambda (a) a))", "(let ((b (lambda (a) a))) a)",
            "(letrec ((f (lambda (a) a)) (g (lambda () a))) f)", "(letrec ((f (lambda (a) a))) a)");
    }

    private static void letNamesAreSeenInTheBodyOnly() {
        Check.sentence("Scope", "LET names are seen in its body only, not in its bound exprs.");
        for (int count = 1; count <= 4; count++) {
            for (int i = 0; i < count; i++) {
                char name = (char) ('a' + i);
                for (String place : PLACES) {
                    Check.accepts("(let (" + binds(count, "1") + ") " + place.replace('_', name) + ")");
                }
                for (int j = 0; j < count; j++) {
                    char bind = (char) ('a' + j);
                    String inBound = binds(count, "1").replace("(" + bind + " 1", "(" + bind + " " + name);
                    Check.unbound("(let (" + inBound + ") 1)");
                    String inLambda = binds(count, "1").replace("(" + bind + " 1",
                        "(" + bind + " (lambda () " + name + ")");
                    Check.unbound("(let (" + inLambda + ") 1)");
                }
            }
        }
        Check.unbound("(cons (let ((a 1)) a) a)", "(cons a (let ((a 1)) a))", "((let ((a 1)) a) a)");
        Check.accepts("(lambda (a) (let ((a a)) a))", "(let ((a 1)) (let ((a a) (b a)) b))");
    }

    private static void letrecNamesAreSeenInAll() {
        Check.sentence("Scope", "LETREC names are seen in all its lams and in its body.");
        for (int count = 1; count <= 4; count++) {
            for (int i = 0; i < count; i++) {
                char name = (char) ('a' + i);
                Check.accepts("(letrec (" + binds(count, "(lambda () 1)") + ") " + name + ")");
                for (int j = 0; j < count; j++) {
                    char bind = (char) ('a' + j);
                    Check.accepts("(letrec (" + binds(count, "(lambda () 1)").replace("(" + bind + " (lambda () 1",
                        "(" + bind + " (lambda () (" + name + ")") + ") 1)");
                }
            }
        }
        Check.unbound("(cons (letrec ((f (lambda () 1))) f) f)", "(cons f (letrec ((f (lambda () 1))) f))",
            "(letrec ((f (lambda () g))) f)", "(letrec ((f (lambda () 1))) g)");
    }

    private static void innerHidesOuter() {
        Check.sentence("Scope", "An inner binding hides an outer one of the same name.");
        String[] outers = {"((lambda (a) _) 1)", "(let ((a 1)) _)", "(letrec ((a (lambda () 1))) _)"};
        String[] outerValues = {"1", "1", "fn0@5"};
        String[] inners = {"((lambda (a) a) 2)", "(let ((a 2)) a)", "(letrec ((a (lambda (b) a))) a)"};
        for (int i = 0; i < outers.length; i++) {
            for (String inner : inners) {
                String hidden = Check.show(Check.ran(5, outers[i].replace("_", inner)));
                boolean innerSeen = hidden.equals("2") || hidden.startsWith("fn1@");
                Check.same("inner seen in " + outers[i] + " " + inner, innerSeen, true);
                // Behind the inner form, and in its bound exprs, the outer name is seen again.
                String after = "(cdr (cons " + inner + " a))";
                Check.same("outer seen after " + inner, Check.show(Check.ran(5, outers[i].replace("_", after))),
                    outerValues[i]);
                String bound = "(let ((a 2) (b a)) b)";
                Check.same("outer seen in a bound expr", Check.show(Check.ran(5, outers[i].replace("_", bound))),
                    outerValues[i]);
            }
        }
        Check.same("a parameter hides its letrec name",
            Check.show(Check.ran(5, "(letrec ((f (lambda (f) f))) (f 3))")), "3");
        Check.same("the nearest of three is seen",
            Check.show(Check.ran(5, "(let ((a 1)) (let ((a 2)) ((lambda (a) (let ((b 4)) a)) 3)))")), "3");
    }

    private static void unboundNames() {
        Check.sentence("Scope", "A SYM used as an expr that no enclosing binding names is unbound.");
        Check.unbound("a");
        for (String place : PLACES) {
            Check.unbound(place.replace("_", "a"));
            Check.unbound("(cons (lambda (a) a) " + place.replace("_", "a") + ")");
        }
    }

    private static void bindingIsNoUse() {
        Check.sentence("Scope", "(Names in parameter lists and in binds are not uses as an expr.)");
        Check.accepts("(lambda (a) 1)", "(lambda (a b c d) 1)", "(let ((a 1)) 1)", "(let ((a 1) (b 2)) 1)",
            "(letrec ((a (lambda (b) 1))) 1)", "(letrec ((a (lambda (b c) 1)) (d (lambda (e) 1))) 1)");
    }
}
