/**
 * A small Lisp whose programs are handed over token by token, compiled, and run under a budget of
 * steps and a limit on nested calls.
 *
 * <p>The tokens themselves are the compiled code: an expr is known by the index of its first token.
 * compile() only adds what makes them quick to walk: where each item ends, how far away each name
 * is bound, and the literals as values.
 */
public final class SecdLisp {
    public static final int MAX_TOKENS = 64;
    public static final int MAX_FUEL = 400;
    public static final int MAX_DEPTH = 32;
    public static final int MAX_ARGS = 4;

    public static final int TOK_LPAREN = 1;
    public static final int TOK_RPAREN = 2;
    public static final int TOK_NUM = 3;
    public static final int TOK_SYM = 4;
    public static final int TOK_NIL = 5;
    public static final int TOK_QUOTE = 6;
    public static final int TOK_LAMBDA = 7;
    public static final int TOK_LET = 8;
    public static final int TOK_LETREC = 9;
    public static final int TOK_IF = 10;
    public static final int TOK_CONS = 11;
    public static final int TOK_CAR = 12;
    public static final int TOK_CDR = 13;
    public static final int TOK_NULL = 14;
    public static final int TOK_ADD = 15;
    public static final int TOK_SUB = 16;
    public static final int TOK_MUL = 17;
    public static final int TOK_DIV = 18;
    public static final int TOK_EQ = 19;
    public static final int TOK_LT = 20;

    public static final int NO_RESULT = -1;
    public static final int OK = 0;
    public static final int ERR_SYNTAX = 1;
    public static final int ERR_UNBOUND = 2;
    public static final int ERR_NOPROG = 3;
    public static final int ERR_FUEL = 4;
    public static final int ERR_DEPTH = 5;
    public static final int ERR_TYPE = 6;
    public static final int ERR_DIV = 7;
    public static final int ERR_APPLY = 8;
    public static final int ERR_ARITY = 9;

    public static final int KIND_NONE = 0;
    public static final int KIND_INT = 1;
    public static final int KIND_NIL = 2;
    public static final int KIND_PAIR = 3;
    public static final int KIND_CLOSURE = 4;

    // A form whose first token is of a lower kind is an application.
    private static final int FIRST_KEYWORD = TOK_QUOTE;

    private static final int ROLE_NONE = 0;
    private static final int ROLE_EXPR = 1;
    private static final int ROLE_DATUM = 2;
    private static final int ROLE_NAME = 3;

    private static final int NO_TOKEN = -1;
    private static final int NO_CELL = -1;
    private static final int NO_VALUE = -1;

    // Literals have fixed places, so that a quote costs a run no room however often it is evaluated.
    // Value i is the literal that begins at token i; value FIRST_TAIL + i is the rest of the quoted
    // list behind its element at token i.
    private static final int FIRST_TAIL = MAX_TOKENS;
    private static final int FIRST_RUN_VALUE = 2 * MAX_TOKENS;

    // Each step makes at most one value.
    private static final int MAX_VALUES = FIRST_RUN_VALUE + MAX_FUEL;

    // Each step's value is bound at most once, but a LETREC takes its cells before its steps.
    private static final int MAX_CELLS = MAX_FUEL + MAX_ARGS;

    // Each step is begun once and answered once, and one more may be begun in want of fuel; this
    // is well above that.
    private static final int MAX_TURNS = 4 * MAX_FUEL;

    private final int depthLimit;

    private final int[] tokenKind = new int[MAX_TOKENS];
    private final int[] tokenValue = new int[MAX_TOKENS];
    private int tokenCount = 0;

    // The program: for each token the index behind the item that begins there, what it stands for,
    // the innermost binding's name around it (for a bound name: the next one outward), and for a
    // SYM in use how many bindings lie between it and its own.
    private final int[] after = new int[MAX_TOKENS];
    private final int[] role = new int[MAX_TOKENS];
    private final int[] scope = new int[MAX_TOKENS];
    private final int[] hops = new int[MAX_TOKENS];
    private boolean programPresent = false;

    // Values. An int has its number in valueFirst, a pair its two parts' values, a closure the
    // token that opens its lambda form and its environment's innermost cell.
    private final int[] valueKind = new int[MAX_VALUES];
    private final int[] valueFirst = new int[MAX_VALUES];
    private final int[] valueSecond = new int[MAX_VALUES];
    private int valueCount = FIRST_RUN_VALUE;

    // Environments: chains of cells, one cell a bound name, in the order of the scope chain.
    private final int[] cellValue = new int[MAX_CELLS];
    private final int[] cellOuter = new int[MAX_CELLS];
    private int cellCount = 0;

    // The forms under way, the innermost last. A form's part under way is NO_TOKEN while the body
    // of the closure that it called is evaluated. The values of its parts begin at its base. Each
    // form under way and each operand is a step of its own, so the greatest fuel bounds both.
    private final int[] frameForm = new int[MAX_FUEL];
    private final int[] framePart = new int[MAX_FUEL];
    private final int[] frameEnv = new int[MAX_FUEL];
    private final int[] frameBase = new int[MAX_FUEL];
    private int frameCount = 0;
    private final int[] operands = new int[MAX_FUEL];
    private int operandCount = 0;

    // What the next turn is about: the answer just found, or else the expr to evaluate in env.
    private boolean answering = false;
    private int answer = NO_VALUE;
    private int expr = 0;
    private int env = NO_CELL;

    private int fuelLimit = 1;
    private int active = 0;

    private int status = NO_RESULT;
    private int steps = 0;
    private int maxDepth = 0;
    private int root = NO_VALUE;
    private int cursor = NO_VALUE;

    public SecdLisp(int depthLimit) {
        this.depthLimit = clamp(depthLimit, MAX_DEPTH);
    }

    public int depthLimit() {
        return depthLimit;
    }

    public void clear() {
        tokenCount = 0;
        programPresent = false;
        forgetResult();
    }

    public boolean token(int kind, int value) {
        if (kind < TOK_LPAREN || kind > TOK_LT || tokenCount >= MAX_TOKENS) {
            return false;
        }
        tokenKind[tokenCount] = kind;
        tokenValue[tokenCount] = kind == TOK_NUM || kind == TOK_SYM ? value : 0;
        tokenCount++;
        programPresent = false;
        forgetResult();
        return true;
    }

    public int tokenCount() {
        return tokenCount;
    }

    public int compile() {
        forgetResult();
        programPresent = false;
        if (!parensMatch() || !grammarFits()) {
            return ERR_SYNTAX;
        }
        if (!namesAreBound()) {
            return ERR_UNBOUND;
        }
        placeLiterals();
        programPresent = true;
        return OK;
    }

    public int run(int fuel) {
        if (!programPresent) {
            return ERR_NOPROG;
        }
        startRun(fuel);
        for (int turn = 0; turn < MAX_TURNS && status == NO_RESULT; turn++) {
            if (answering) {
                handOverAnswer();
            } else {
                startExpr();
            }
        }
        return status;
    }

    public int status() {
        return status;
    }

    public int steps() {
        return steps;
    }

    public int maxDepth() {
        return maxDepth;
    }

    public int kind() {
        return cursor == NO_VALUE ? KIND_NONE : valueKind[cursor];
    }

    public int intValue() {
        return kind() == KIND_INT ? valueFirst[cursor] : 0;
    }

    public int closureArity() {
        return kind() == KIND_CLOSURE ? arity(valueFirst[cursor]) : -1;
    }

    public int closureSource() {
        return kind() == KIND_CLOSURE ? valueFirst[cursor] : -1;
    }

    public boolean goRoot() {
        if (root == NO_VALUE) {
            return false;
        }
        cursor = root;
        return true;
    }

    public boolean goCar() {
        if (kind() != KIND_PAIR) {
            return false;
        }
        cursor = valueFirst[cursor];
        return true;
    }

    public boolean goCdr() {
        if (kind() != KIND_PAIR) {
            return false;
        }
        cursor = valueSecond[cursor];
        return true;
    }

    private static int clamp(int number, int greatest) {
        if (number < 1) {
            return 1;
        }
        return number > greatest ? greatest : number;
    }

    private void forgetResult() {
        status = NO_RESULT;
        steps = 0;
        maxDepth = 0;
        root = NO_VALUE;
        cursor = NO_VALUE;
    }

    // ---- compiling: the grammar ----

    /** Finds where each item ends; answers false if a paren has no partner. */
    private boolean parensMatch() {
        int open = NO_TOKEN;
        for (int at = 0; at < tokenCount; at++) {
            after[at] = at + 1;
            if (tokenKind[at] == TOK_LPAREN) {
                // Until its partner is found, an open paren's place holds the one around it.
                after[at] = open;
                open = at;
            } else if (tokenKind[at] == TOK_RPAREN) {
                if (open == NO_TOKEN) {
                    return false;
                }
                int around = after[open];
                after[open] = at + 1;
                open = around;
            }
        }
        return open == NO_TOKEN;
    }

    /** A form gives its items their roles before the walk comes to them, so one walk is enough. */
    private boolean grammarFits() {
        if (tokenCount == 0 || after[0] != tokenCount) {
            return false;
        }
        for (int at = 0; at < tokenCount; at++) {
            role[at] = ROLE_NONE;
        }
        role[0] = ROLE_EXPR;
        for (int at = 0; at < tokenCount; at++) {
            boolean fits = true;
            if (role[at] == ROLE_DATUM) {
                fits = datumFits(at);
            } else if (role[at] == ROLE_EXPR) {
                fits = tokenKind[at] == TOK_LPAREN ? formFits(at) : atomFits(at);
            }
            if (!fits) {
                return false;
            }
        }
        return true;
    }

    private boolean datumFits(int at) {
        if (tokenKind[at] == TOK_LPAREN) {
            giveRole(at + 1, ROLE_DATUM);
            return true;
        }
        return tokenKind[at] == TOK_NUM || tokenKind[at] == TOK_NIL;
    }

    private boolean atomFits(int at) {
        return tokenKind[at] == TOK_NUM || tokenKind[at] == TOK_NIL || tokenKind[at] == TOK_SYM;
    }

    private boolean formFits(int form) {
        int items = itemCount(form);
        switch (tokenKind[form + 1]) {
            case TOK_QUOTE:
                giveRole(form + 2, ROLE_DATUM);
                return items == 2;
            case TOK_LAMBDA:
                return items == 3 && lambdaFits(form);
            case TOK_LET:
            case TOK_LETREC:
                return items == 3 && letFits(form);
            case TOK_IF:
                giveRole(form + 2, ROLE_EXPR);
                return items == 4;
            case TOK_CAR:
            case TOK_CDR:
            case TOK_NULL:
                giveRole(form + 2, ROLE_EXPR);
                return items == 2;
            case TOK_CONS:
            case TOK_ADD:
            case TOK_SUB:
            case TOK_MUL:
            case TOK_DIV:
            case TOK_EQ:
            case TOK_LT:
                giveRole(form + 2, ROLE_EXPR);
                return items == 3;
            default:
                giveRole(form + 1, ROLE_EXPR);
                return items >= 1 && items <= 1 + MAX_ARGS;
        }
    }

    private boolean lambdaFits(int form) {
        int names = form + 2;
        if (tokenKind[names] != TOK_LPAREN) {
            return false;
        }
        int name = names + 1;
        for (int count = 0; count < MAX_ARGS && tokenKind[name] != TOK_RPAREN; count++) {
            if (!takeName(names, name)) {
                return false;
            }
            name++;
        }
        role[after[names]] = ROLE_EXPR;
        return tokenKind[name] == TOK_RPAREN;
    }

    private boolean letFits(int form) {
        int binds = form + 2;
        if (tokenKind[binds] != TOK_LPAREN || tokenKind[binds + 1] == TOK_RPAREN) {
            return false;
        }
        boolean onlyLams = tokenKind[form + 1] == TOK_LETREC;
        int bind = binds + 1;
        for (int count = 0; count < MAX_ARGS && tokenKind[bind] != TOK_RPAREN; count++) {
            if (!bindFits(binds, bind, onlyLams)) {
                return false;
            }
            bind = after[bind];
        }
        role[after[binds]] = ROLE_EXPR;
        return tokenKind[bind] == TOK_RPAREN;
    }

    private boolean bindFits(int binds, int bind, boolean onlyLams) {
        if (tokenKind[bind] != TOK_LPAREN || itemCount(bind) != 2 || !takeName(binds, bind + 1)) {
            return false;
        }
        int bound = bind + 2;
        role[bound] = ROLE_EXPR;
        return !onlyLams || tokenKind[bound] == TOK_LPAREN && tokenKind[bound + 1] == TOK_LAMBDA;
    }

    /**
     * Takes a token as a name bound by the list that opens before it, if it is a name and new there.
     * The names of forms further in do not disturb: the walk has not come to them yet.
     */
    private boolean takeName(int list, int name) {
        if (tokenKind[name] != TOK_SYM) {
            return false;
        }
        for (int at = list + 1; at < name; at++) {
            if (role[at] == ROLE_NAME && tokenValue[at] == tokenValue[name]) {
                return false;
            }
        }
        role[name] = ROLE_NAME;
        return true;
    }

    /** Gives the role to the item at a token and to those behind it in the same list. */
    private void giveRole(int first, int itemRole) {
        int item = first;
        for (int count = 0; count < MAX_TOKENS && tokenKind[item] != TOK_RPAREN; count++) {
            role[item] = itemRole;
            item = after[item];
        }
    }

    private int itemCount(int list) {
        int item = list + 1;
        int count = 0;
        while (count < MAX_TOKENS && tokenKind[item] != TOK_RPAREN) {
            item = after[item];
            count++;
        }
        return count;
    }

    // ---- compiling: scope and literals ----

    private boolean namesAreBound() {
        scope[0] = NO_TOKEN;
        for (int at = 0; at < tokenCount; at++) {
            if (role[at] == ROLE_EXPR && tokenKind[at] == TOK_LPAREN) {
                scopeForm(at);
            }
            if (role[at] == ROLE_EXPR && tokenKind[at] == TOK_SYM && !findBinding(at)) {
                return false;
            }
        }
        return true;
    }

    private boolean findBinding(int symbol) {
        int name = scope[symbol];
        int count = 0;
        while (count < MAX_TOKENS && name != NO_TOKEN && tokenValue[name] != tokenValue[symbol]) {
            name = scope[name];
            count++;
        }
        hops[symbol] = count;
        return name != NO_TOKEN;
    }

    private void scopeForm(int form) {
        switch (tokenKind[form + 1]) {
            case TOK_LAMBDA:
                scopeLambda(form);
                break;
            case TOK_LET:
            case TOK_LETREC:
                scopeLet(form);
                break;
            default:
                scopeItems(form);
                break;
        }
    }

    private void scopeLambda(int form) {
        int innermost = scope[form];
        int name = form + 3;
        for (int count = 0; count < MAX_ARGS && tokenKind[name] != TOK_RPAREN; count++) {
            scope[name] = innermost;
            innermost = name;
            name++;
        }
        scope[body(form)] = innermost;
    }

    private void scopeLet(int form) {
        int innermost = scope[form];
        int bind = form + 3;
        for (int count = 0; count < MAX_ARGS && tokenKind[bind] != TOK_RPAREN; count++) {
            scope[bind + 1] = innermost;
            scope[bind + 2] = scope[form];
            innermost = bind + 1;
            bind = after[bind];
        }
        scope[body(form)] = innermost;
        if (tokenKind[form + 1] == TOK_LETREC) {
            scopeLams(form, innermost);
        }
    }

    private void scopeLams(int form, int innermost) {
        int bind = form + 3;
        for (int count = 0; count < MAX_ARGS && tokenKind[bind] != TOK_RPAREN; count++) {
            scope[bind + 2] = innermost;
            bind = after[bind];
        }
    }

    private void scopeItems(int form) {
        int item = form + 1;
        for (int count = 0; count < MAX_TOKENS && tokenKind[item] != TOK_RPAREN; count++) {
            scope[item] = scope[form];
            item = after[item];
        }
    }

    private void placeLiterals() {
        for (int at = 0; at < tokenCount; at++) {
            if (tokenKind[at] == TOK_NUM) {
                setValue(at, KIND_INT, tokenValue[at], 0);
            } else if (tokenKind[at] == TOK_NIL) {
                setValue(at, KIND_NIL, 0, 0);
            } else if (role[at] == ROLE_DATUM) {
                placeList(at, at + 1);
            }
            if (role[at] == ROLE_DATUM) {
                placeList(FIRST_TAIL + at, after[at]);
            }
        }
    }

    private void placeList(int value, int element) {
        if (tokenKind[element] == TOK_RPAREN) {
            setValue(value, KIND_NIL, 0, 0);
        } else {
            setValue(value, KIND_PAIR, element, FIRST_TAIL + element);
        }
    }

    private void setValue(int value, int kind, int first, int second) {
        valueKind[value] = kind;
        valueFirst[value] = first;
        valueSecond[value] = second;
    }

    // ---- running ----

    private void startRun(int fuel) {
        forgetResult();
        fuelLimit = clamp(fuel, MAX_FUEL);
        active = 0;
        valueCount = FIRST_RUN_VALUE;
        cellCount = 0;
        frameCount = 0;
        operandCount = 0;
        evaluate(0, NO_CELL);
    }

    private void evaluate(int nextExpr, int nextEnv) {
        expr = nextExpr;
        env = nextEnv;
        answering = false;
    }

    private void evaluateBody(int form) {
        expr = body(form);
        answering = false;
    }

    private void startExpr() {
        if (steps == fuelLimit) {
            status = ERR_FUEL;
            return;
        }
        steps++;
        switch (tokenKind[expr]) {
            case TOK_LPAREN:
                startForm();
                break;
            case TOK_SYM:
                answer = boundValue(hops[expr]);
                answering = true;
                break;
            default:
                answer = expr;
                answering = true;
                break;
        }
    }

    private int boundValue(int distance) {
        int cell = env;
        for (int hop = 0; hop < distance; hop++) {
            cell = cellOuter[cell];
        }
        return cellValue[cell];
    }

    private void startForm() {
        switch (tokenKind[expr + 1]) {
            case TOK_QUOTE:
                answer = expr + 2;
                answering = true;
                break;
            case TOK_LAMBDA:
                answer = newValue(KIND_CLOSURE, expr, env);
                answering = true;
                break;
            case TOK_LETREC:
                addEmptyCells(expr);
                openFrame();
                break;
            default:
                openFrame();
                break;
        }
    }

    private void openFrame() {
        int part = firstPart(expr);
        frameForm[frameCount] = expr;
        framePart[frameCount] = part;
        frameEnv[frameCount] = env;
        frameBase[frameCount] = operandCount;
        frameCount++;
        expr = part;
    }

    private int firstPart(int form) {
        int head = tokenKind[form + 1];
        if (head == TOK_LET || head == TOK_LETREC) {
            return form + 5;
        }
        if (head >= FIRST_KEYWORD) {
            return form + 2;
        }
        int argument = after[form + 1];
        return tokenKind[argument] == TOK_RPAREN ? form + 1 : argument;
    }

    /** The part of a form to evaluate after another; NO_TOKEN when the form can be finished. */
    private int partAfter(int form, int part) {
        int head = tokenKind[form + 1];
        int next = after[part];
        if (head == TOK_IF || part == form + 1) {
            return NO_TOKEN;
        }
        if (head == TOK_LET || head == TOK_LETREC) {
            return tokenKind[next + 1] == TOK_RPAREN ? NO_TOKEN : next + 3;
        }
        if (tokenKind[next] != TOK_RPAREN) {
            return next;
        }
        return head >= FIRST_KEYWORD ? NO_TOKEN : form + 1;
    }

    private void handOverAnswer() {
        if (frameCount == 0) {
            status = OK;
            root = answer;
            cursor = answer;
            return;
        }
        int frame = frameCount - 1;
        if (framePart[frame] == NO_TOKEN) {
            active--;
            frameCount--;
            return;
        }
        operands[operandCount] = answer;
        operandCount++;
        int part = partAfter(frameForm[frame], framePart[frame]);
        framePart[frame] = part;
        if (part == NO_TOKEN) {
            finishForm(frame);
        } else {
            evaluate(part, frameEnv[frame]);
        }
    }

    private void finishForm(int frame) {
        int form = frameForm[frame];
        int base = frameBase[frame];
        int count = operandCount - base;
        int head = tokenKind[form + 1];
        operandCount = base;
        if (head < FIRST_KEYWORD) {
            call(base, count - 1);
            return;
        }
        frameCount--;
        env = frameEnv[frame];
        switch (head) {
            case TOK_IF:
                chooseBranch(form, operands[base]);
                break;
            case TOK_LET:
                addCells(base, count);
                evaluateBody(form);
                break;
            case TOK_LETREC:
                fillCells(base, count);
                evaluateBody(form);
                break;
            case TOK_CAR:
            case TOK_CDR:
                takePart(head, operands[base]);
                break;
            case TOK_NULL:
                answer = newValue(KIND_INT, valueKind[operands[base]] == KIND_NIL ? 1 : 0, 0);
                break;
            case TOK_CONS:
                answer = newValue(KIND_PAIR, operands[base], operands[base + 1]);
                break;
            default:
                calculate(head, operands[base], operands[base + 1]);
                break;
        }
    }

    private void call(int base, int arguments) {
        int closure = operands[base + arguments];
        int form = valueFirst[closure];
        if (valueKind[closure] != KIND_CLOSURE) {
            status = ERR_APPLY;
        } else if (arity(form) != arguments) {
            status = ERR_ARITY;
        } else if (active == depthLimit) {
            status = ERR_DEPTH;
        } else {
            active++;
            maxDepth = active > maxDepth ? active : maxDepth;
            env = valueSecond[closure];
            addCells(base, arguments);
            evaluateBody(form);
        }
    }

    private void chooseBranch(int form, int test) {
        int whenTrue = after[form + 2];
        if (valueKind[test] != KIND_INT) {
            status = ERR_TYPE;
        } else if (valueFirst[test] != 0) {
            evaluate(whenTrue, env);
        } else {
            evaluate(after[whenTrue], env);
        }
    }

    private void takePart(int head, int pair) {
        if (valueKind[pair] != KIND_PAIR) {
            status = ERR_TYPE;
        } else {
            answer = head == TOK_CAR ? valueFirst[pair] : valueSecond[pair];
        }
    }

    private void calculate(int head, int left, int right) {
        if (valueKind[left] != KIND_INT || valueKind[right] != KIND_INT) {
            status = ERR_TYPE;
            return;
        }
        int a = valueFirst[left];
        int b = valueFirst[right];
        int result = 0;
        switch (head) {
            case TOK_ADD:
                result = a + b;
                break;
            case TOK_SUB:
                result = a - b;
                break;
            case TOK_MUL:
                result = a * b;
                break;
            case TOK_DIV:
                if (b == 0) {
                    status = ERR_DIV;
                    return;
                }
                result = a / b;
                break;
            case TOK_EQ:
                result = a == b ? 1 : 0;
                break;
            default:
                result = a < b ? 1 : 0;
                break;
        }
        answer = newValue(KIND_INT, result, 0);
    }

    private int newValue(int kind, int first, int second) {
        int value = valueCount;
        setValue(value, kind, first, second);
        valueCount++;
        return value;
    }

    /** Extends env by a form's operands, in their order. */
    private void addCells(int base, int count) {
        for (int index = 0; index < count; index++) {
            addCell(operands[base + index]);
        }
    }

    /** Extends env by a LETREC's names before its lams, which look at no value, are evaluated. */
    private void addEmptyCells(int form) {
        int count = itemCount(form + 2);
        for (int index = 0; index < count; index++) {
            addCell(NO_VALUE);
        }
    }

    private void addCell(int value) {
        cellValue[cellCount] = value;
        cellOuter[cellCount] = env;
        env = cellCount;
        cellCount++;
    }

    /** Gives env's innermost cells their values; the last operand belongs to the innermost. */
    private void fillCells(int base, int count) {
        int cell = env;
        for (int index = count - 1; index >= 0; index--) {
            cellValue[cell] = operands[base + index];
            cell = cellOuter[cell];
        }
    }

    /** The body of a LAMBDA, LET or LETREC form stands behind its list of names or binds. */
    private int body(int form) {
        return after[form + 2];
    }

    private int arity(int form) {
        return itemCount(form + 2);
    }
}
