import java.util.ArrayList;
import java.util.List;

/**
 * The document's language once more, written as recursive functions over a tree, so that the class
 * can be held against it. It answers compile's outcome and a run's outcome as text.
 */
final class Reference {
    private static final class Stop extends RuntimeException {
        private static final long serialVersionUID = 1L;
        final int outcome;

        Stop(int outcome) {
            super(null, null, false, false);
            this.outcome = outcome;
        }
    }

    /** An item of the text: a token, or a list of items. */
    private static final class Item {
        int at;
        int kind;
        int value;
        final List<Item> items = new ArrayList<>();

        boolean isList() {
            return kind == SecdLisp.TOK_LPAREN;
        }

        Item item(int index) {
            return items.get(index);
        }

        int size() {
            return items.size();
        }
    }

    private static final class Env {
        final int name;
        Object value;
        final Env outer;

        Env(int name, Object value, Env outer) {
            this.name = name;
            this.value = value;
            this.outer = outer;
        }
    }

    static final Object NIL = "nil";

    static final class Pair {
        final Object first;
        final Object second;

        Pair(Object first, Object second) {
            this.first = first;
            this.second = second;
        }
    }

    static final class Closure {
        private final Item form;
        private final Env env;

        Closure(Item form, Env env) {
            this.form = form;
            this.env = env;
        }

        int arity() {
            return form.item(1).size();
        }

        int source() {
            return form.at;
        }
    }

    private final int[] kinds;
    private final int[] values;
    private final int depthLimit;
    private int at;
    private boolean unbound;
    private Item program;
    private int fuel;
    private int active;

    /** What the last run recorded; there is no value after an error. */
    int status;
    int steps;
    int maxDepth;
    Object value;

    Reference(int depthLimit, int[] kinds, int[] values) {
        this.depthLimit = depthLimit;
        this.kinds = kinds;
        this.values = values;
    }

    int judge() {
        try {
            at = 0;
            unbound = false;
            Item whole = read();
            require(at == kinds.length);
            expr(whole, null);
            program = unbound ? null : whole;
            return unbound ? SecdLisp.ERR_UNBOUND : SecdLisp.OK;
        } catch (Stop stop) {
            return stop.outcome;
        }
    }

    void run(int givenFuel) {
        fuel = Math.max(1, Math.min(400, givenFuel));
        steps = 0;
        active = 0;
        maxDepth = 0;
        value = null;
        status = SecdLisp.OK;
        try {
            value = eval(program, null);
        } catch (Stop stop) {
            status = stop.outcome;
        }
    }

    /** The status, value, steps and greatest depth of a run, in one line. */
    String outcome(int givenFuel) {
        run(givenFuel);
        return status + " " + (value == null ? "none" : show(value)) + " steps " + steps + " depth " + maxDepth;
    }

    private static void require(boolean holds) {
        if (!holds) {
            throw new Stop(SecdLisp.ERR_SYNTAX);
        }
    }

    private Item read() {
        require(at < kinds.length && kinds[at] != SecdLisp.TOK_RPAREN);
        Item item = new Item();
        item.at = at;
        item.kind = kinds[at];
        item.value = values[at];
        at++;
        if (item.isList()) {
            while (at < kinds.length && kinds[at] != SecdLisp.TOK_RPAREN) {
                item.items.add(read());
            }
            require(at < kinds.length);
            at++;
        }
        return item;
    }

    private void expr(Item e, Env seen) {
        if (e.kind == SecdLisp.TOK_SYM) {
            unbound |= find(e.value, seen) == null;
        }
        if (!e.isList()) {
            require(e.kind == SecdLisp.TOK_NUM || e.kind == SecdLisp.TOK_NIL || e.kind == SecdLisp.TOK_SYM);
            return;
        }
        require(e.size() > 0);
        switch (e.item(0).kind) {
            case SecdLisp.TOK_QUOTE:
                require(e.size() == 2);
                datum(e.item(1));
                break;
            case SecdLisp.TOK_LAMBDA:
                lambda(e, seen);
                break;
            case SecdLisp.TOK_LET:
            case SecdLisp.TOK_LETREC:
                let(e, seen);
                break;
            default:
                int head = e.item(0).kind;
                int first = head >= SecdLisp.TOK_QUOTE ? 1 : 0;
                int least = head == SecdLisp.TOK_IF ? 4 : takesOne(head) ? 2 : first == 1 ? 3 : 1;
                require(e.size() >= least && e.size() <= (first == 1 ? least : 5));
                for (Item part : e.items.subList(first, e.size())) {
                    expr(part, seen);
                }
                break;
        }
    }

    private static boolean takesOne(int head) {
        return head == SecdLisp.TOK_CAR || head == SecdLisp.TOK_CDR || head == SecdLisp.TOK_NULL;
    }

    private static Env find(int name, Env env) {
        while (env != null && env.name != name) {
            env = env.outer;
        }
        return env;
    }

    private void datum(Item d) {
        require(d.isList() || d.kind == SecdLisp.TOK_NUM || d.kind == SecdLisp.TOK_NIL);
        for (Item part : d.items) {
            datum(part);
        }
    }

    private Env names(List<Item> names, Env seen) {
        List<Integer> met = new ArrayList<>();
        for (Item name : names) {
            require(name.kind == SecdLisp.TOK_SYM && !met.contains(name.value));
            met.add(name.value);
            seen = new Env(name.value, null, seen);
        }
        require(met.size() <= 4);
        return seen;
    }

    private void lambda(Item e, Env seen) {
        require(e.size() == 3 && e.item(1).isList());
        Env inner = names(e.item(1).items, seen);
        expr(e.item(2), inner);
    }

    private void let(Item e, Env seen) {
        require(e.size() == 3 && e.item(1).isList() && e.item(1).size() > 0);
        boolean recursive = e.item(0).kind == SecdLisp.TOK_LETREC;
        List<Item> bound = new ArrayList<>();
        for (Item bind : e.item(1).items) {
            require(bind.isList() && bind.size() == 2);
            bound.add(bind.item(0));
        }
        Env inner = names(bound, seen);
        for (Item bind : e.item(1).items) {
            Item right = bind.item(1);
            require(!recursive
                || right.isList() && right.size() > 0 && right.item(0).kind == SecdLisp.TOK_LAMBDA);
            expr(right, recursive ? inner : seen);
        }
        expr(e.item(2), inner);
    }

    private Object eval(Item e, Env env) {
        if (steps == fuel) {
            throw new Stop(SecdLisp.ERR_FUEL);
        }
        steps++;
        if (!e.isList()) {
            return e.kind == SecdLisp.TOK_SYM ? find(e.value, env).value : quoted(e);
        }
        switch (e.item(0).kind) {
            case SecdLisp.TOK_QUOTE: return quoted(e.item(1));
            case SecdLisp.TOK_LAMBDA: return new Closure(e, env);
            case SecdLisp.TOK_LET: return evalLet(e, env);
            case SecdLisp.TOK_LETREC: return evalLetrec(e, env);
            case SecdLisp.TOK_IF:
                return eval(number(eval(e.item(1), env)) != 0 ? e.item(2) : e.item(3), env);
            case SecdLisp.TOK_CONS:
                Object first = eval(e.item(1), env);
                return new Pair(first, eval(e.item(2), env));
            case SecdLisp.TOK_CAR: return pair(eval(e.item(1), env)).first;
            case SecdLisp.TOK_CDR: return pair(eval(e.item(1), env)).second;
            case SecdLisp.TOK_NULL: return eval(e.item(1), env) == NIL ? 1 : 0;
            default:
                return e.item(0).kind < SecdLisp.TOK_QUOTE ? evalCall(e, env) : evalOperator(e, env);
        }
    }

    private static Object quoted(Item d) {
        if (d.kind == SecdLisp.TOK_NUM) {
            return d.value;
        }
        Object list = NIL;
        for (int i = d.size() - 1; i >= 0; i--) {
            list = new Pair(quoted(d.item(i)), list);
        }
        return list;
    }

    private static int number(Object value) {
        if (!(value instanceof Integer)) {
            throw new Stop(SecdLisp.ERR_TYPE);
        }
        return (Integer) value;
    }

    private static Pair pair(Object value) {
        if (!(value instanceof Pair)) {
            throw new Stop(SecdLisp.ERR_TYPE);
        }
        return (Pair) value;
    }

    private Object evalLet(Item e, Env env) {
        Env inner = env;
        for (Item bind : e.item(1).items) {
            inner = new Env(bind.item(0).value, eval(bind.item(1), env), inner);
        }
        return eval(e.item(2), inner);
    }

    private Object evalLetrec(Item e, Env env) {
        Env inner = env;
        for (Item bind : e.item(1).items) {
            inner = new Env(bind.item(0).value, null, inner);
        }
        for (Item bind : e.item(1).items) {
            Object value = eval(bind.item(1), inner);
            find(bind.item(0).value, inner).value = value;
        }
        return eval(e.item(2), inner);
    }

    private Object evalOperator(Item e, Env env) {
        Object left = eval(e.item(1), env);
        Object right = eval(e.item(2), env);
        long a = number(left);
        long b = number(right);
        switch (e.item(0).kind) {
            case SecdLisp.TOK_ADD: return (int) (a + b);
            case SecdLisp.TOK_SUB: return (int) (a - b);
            case SecdLisp.TOK_MUL: return (int) (a * b);
            case SecdLisp.TOK_EQ: return a == b ? 1 : 0;
            case SecdLisp.TOK_LT: return a < b ? 1 : 0;
            default:
                if (b == 0) {
                    throw new Stop(SecdLisp.ERR_DIV);
                }
                return (int) (a / b);
        }
    }

    private Object evalCall(Item e, Env env) {
        List<Object> arguments = new ArrayList<>();
        for (int i = 1; i < e.size(); i++) {
            arguments.add(eval(e.item(i), env));
        }
        Object function = eval(e.item(0), env);
        if (!(function instanceof Closure)) {
            throw new Stop(SecdLisp.ERR_APPLY);
        }
        Closure closure = (Closure) function;
        List<Item> names = closure.form.item(1).items;
        if (names.size() != arguments.size()) {
            throw new Stop(SecdLisp.ERR_ARITY);
        }
        if (active == depthLimit) {
            throw new Stop(SecdLisp.ERR_DEPTH);
        }
        active++;
        maxDepth = Math.max(maxDepth, active);
        Env inner = closure.env;
        for (int i = 0; i < names.size(); i++) {
            inner = new Env(names.get(i).value, arguments.get(i), inner);
        }
        Object value = eval(closure.form.item(2), inner);
        active--;
        return value;
    }

    private static String show(Object value) {
        if (value instanceof Pair) {
            Pair pair = (Pair) value;
            return "[" + show(pair.first) + " . " + show(pair.second) + "]";
        }
        if (value instanceof Closure) {
            Closure closure = (Closure) value;
            return "fn" + closure.arity() + "@" + closure.source();
        }
        return value.toString();
    }
}
