import java.util.ArrayList;
import java.util.List;

/**
 * Holds the class against the reference on many programs made by a fixed rule: well-formed ones,
 * the same with one or two tokens changed, and tokens in any order.
 */
final class ReferenceTest {
    private static final int PROGRAMS = 60000;
    private static final int[] EXTREMES = {
        0, 1, -1, 2, 3, -7, 10, Integer.MIN_VALUE, Integer.MAX_VALUE, 65536
    };

    private static long seed = 20261115;
    private static final List<int[]> tokens = new ArrayList<>();
    private static final List<Integer> seen = new ArrayList<>();
    private static final int[] outcomes = new int[10];
    private static final int[] judged = new int[3];

    public static void main(String[] args) {
        SecdLisp lisp = new SecdLisp(0);
        for (int i = 0; i < PROGRAMS; i++) {
            int limit = below(3) == 0 ? 1 + below(4) : 32;
            make(i);
            if (below(4) != 0 || lisp.depthLimit() != limit) {
                lisp = new SecdLisp(limit);
            }
            compare(lisp, limit);
        }
        // A generator that never reached an outcome would compare nothing there.
        for (int outcome = 0; outcome < outcomes.length; outcome++) {
            boolean met = outcome <= SecdLisp.ERR_UNBOUND ? judged[outcome] > 100 : outcomes[outcome] > 100;
            Check.same("outcome " + outcome + " was met", met || outcome == SecdLisp.ERR_NOPROG, true);
        }
        Check.end();
    }

    private static int below(int bound) {
        seed = seed * 6364136223846793005L + 1442695040888963407L;
        return (int) ((seed >>> 33) % bound);
    }

    private static void compare(SecdLisp lisp, int limit) {
        lisp.clear();
        int[] kinds = new int[tokens.size()];
        int[] values = new int[tokens.size()];
        for (int i = 0; i < kinds.length; i++) {
            kinds[i] = tokens.get(i)[0];
            values[i] = tokens.get(i)[1];
            lisp.token(kinds[i], values[i]);
        }
        Reference reference = new Reference(limit, kinds, values);
        int due = reference.judge();
        Check.same("compile of " + text(), lisp.compile(), due);
        judged[due]++;
        if (due != SecdLisp.OK) {
            Check.same("run of " + text(), lisp.run(400), SecdLisp.ERR_NOPROG);
            return;
        }
        int[] fuels = {400, 1 + below(30), 1 + below(400), 1000};
        for (int fuel : fuels) {
            int answered = lisp.run(fuel);
            Check.same("status", lisp.status(), answered);
            if (answered >= 0 && answered < outcomes.length) {
                outcomes[answered]++;
            }
            String expected = reference.outcome(fuel);
            if (expected.length() < 2000) {
                String got = answered + " " + Check.show(lisp) + " steps " + lisp.steps() + " depth "
                    + lisp.maxDepth();
                Check.same("run(" + fuel + ") under limit " + limit + " of " + text(), got, expected);
            }
        }
    }

    private static String text() {
        StringBuilder text = new StringBuilder();
        for (int[] token : tokens) {
            text.append(token[0]);
            if (token[0] == SecdLisp.TOK_NUM || token[0] == SecdLisp.TOK_SYM) {
                text.append(':').append(token[1]);
            }
            text.append(' ');
        }
        return text.toString();
    }

    private static void make(int turn) {
        do {
            tokens.clear();
            seen.clear();
            if (turn % 10 == 9) {
                anyTokens();
            } else if (turn % 10 >= 6) {
                loop(3 + below(2));
            } else {
                expr(2 + below(4));
            }
        } while (tokens.size() > SecdLisp.MAX_TOKENS);
        if (turn % 3 == 0) {
            change();
        }
    }

    private static void anyTokens() {
        int size = below(8);
        for (int i = 0; i < size; i++) {
            add(1 + below(20), below(3));
        }
    }

    private static void change() {
        int changes = 1 + below(2);
        for (int i = 0; i < changes && !tokens.isEmpty(); i++) {
            int at = below(tokens.size());
            switch (below(4)) {
                case 0:
                    tokens.remove(at);
                    break;
                case 1:
                    if (tokens.size() < SecdLisp.MAX_TOKENS) {
                        tokens.add(at, new int[] {1 + below(20), below(4)});
                    }
                    break;
                case 2:
                    tokens.set(at, new int[] {1 + below(20), below(4)});
                    break;
                default:
                    tokens.set(at, tokens.get(below(tokens.size())));
                    break;
            }
        }
    }

    private static void add(int kind, int value) {
        boolean hasValue = kind == SecdLisp.TOK_NUM || kind == SecdLisp.TOK_SYM;
        tokens.add(new int[] {kind, hasValue ? value : 0});
    }

    private static void open() {
        add(SecdLisp.TOK_LPAREN, 0);
    }

    private static void close() {
        add(SecdLisp.TOK_RPAREN, 0);
    }

    private static void name(int name) {
        add(SecdLisp.TOK_SYM, name);
    }

    /** A recursive function that counts down, so that runs grow long and deep. */
    private static void loop(int room) {
        open();
        add(SecdLisp.TOK_LETREC, 0);
        open();
        open();
        name(0);
        seen.add(0);
        open();
        add(SecdLisp.TOK_LAMBDA, 0);
        open();
        name(1);
        seen.add(1);
        close();
        open();
        add(SecdLisp.TOK_IF, 0);
        name(1);
        open();
        add(below(2) == 0 ? SecdLisp.TOK_CONS : SecdLisp.TOK_ADD + below(6), 0);
        expr(room - 2);
        callLower();
        close();
        expr(room - 2);
        close();
        close();
        close();
        close();
        seen.remove(seen.size() - 1);
        if (below(3) == 0) {
            expr(room);
        } else {
            open();
            name(0);
            add(SecdLisp.TOK_NUM, below(45));
            close();
        }
        close();
    }

    private static void callLower() {
        open();
        name(0);
        open();
        add(SecdLisp.TOK_SUB, 0);
        name(1);
        add(SecdLisp.TOK_NUM, 1);
        close();
        close();
    }

    private static void expr(int room) {
        int choice = room <= 0 ? below(3) : 3 + below(12);
        switch (choice) {
            case 0:
                add(SecdLisp.TOK_NUM, EXTREMES[below(EXTREMES.length)]);
                break;
            case 1:
                if (below(2) == 0) {
                    add(SecdLisp.TOK_NIL, 0);
                    break;
                }
                symbol();
                break;
            case 2:
                symbol();
                break;
            case 3:
                open();
                add(SecdLisp.TOK_QUOTE, 0);
                datum(3);
                close();
                break;
            case 4:
                lambda(room, below(5));
                break;
            case 5:
            case 6:
                let(room, below(3) == 0);
                break;
            case 7:
                operator(SecdLisp.TOK_IF, 3, room);
                break;
            case 8:
                operator(SecdLisp.TOK_CONS, 2, room);
                break;
            case 9:
                operator(SecdLisp.TOK_CAR + below(3), 1, room);
                break;
            case 10:
            case 11:
                operator(SecdLisp.TOK_ADD + below(6), 2, room);
                break;
            default:
                call(room);
                break;
        }
    }

    private static void symbol() {
        boolean wild = seen.isEmpty() || below(60) == 0;
        if (wild && below(20) != 0) {
            add(SecdLisp.TOK_NUM, below(5));
        } else {
            name(wild ? below(6) : seen.get(below(seen.size())));
        }
    }

    private static void datum(int room) {
        int choice = below(room <= 0 ? 2 : 5);
        if (choice == 0) {
            add(SecdLisp.TOK_NUM, EXTREMES[below(EXTREMES.length)]);
        } else if (choice == 1) {
            add(SecdLisp.TOK_NIL, 0);
        } else {
            open();
            for (int count = below(4); count > 0; count--) {
                datum(room - 1);
            }
            close();
        }
    }

    private static void operator(int kind, int count, int room) {
        open();
        add(kind, 0);
        for (int i = 0; i < count; i++) {
            expr(room - 1 - below(2));
        }
        close();
    }

    private static void lambda(int room, int arity) {
        int outer = seen.size();
        int first = below(6);
        open();
        add(SecdLisp.TOK_LAMBDA, 0);
        open();
        for (int i = 0; i < arity; i++) {
            name((first + i) % 6);
            seen.add((first + i) % 6);
        }
        close();
        expr(room - 1);
        close();
        forget(outer);
    }

    private static void forget(int outer) {
        while (seen.size() > outer) {
            seen.remove(seen.size() - 1);
        }
    }

    private static void let(int room, boolean recursive) {
        int outer = seen.size();
        int first = below(6);
        int count = 1 + below(below(4) + 1);
        List<Integer> bound = new ArrayList<>();
        for (int i = 0; i < count; i++) {
            bound.add((first + i) % 6);
        }
        if (recursive) {
            seen.addAll(bound);
        }
        open();
        add(recursive ? SecdLisp.TOK_LETREC : SecdLisp.TOK_LET, 0);
        open();
        for (int name : bound) {
            open();
            name(name);
            if (recursive) {
                lambda(room - 1, below(3));
            } else {
                expr(room - 1 - below(2));
            }
            close();
        }
        close();
        if (!recursive) {
            seen.addAll(bound);
        }
        expr(room - 1);
        close();
        forget(outer);
    }

    private static void call(int room) {
        int arity = below(5);
        open();
        if (below(3) != 0) {
            lambda(room - 1, below(12) == 0 ? below(5) : arity);
        } else {
            expr(room - 1);
        }
        for (int i = 0; i < arity; i++) {
            expr(room - 2);
        }
        close();
    }
}
