import java.util.ArrayList;
import java.util.List;

/** The sixteen promises once more, in their plainest form, over the reference. */
final class Model {
    private final int limit;
    private final List<int[]> tokens = new ArrayList<>();
    private Reference program;
    private Reference result;
    private Object cursor;

    Model(int depthLimit) {
        limit = Math.max(1, Math.min(32, depthLimit));
    }

    int depthLimit() {
        return limit;
    }

    void clear() {
        tokens.clear();
        program = null;
        forget();
    }

    private void forget() {
        result = null;
        cursor = null;
    }

    boolean token(int kind, int value) {
        if (kind < 1 || kind > 20 || tokens.size() == 64) {
            return false;
        }
        tokens.add(new int[] {kind, value});
        program = null;
        forget();
        return true;
    }

    int tokenCount() {
        return tokens.size();
    }

    int compile() {
        forget();
        int[] kinds = tokens.stream().mapToInt(token -> token[0]).toArray();
        int[] values = tokens.stream().mapToInt(token -> token[1]).toArray();
        Reference reference = new Reference(limit, kinds, values);
        int answer = reference.judge();
        program = answer == SecdLisp.OK ? reference : null;
        return answer;
    }

    int run(int fuel) {
        if (program == null) {
            return SecdLisp.ERR_NOPROG;
        }
        program.run(fuel);
        result = program;
        cursor = result.value;
        return result.status;
    }

    int status() {
        return result == null ? SecdLisp.NO_RESULT : result.status;
    }

    int steps() {
        return result == null ? 0 : result.steps;
    }

    int maxDepth() {
        return result == null ? 0 : result.maxDepth;
    }

    int kind() {
        if (cursor == null) {
            return SecdLisp.KIND_NONE;
        }
        if (cursor == Reference.NIL) {
            return SecdLisp.KIND_NIL;
        }
        if (cursor instanceof Reference.Pair) {
            return SecdLisp.KIND_PAIR;
        }
        return cursor instanceof Integer ? SecdLisp.KIND_INT : SecdLisp.KIND_CLOSURE;
    }

    int intValue() {
        return cursor instanceof Integer ? (Integer) cursor : 0;
    }

    int closureArity() {
        return cursor instanceof Reference.Closure ? ((Reference.Closure) cursor).arity() : -1;
    }

    int closureSource() {
        return cursor instanceof Reference.Closure ? ((Reference.Closure) cursor).source() : -1;
    }

    boolean goRoot() {
        if (result == null || result.value == null) {
            return false;
        }
        cursor = result.value;
        return true;
    }

    boolean goCar() {
        if (!(cursor instanceof Reference.Pair)) {
            return false;
        }
        cursor = ((Reference.Pair) cursor).first;
        return true;
    }

    boolean goCdr() {
        if (!(cursor instanceof Reference.Pair)) {
            return false;
        }
        cursor = ((Reference.Pair) cursor).second;
        return true;
    }
}
