import java.lang.reflect.Constructor;
import java.lang.reflect.Field;
import java.lang.reflect.Method;
import java.lang.reflect.Modifier;
import java.util.Set;
import java.util.TreeSet;

/** The public face: just the document's constants, constructor and methods, nothing else visible. */
final class FaceTest {
    private static final String[] CONSTANTS = {
        "MAX_TOKENS=64", "MAX_FUEL=400", "MAX_DEPTH=32", "MAX_ARGS=4",
        "TOK_LPAREN=1", "TOK_RPAREN=2", "TOK_NUM=3", "TOK_SYM=4", "TOK_NIL=5", "TOK_QUOTE=6",
        "TOK_LAMBDA=7", "TOK_LET=8", "TOK_LETREC=9", "TOK_IF=10", "TOK_CONS=11", "TOK_CAR=12",
        "TOK_CDR=13", "TOK_NULL=14", "TOK_ADD=15", "TOK_SUB=16", "TOK_MUL=17", "TOK_DIV=18",
        "TOK_EQ=19", "TOK_LT=20",
        "NO_RESULT=-1", "OK=0", "ERR_SYNTAX=1", "ERR_UNBOUND=2", "ERR_NOPROG=3", "ERR_FUEL=4",
        "ERR_DEPTH=5", "ERR_TYPE=6", "ERR_DIV=7", "ERR_APPLY=8", "ERR_ARITY=9",
        "KIND_NONE=0", "KIND_INT=1", "KIND_NIL=2", "KIND_PAIR=3", "KIND_CLOSURE=4",
    };

    private static final String[] METHODS = {
        "public int SecdLisp.depthLimit()", "public void SecdLisp.clear()",
        "public boolean SecdLisp.token(int,int)", "public int SecdLisp.tokenCount()",
        "public int SecdLisp.compile()", "public int SecdLisp.run(int)",
        "public int SecdLisp.status()", "public int SecdLisp.steps()",
        "public int SecdLisp.maxDepth()", "public int SecdLisp.kind()",
        "public int SecdLisp.intValue()", "public int SecdLisp.closureArity()",
        "public int SecdLisp.closureSource()", "public boolean SecdLisp.goRoot()",
        "public boolean SecdLisp.goCar()", "public boolean SecdLisp.goCdr()",
    };

    public static void main(String[] args) throws IllegalAccessException {
        Check.sentence("What it is", "Public constants");
        Set<String> fields = new TreeSet<>();
        for (Field field : SecdLisp.class.getDeclaredFields()) {
            if (!Modifier.isPrivate(field.getModifiers())) {
                Check.same("modifiers of " + field.getName(), Modifier.toString(field.getModifiers()),
                    "public static final");
                Check.same("type of " + field.getName(), field.getType().getName(), "int");
                fields.add(field.getName() + "=" + field.getInt(null));
            }
        }
        Check.same("constants", fields.toString(), new TreeSet<>(Set.of(CONSTANTS)).toString());

        Check.sentence("The public face", "public final class SecdLisp");
        Set<String> methods = new TreeSet<>();
        for (Method method : SecdLisp.class.getDeclaredMethods()) {
            if (!Modifier.isPrivate(method.getModifiers())) {
                methods.add(method.toGenericString());
            }
        }
        Check.same("methods", methods.toString(), new TreeSet<>(Set.of(METHODS)).toString());

        Constructor<?>[] constructors = SecdLisp.class.getDeclaredConstructors();
        Check.same("constructors", constructors.length, 1);
        Check.same("constructor", constructors[0].toString(), "public SecdLisp(int)");
        Check.same("class", Modifier.toString(SecdLisp.class.getModifiers()), "public final");
        Check.end();
    }
}
