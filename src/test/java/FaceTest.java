import java.lang.reflect.Field;
import java.lang.reflect.Member;
import java.lang.reflect.Method;
import java.lang.reflect.Modifier;
import java.util.Arrays;
import java.util.Set;
import java.util.TreeSet;

/** The constants, the constructor and the methods of the document, and no other visible member. */
public final class FaceTest {
    private static final String[] CONSTANTS = {
        "ERR_LENGTH=-1", "ERR_DOMAIN=-2", "ERR_INDEX=-3", "ERR_LIMIT=-4", "ERR_ARG=-5",
        "REGS=4", "RANK_INF=3", "MIN_CAP=8", "MAX_CAP=32",
        "NEG=0", "IOTA=1", "SHAPE=2", "REVERSE=3", "SUM=4", "RAVEL=5",
        "PLUS=6", "MINUS=7", "TIMES=8", "MAX=9", "RESHAPE=10", "TAKE=11", "FROM=12"
    };

    private static final String[] METHODS = {
        "int make[int, int, int, int]", "boolean scalar[int, int]", "boolean set[int, int, int]",
        "void setFill[int]", "void setRank[int, int]", "void clearRank[]",
        "int monad[int, int, int]", "int dyad[int, int, int, int]",
        "int rank[int]", "int dim[int, int]", "int count[int]", "int atom[int, int]",
        "int fill[]", "int rankSetting[int]", "int declaredRank[int, int]"
    };

    public static void main(String[] args) throws IllegalAccessException {
        Check check = new Check();
        Class<?> face = RankAgreement.class;
        check.due("class is public and final", face.getModifiers(), Modifier.PUBLIC | Modifier.FINAL);
        check.due("nested classes", face.getDeclaredClasses().length, 0);
        check.due("interfaces", face.getInterfaces().length, 0);
        check.due("constructors", face.getDeclaredConstructors().length, 1);
        check.due("constructor is public", Modifier.isPublic(face.getDeclaredConstructors()[0].getModifiers()), true);
        same(check, "constants", constants(face), CONSTANTS);
        same(check, "methods", methods(face), METHODS);
        check.finish();
    }

    private static Set<String> constants(Class<?> face) throws IllegalAccessException {
        Set<String> found = new TreeSet<>();
        for (Field field : face.getDeclaredFields()) {
            if (isVisible(field)) {
                boolean constant = field.getModifiers() == (Modifier.PUBLIC | Modifier.STATIC | Modifier.FINAL);
                found.add(field.getName() + "=" + (constant ? field.getInt(null) : "no constant"));
            }
        }
        return found;
    }

    private static Set<String> methods(Class<?> face) {
        Set<String> found = new TreeSet<>();
        for (Method method : face.getDeclaredMethods()) {
            if (isVisible(method)) {
                String parameters = Arrays.toString(method.getParameterTypes());
                found.add(method.getReturnType() + " " + method.getName() + parameters);
            }
        }
        return found;
    }

    private static boolean isVisible(Member member) {
        return !Modifier.isPrivate(member.getModifiers());
    }

    private static void same(Check check, String what, Set<String> found, String[] due) {
        Set<String> wanted = new TreeSet<>(Arrays.asList(due));
        check.due(what + " " + found + " are " + wanted, found.equals(wanted), true);
    }
}
