import java.lang.reflect.Constructor;
import java.lang.reflect.Field;
import java.lang.reflect.Method;
import java.lang.reflect.Modifier;
import java.util.Set;
import java.util.TreeSet;

/** The public face of the document, whole and with nothing beside it. */
public final class FaceTest {
    private static final String[] CONSTANTS = {"BAD", "EXISTS", "FULL", "NONE", "IS_DIR", "NOT_DIR", "NOT_EMPTY", "LOOP",
        "BUSY"};
    private static final Set<String> METHODS = Set.of(
        "int make(int,int,boolean)", "int link(int,int,int)", "int unlink(int,int)", "int removeDir(int,int)",
        "int rename(int,int,int,int)", "int find(int,int)", "int next(int,int)", "int count(int)", "int kind(int)",
        "int links(int)", "int open(int,int)", "int close(int)", "int opened(int)", "int fill(int,int,int,int)",
        "int read(int,int)", "int length(int)", "int cut(int,int)", "int sum(int)", "int sync()", "int crash(int,int)",
        "void idle(int)", "int faults()", "int savedFind(int,int)", "int savedRead(int,int)");

    public static void main(String[] args) throws ReflectiveOperationException {
        Class<?> face = ExtentFiles.class;
        Due.due("that the class is public and final", face.getModifiers() == (Modifier.PUBLIC | Modifier.FINAL));
        Due.due("number of nested classes", face.getDeclaredClasses().length, 0);
        constants(face);
        methods(face);
        Constructor<?>[] constructors = face.getDeclaredConstructors();
        Due.due("number of constructors", constructors.length, 1);
        Due.due("that the constructor is public and takes nothing",
            Modifier.isPublic(constructors[0].getModifiers()) && constructors[0].getParameterCount() == 0);
        Due.end();
    }

    private static void constants(Class<?> face) throws ReflectiveOperationException {
        for (int i = 0; i < CONSTANTS.length; i++) {
            Field field = face.getField(CONSTANTS[i]);
            Due.due(CONSTANTS[i], field.getInt(null), -1 - i);
            Due.due("that " + CONSTANTS[i] + " is a constant of type int", field.getType() == int.class
                && field.getModifiers() == (Modifier.PUBLIC | Modifier.STATIC | Modifier.FINAL));
        }
        Due.due("number of public fields", face.getFields().length, CONSTANTS.length);
        for (Field field : face.getDeclaredFields()) {
            Due.due("that " + field.getName() + " is public or private",
                (field.getModifiers() & (Modifier.PUBLIC | Modifier.PRIVATE)) != 0);
        }
    }

    private static void methods(Class<?> face) {
        Set<String> found = new TreeSet<>();
        Set<String> publicNames = new TreeSet<>();
        Set<String> privateNames = new TreeSet<>();
        for (Method method : face.getDeclaredMethods()) {
            if (Modifier.isPrivate(method.getModifiers())) {
                privateNames.add(method.getName());
                continue;
            }
            Due.due("that " + method.getName() + " is public and not static",
                method.getModifiers() == Modifier.PUBLIC);
            publicNames.add(method.getName());
            found.add(signature(method));
        }
        Due.due("that the public methods " + found + " are those of the document", found.equals(METHODS));
        privateNames.retainAll(publicNames);
        Due.due("that no private method bears a public name: " + privateNames, privateNames.isEmpty());
    }

    private static String signature(Method method) {
        StringBuilder text = new StringBuilder(method.getReturnType() + " " + method.getName() + "(");
        for (Class<?> type : method.getParameterTypes()) {
            text.append(text.charAt(text.length() - 1) == '(' ? "" : ",").append(type);
        }
        return text.append(")").toString();
    }
}
