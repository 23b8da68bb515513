import java.lang.reflect.Constructor;
import java.lang.reflect.Field;
import java.lang.reflect.Method;
import java.lang.reflect.Modifier;
import java.util.Arrays;
import java.util.Set;
import java.util.TreeSet;

/** The face of the class is that of the document, and nothing more of it can be seen. */
public final class FaceTest {
    private static final String[] FACE = {
        "int inn(int,int)", "int landlord(int)", "int wet(int,int)", "int one(int,int)", "int type(int)",
        "int clear()", "int read()", "int comes(int)", "int goes(int)", "int letter(int,int)",
        "int nights(int)", "int undo()", "int of(int,int)", "int now(int)", "int may()", "int when(int)",
        "int pen(int)", "int order(int)", "int seen(int,int,int,int)", "int often(int,int)", "int tell(int)",
        "int note(int,int,int,int,int)", "int mark(int,int,int)", "int forget(int)", "int is(int)",
        "int look(int)", "int kinds()", "int ask()", "int door(int)", "int rain(int,int)",
        "int decades(int,int)", "long part(int)", "int image(int)", "int from(int)", "int status(int)",
        "int count(int)", "long digest()"};

    public static void main(String[] args) {
        Due.promise("the face");
        Class<?> face = InnTurned.class;
        Due.holds("public final", Modifier.isPublic(face.getModifiers()) && Modifier.isFinal(face.getModifiers()));
        methods(face);
        fields(face);
        Constructor<?>[] made = face.getDeclaredConstructors();
        Due.due("constructors", made.length, 1);
        Due.holds("public InnTurned()", Modifier.isPublic(made[0].getModifiers()) && made[0].getParameterCount() == 0);
        inside(face);
        constants();
        Due.end();
    }

    private static void methods(Class<?> face) {
        Set<String> told = new TreeSet<>(Arrays.asList(FACE));
        Set<String> names = new TreeSet<>();
        for (String line : FACE) names.add(line.substring(line.indexOf(' ') + 1, line.indexOf('(')));
        for (Method method : face.getDeclaredMethods()) {
            if (method.isSynthetic()) continue;
            if (Modifier.isPrivate(method.getModifiers())) {
                Due.holds("private " + method.getName() + " has a name of its own", !names.contains(method.getName()));
            } else {
                Due.holds(line(method) + " is told", told.remove(line(method)));
                Due.holds(method.getName() + " is public", Modifier.isPublic(method.getModifiers()));
            }
        }
        Due.holds("missing: " + told, told.isEmpty());
    }

    private static String line(Method method) {
        StringBuilder line = new StringBuilder(method.getReturnType() + " " + method.getName() + "(");
        for (Class<?> type : method.getParameterTypes()) {
            if (line.charAt(line.length() - 1) != '(') line.append(',');
            line.append(type);
        }
        return line.append(')').toString();
    }

    private static void fields(Class<?> face) {
        int seen = 0;
        for (Field field : face.getDeclaredFields()) {
            if (!Modifier.isPrivate(field.getModifiers())) seen++;
        }
        Due.due("fields that can be seen", seen, 4);
    }

    private static void inside(Class<?> face) {
        for (Class<?> own : face.getDeclaredClasses()) {
            boolean hidden = !Modifier.isPublic(own.getModifiers()) && !Modifier.isProtected(own.getModifiers());
            Due.holds(own + " is static and hidden", hidden && Modifier.isStatic(own.getModifiers()));
            fieldsAreFew(own);
        }
        fieldsAreFew(face);
        Due.holds("some twelve classes at most", face.getDeclaredClasses().length <= 13);
    }

    /** No static state; some twenty fields a class at most, beside its constants. */
    private static void fieldsAreFew(Class<?> face) {
        int own = 0;
        for (Field field : face.getDeclaredFields()) {
            boolean isFinal = Modifier.isFinal(field.getModifiers());
            if (Modifier.isStatic(field.getModifiers())) Due.holds(field + " is final", isFinal);
            else own++;
        }
        Due.holds("the fields of " + face, own <= 24);
    }

    private static void constants() {
        Due.due("NONE", InnTurned.NONE, -1);
        Due.due("BAD", InnTurned.BAD, -2);
        Due.due("NO", InnTurned.NO, -3);
        Due.due("FULL", InnTurned.FULL, -4);
    }
}
