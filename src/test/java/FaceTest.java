import java.lang.reflect.Constructor;
import java.lang.reflect.Field;
import java.lang.reflect.Method;
import java.lang.reflect.Modifier;
import java.util.Set;
import java.util.TreeSet;

/** The public face is what the document lists, and nothing beyond it. */
public final class FaceTest {
    private static final String[] FACE = {
        "int make(int,int,int,int)", "int move(int,int)", "int twin(int,int)", "int is(int,int)",
        "int same(int,int)", "int length(int,int)", "long load(int,int,int)",
        "int store(int,int,int,long)", "int take(int,int,int,int)", "int put(int,int,int,int)",
        "int cross(int,int,int)", "int copy(int,int,int,int,int)", "int field(int,int)",
        "int write(int,int,int)", "int call(int,int)", "long divide(int,long,long)",
        "long real(int,long,long)", "long math(int,long)", "long narrow(int,long)",
        "long widen(int,long)", "int compare(int,long,long)", "long pass(int,int,int)",
        "int trace()", "int latest()", "int thrown(int)",
    };

    public static void main(String[] args) {
        Class<?> face = ThrowModels.class;
        int modifiers = face.getModifiers();
        Check.due("the class is public and final", Modifier.isPublic(modifiers) && Modifier.isFinal(modifiers) ? 1 : 0, 1);
        checkMethods(face);
        for (Constructor<?> constructor : face.getDeclaredConstructors()) {
            Check.due("parameters of a constructor", constructor.getParameterCount(), 0);
            Check.due("a constructor is public", Modifier.isPublic(constructor.getModifiers()) ? 1 : 0, 1);
        }
        for (Field field : face.getDeclaredFields()) {
            Check.due("private: " + field, Modifier.isPrivate(field.getModifiers()) ? 1 : 0, 1);
            checkStatic(field);
        }
        for (Class<?> inner : face.getDeclaredClasses()) {
            Check.due("static: " + inner, Modifier.isStatic(inner.getModifiers()) ? 1 : 0, 1);
            Check.due("not public: " + inner, Modifier.isPublic(inner.getModifiers()) ? 1 : 0, 0);
        }
        Check.end();
    }

    private static void checkMethods(Class<?> face) {
        Set<String> wanted = new TreeSet<>(Set.of(FACE));
        Set<String> names = new TreeSet<>();
        for (String wantedMethod : FACE) {
            names.add(wantedMethod.substring(wantedMethod.indexOf(' ') + 1, wantedMethod.indexOf('(')));
        }
        for (Method method : face.getDeclaredMethods()) {
            if (Modifier.isPrivate(method.getModifiers())) {
                Check.due("a private method named " + method.getName(), names.contains(method.getName()) ? 1 : 0, 0);
            } else if (!wanted.remove(told(method))) {
                Check.wrong("beyond the face: " + method);
            }
        }
        for (String missing : wanted) {
            Check.wrong("missing: " + missing);
        }
    }

    private static String told(Method method) {
        StringBuilder told = new StringBuilder(method.getReturnType() + " " + method.getName() + "(");
        for (Class<?> type : method.getParameterTypes()) {
            told.append(told.charAt(told.length() - 1) == '(' ? "" : ",").append(type);
        }
        String access = Modifier.toString(method.getModifiers());
        return access.equals("public") ? told.append(")").toString() : access + " " + told.append(")");
    }

    private static void checkStatic(Field field) {
        if (Modifier.isStatic(field.getModifiers())) {
            Check.due("final: " + field, Modifier.isFinal(field.getModifiers()) ? 1 : 0, 1);
        }
    }
}
