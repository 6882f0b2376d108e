import java.lang.reflect.Constructor;
import java.lang.reflect.Field;
import java.lang.reflect.Method;
import java.lang.reflect.Modifier;
import java.util.Set;
import java.util.TreeSet;

/** The public face is the document's, and nothing else of the class can be seen. */
public final class FaceTest {
    private static final String[] FACE = {
        "int slice(int,int,int)", "int weight(int,int,int,int)", "boolean lose(int)", "int tank(int,int,int)",
        "boolean fill(int,int)", "int mark(int,int)", "int at(int,int)", "int rest(int)", "int stays(int)",
        "int wave(int,int,int)", "int sea(int)", "boolean set(int,int)", "int go(int)", "int kept(int,int)",
        "int lead(int)", "int feed(int,int,int,int,int)", "boolean end(int)", "int fault()", "boolean rules()",
        "int holds(int)", "int tried(int,int)", "int still(int)", "int hour(int,int)", "int begin(int)",
        "int best(int,int)", "int record(int)", "int clear()", "int read(int)", "int goes(int)",
        "int check(int,int,int)", "int count(int)", "int place(int)", "int wetted(int)"
    };

    private FaceTest() {
    }

    public static void main(String[] args) {
        Set<String> due = new TreeSet<>(Set.of(FACE));
        Set<String> names = new TreeSet<>();
        Set<String> seen = new TreeSet<>();
        for (Method method : ShipSways.class.getDeclaredMethods()) {
            if (!Modifier.isPrivate(method.getModifiers())) {
                seen.add(signature(method));
                names.add(method.getName());
            }
        }
        Due.yes("methods " + seen, seen.equals(due));
        for (Method method : ShipSways.class.getDeclaredMethods()) {
            if (Modifier.isPrivate(method.getModifiers())) {
                Due.no("private " + method.getName(), names.contains(method.getName()));
            }
        }
        int visible = 0;
        for (Field field : ShipSways.class.getDeclaredFields()) {
            visible += Modifier.isPrivate(field.getModifiers()) ? 0 : 1;
        }
        Due.is("visible fields", 2, visible);
        Due.is("NONE", -1, ShipSways.NONE);
        Due.is("VOID", Integer.MIN_VALUE, ShipSways.VOID);
        Constructor<?>[] makers = ShipSways.class.getDeclaredConstructors();
        Due.is("constructors", 1, makers.length);
        Due.yes("public constructor", Modifier.isPublic(makers[0].getModifiers()));
        Due.yes("final class", Modifier.isFinal(ShipSways.class.getModifiers()));
        Due.end();
    }

    private static String signature(Method method) {
        StringBuilder text = new StringBuilder(method.getReturnType() + " " + method.getName() + "(");
        for (Class<?> type : method.getParameterTypes()) {
            text.append(text.charAt(text.length() - 1) == '(' ? "" : ",").append(type);
        }
        return text.append(")").toString();
    }
}
