import java.lang.reflect.Constructor;
import java.lang.reflect.Field;
import java.lang.reflect.Method;
import java.lang.reflect.Modifier;
import java.util.ArrayList;
import java.util.Collections;
import java.util.List;

/** The public face, its constants, and that nothing else of the class can be seen. */
final class FaceTest {
    private static final String FACE = "boolean draft(long), int entries(), int entry(int,int), int literal(int), "
        + "int operation(int,int,int), int replay(), int seek(int), int shorten(int), int state(), "
        + "int statement(int,int,int), int step(), int text(int,int), int type(int,int,int)";

    public static void main(String[] args) {
        methods();
        constants();
        Constructor<?>[] makers = CallExplorer.class.getDeclaredConstructors();
        Check.due("constructors", makers.length, 1);
        Check.due("constructor", makers[0].toString(), "public CallExplorer(int)");
        Check.due("class", Modifier.toString(CallExplorer.class.getModifiers()), "public final");
        Check.end();
    }

    private static void methods() {
        List<String> seen = new ArrayList<>();
        for (Method method : CallExplorer.class.getDeclaredMethods()) {
            if (!Modifier.isPrivate(method.getModifiers())) {
                String name = method.toString().replace("CallExplorer.", "").replace("public ", "");
                seen.add(name);
            }
        }
        Collections.sort(seen);
        Check.due("methods", String.join(", ", seen), FACE);
    }

    private static void constants() {
        List<String> seen = new ArrayList<>();
        for (Field field : CallExplorer.class.getDeclaredFields()) {
            if (!Modifier.isPrivate(field.getModifiers())) {
                seen.add(field.getName());
            }
        }
        Check.due("fields", String.join(" ", seen), "NONE LACK LONG AGAIN INVALID FULL");
        Check.due("NONE", CallExplorer.NONE, -1);
        Check.due("LACK", CallExplorer.LACK, -2);
        Check.due("LONG", CallExplorer.LONG, -3);
        Check.due("AGAIN", CallExplorer.AGAIN, -4);
        Check.due("INVALID", CallExplorer.INVALID, -5);
        Check.due("FULL", CallExplorer.FULL, -6);
    }
}
