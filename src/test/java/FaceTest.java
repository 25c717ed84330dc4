import java.lang.reflect.Constructor;
import java.lang.reflect.Field;
import java.lang.reflect.Method;
import java.lang.reflect.Modifier;
import java.nio.file.Files;
import java.nio.file.Path;
import java.util.ArrayList;
import java.util.Arrays;
import java.util.List;
import java.util.TreeSet;
import java.util.regex.Matcher;
import java.util.regex.Pattern;

/** The class has the document's face and no other member that can be seen from outside. */
public final class FaceTest {
    private static final Path DOCUMENT = Path.of("../shared/DOC.md");
    private static int wrong = 0;

    private static void say(String what) {
        wrong++;
        System.out.println(what);
    }

    private static TreeSet<String> promised() throws Exception {
        String text = Files.readString(DOCUMENT);
        String face = text.substring(text.indexOf("public final class"), text.indexOf("## Terms"));
        TreeSet<String> methods = new TreeSet<>();
        Matcher m = Pattern.compile("public int (\\w+)\\(([^)]*)\\);").matcher(face);
        while (m.find()) {
            List<String> types = new ArrayList<>();
            for (String p : m.group(2).split(",")) if (!p.isBlank()) types.add(p.trim().split(" ")[0]);
            methods.add(m.group(1) + types);
        }
        return methods;
    }

    private static boolean hidden(int modifiers) {
        return Modifier.isPrivate(modifiers);
    }

    public static void main(String[] args) throws Exception {
        TreeSet<String> seen = new TreeSet<>();
        TreeSet<String> names = new TreeSet<>();
        for (Method m : HeartHours.class.getDeclaredMethods()) {
            if (hidden(m.getModifiers())) continue;
            if (!Modifier.isPublic(m.getModifiers()) || Modifier.isStatic(m.getModifiers()) || m.getReturnType() != int.class) say("not of the face: " + m);
            List<String> types = new ArrayList<>();
            for (Class<?> c : m.getParameterTypes()) types.add(c.getName());
            seen.add(m.getName() + types);
            names.add(m.getName());
        }
        if (!seen.equals(promised()) || seen.size() != 52) say("the methods are " + seen + ", due are " + promised());
        List<Class<?>> all = new ArrayList<>(Arrays.asList(HeartHours.class.getDeclaredClasses()));
        all.add(HeartHours.class);
        for (Class<?> c : all) {
            for (Method m : c.getDeclaredMethods()) {
                if (names.contains(m.getName()) && !(c == HeartHours.class && Modifier.isPublic(m.getModifiers()))) say("bears a name of the face: " + m);
            }
            if (c != HeartHours.class && (!Modifier.isStatic(c.getModifiers()) || Modifier.isPublic(c.getModifiers()))) say("not so inside: " + c);
        }
        TreeSet<String> fields = new TreeSet<>();
        for (Field f : HeartHours.class.getDeclaredFields()) {
            if (hidden(f.getModifiers())) continue;
            if (f.getModifiers() != (Modifier.PUBLIC | Modifier.STATIC | Modifier.FINAL)) say("not of the face: " + f);
            fields.add(f.getName() + f.getInt(null));
        }
        if (!fields.equals(new TreeSet<>(List.of("BAD-1", "FULL-2", "NONE-3", "STATE-4")))) say("the constants are " + fields);
        Constructor<?>[] made = HeartHours.class.getDeclaredConstructors();
        if (made.length != 1 || made[0].getModifiers() != Modifier.PUBLIC || made[0].getParameterCount() != 0) say("constructors: " + Arrays.toString(made));
        if (HeartHours.class.getModifiers() != (Modifier.PUBLIC | Modifier.FINAL)) say("the class is not public and final");
        System.out.println(wrong == 0 ? "the face is as due" : "the face is not as due");
        if (wrong != 0) System.exit(1);
    }
}
