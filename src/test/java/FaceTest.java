import java.lang.reflect.Constructor;
import java.lang.reflect.Field;
import java.lang.reflect.Method;
import java.lang.reflect.Modifier;
import java.nio.file.Files;
import java.nio.file.Path;
import java.util.ArrayList;
import java.util.List;
import java.util.Set;
import java.util.TreeSet;

/** The face is the document's and no wider, and the source keeps to what can be told of LANGUAGE.md by words. */
public final class FaceTest {
    private static int wrong = 0;

    private static void hold(String what, boolean holds) {
        if (!holds) {
            wrong++;
            System.out.println("does not hold: " + what);
        }
    }

    public static void main(String[] args) throws Exception {
        face();
        nestedClasses();
        source();
        System.out.println(wrong == 0 ? "the face and the source hold" : wrong + " do not hold");
        if (wrong != 0) {
            System.exit(1);
        }
    }

    private static void face() {
        Class<?> type = GuardPacks.class;
        hold("public and final", Modifier.isPublic(type.getModifiers()) && Modifier.isFinal(type.getModifiers()));
        Set<String> members = new TreeSet<>();
        Set<String> faceNames = new TreeSet<>();
        for (Method method : type.getMethods()) {
            faceNames.add(method.getName());
        }
        for (Method method : type.getDeclaredMethods()) {
            hold(method + " has no name of the face",
                    !Modifier.isPrivate(method.getModifiers()) || !faceNames.contains(method.getName()));
            if (!Modifier.isPrivate(method.getModifiers()) && !method.isSynthetic()) {
                List<String> types = new ArrayList<>();
                for (Class<?> each : method.getParameterTypes()) {
                    types.add(each.getSimpleName());
                }
                hold(method + " is public and of the object", method.getModifiers() == Modifier.PUBLIC);
                members.add(method.getReturnType() + " " + method.getName() + types);
            }
        }
        hold("methods: " + members, members.equals(new TreeSet<>(List.of("int hall[int, int]",
                "int wall[int, int, boolean]", "int guard[int, int]", "int leave[int, int]", "int cell[int, int]",
                "int runs[int]", "int run[int, int, int]", "int sees[int, int]", "int seen[]", "int missed[int]",
                "int more[]", "int peace[]", "int box[int, int]", "int square[int]", "int drop[]", "int pack[int]",
                "int tried[]", "int place[int, int]", "int left[]"))));
        Constructor<?>[] made = type.getDeclaredConstructors();
        hold("one public constructor without arguments",
                made.length == 1 && made[0].getModifiers() == Modifier.PUBLIC && made[0].getParameterCount() == 0);
        Set<String> fields = new TreeSet<>();
        for (Field field : type.getDeclaredFields()) {
            if (!Modifier.isPrivate(field.getModifiers())) {
                hold(field + " is a constant", Modifier.isPublic(field.getModifiers())
                        && Modifier.isStatic(field.getModifiers()) && field.getType() == int.class);
                fields.add(field.getName());
            }
            hold(field + " is final if it is static",
                    !Modifier.isStatic(field.getModifiers()) || Modifier.isFinal(field.getModifiers()));
        }
        hold("constants: " + fields, fields.equals(Set.of("NONE", "OUTSIDE", "STATE", "ROOM", "WIDE")));
    }

    private static void nestedClasses() {
        Set<String> faceNames = new TreeSet<>();
        for (Method method : GuardPacks.class.getMethods()) {
            faceNames.add(method.getName());
        }
        Class<?>[] nested = GuardPacks.class.getDeclaredClasses();
        hold("at most twelve classes", nested.length < 12);
        for (Class<?> type : nested) {
            hold(type + " is static", Modifier.isStatic(type.getModifiers()));
            hold(type + " is not of the face", !Modifier.isPublic(type.getModifiers())
                    && !Modifier.isProtected(type.getModifiers()));
            hold(type + " has twenty fields at most", type.getDeclaredFields().length <= 20);
            for (Method method : type.getDeclaredMethods()) {
                hold(method + " has no name of the face", !faceNames.contains(method.getName()));
                hold(method + " takes seven at most", method.getParameterCount() <= 7);
            }
        }
    }

    private static void source() throws Exception {
        String text = Files.readString(Path.of("src/main/java/GuardPacks.java"));
        String[] ruledOut = {"import ", "package ", "try {", "catch", "finally", "throw", "synchronized", "assert ",
            "->", "::", "System.", "Random", "Thread", "Object", "static {"};
        for (String word : ruledOut) {
            hold("no '" + word + "' in the source", !text.contains(word));
        }
        hold("characters up to 255", text.chars().allMatch(each -> each <= 255));
    }
}
