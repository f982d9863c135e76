import java.lang.reflect.Constructor;
import java.lang.reflect.Field;
import java.lang.reflect.Method;
import java.lang.reflect.Modifier;
import java.nio.file.Files;
import java.nio.file.Path;
import java.util.Arrays;
import java.util.TreeSet;

/** The face is the document's and no more; of LANGUAGE.md what can be seen from outside and in the text. */
public final class FaceTest {
    private static final Due due = new Due("FaceTest");
    private static final String[] FACE = {
        "int feed(long,long,long)", "int stair()", "int step(int,int)", "boolean may(int)", "boolean stride(int)",
        "boolean back(boolean)", "int taken(int)", "int lawful()", "long many()", "long manyOf(int)", "long rank()",
        "int nth(long,int)", "int plain(int,int)", "long crowd(long,int)", "long weary(long)", "int weight(int)",
        "long two()", "int game()", "int heaps(int)", "boolean dust(int,int)", "long fit()", "int fewest()",
        "int still(int,int,int,int,int)", "int fair(int,int)", "int climb(int,int)", "boolean mark(int,boolean)", "int count(int)"};

    public static void main(String[] args) throws Exception {
        Class<?> face = StairWays.class;
        due.is("public and final", true, Modifier.isPublic(face.getModifiers()) && Modifier.isFinal(face.getModifiers()));
        TreeSet<String> names = new TreeSet<>();
        TreeSet<String> found = new TreeSet<>();
        for (Method method : face.getDeclaredMethods()) {
            if (Modifier.isPublic(method.getModifiers())) {
                names.add(method.getName());
                found.add(told(method));
            }
        }
        TreeSet<String> want = new TreeSet<>(Arrays.asList(FACE));
        due.is("methods " + found, true, found.equals(want));
        due.is("plain says what it throws", true, face.getMethod("plain", int.class, int.class).getExceptionTypes()[0]
            == java.util.NoSuchElementException.class);
        members(face, names);
        for (Class<?> inside : face.getDeclaredClasses()) {
            due.is(inside + " is static and not public", true, Modifier.isStatic(inside.getModifiers()) && !Modifier.isPublic(inside.getModifiers()));
            methodNames(inside, names);
            due.is(inside + ": fields", true, fields(inside) <= 20);
        }
        due.is("fields", true, fields(face) <= 20);
        due.is("classes", true, face.getDeclaredClasses().length <= 12);
        text();
        due.end();
    }

    private static String told(Method method) {
        StringBuilder text = new StringBuilder(method.getReturnType() + " " + method.getName() + "(");
        for (Class<?> type : method.getParameterTypes()) {
            text.append(text.charAt(text.length() - 1) == '(' ? "" : ",").append(type);
        }
        return text + ")";
    }

    private static void members(Class<?> face, TreeSet<String> names) throws Exception {
        for (Method method : face.getDeclaredMethods()) {
            int how = method.getModifiers();
            due.is(method + " is public or private", true, Modifier.isPublic(how) || Modifier.isPrivate(how));
            due.is(method + " bears no public one's name", true, Modifier.isPublic(how) || !names.contains(method.getName()));
            due.is(method + " is not static", false, Modifier.isPublic(how) && Modifier.isStatic(how));
        }
        Constructor<?>[] makers = face.getDeclaredConstructors();
        due.is("one constructor", 1, makers.length);
        due.is("a public one without arguments", true, Modifier.isPublic(makers[0].getModifiers()) && makers[0].getParameterCount() == 0);
        for (Field field : face.getDeclaredFields()) {
            int how = field.getModifiers();
            boolean isNone = field.getName().equals("NONE");
            due.is(field + " is private but for NONE", isNone, Modifier.isPublic(how));
            due.is(field + " is private but for NONE", !isNone, Modifier.isPrivate(how));
            due.is(field + " is final if static", true, !Modifier.isStatic(how) || Modifier.isFinal(how));
        }
        due.is("NONE", -1, face.getField("NONE").getInt(null));
    }

    private static void methodNames(Class<?> inside, TreeSet<String> names) {
        for (Method method : inside.getDeclaredMethods()) {
            due.is(method + " bears no public one's name", false, names.contains(method.getName()));
            due.is(method + " has at most seven parameters", true, method.getParameterCount() <= 7);
        }
    }

    private static int fields(Class<?> of) {
        int number = 0;
        for (Field field : of.getDeclaredFields()) {
            number += Modifier.isStatic(field.getModifiers()) ? 0 : 1;
        }
        return number;
    }

    private static void text() throws Exception {
        String text = Files.readString(Path.of("src/main/java/StairWays.java"));
        for (String no : new String[] {"->", "::", "catch", "finally", "synchronized", "assert ", "Random", "System.out", "hashCode", "Exact(",
            "float", "double", "static {", "package ", "\t"}) {
            due.is("the program has '" + no + "'", false, text.contains(no));
        }
        int imports = 0;
        int begun = 0;
        int number = 0;
        for (String line : text.split("\n")) {
            number++;
            imports += line.startsWith("import ") ? 1 : 0;
            if (line.endsWith(") {") && line.matches(" {4}( {4})?[a-z].*") && !line.matches(" *(if|for|while|switch) .*")) {
                begun = number;
            }
            if (line.equals("    }") || line.equals("        }")) {
                due.is("the method that ends at line " + number + " is short", true, begun == 0 || number - begun <= 60);
            }
            for (char sign : line.toCharArray()) {
                due.is("sign in line " + number, true, sign >= 32 && sign < 127);
            }
        }
        due.is("imports", 1, imports);
    }
}
