import java.io.IOException;
import java.lang.reflect.Constructor;
import java.lang.reflect.Field;
import java.lang.reflect.Method;
import java.lang.reflect.Modifier;
import java.nio.file.Files;
import java.nio.file.Path;
import java.util.ArrayList;
import java.util.List;
import java.util.TreeSet;

/** The class has the document's face and nothing beside it (rules 1, 5 and 11 of LANGUAGE.md). */
public final class FaceTest {
    private static final List<String> WRONG = new ArrayList<>();

    public static void main(String[] args) throws Exception {
        linesOfTheDocument();
        constants();
        members();
        nestedClasses();
        for (String line : WRONG) {
            System.out.println(line);
        }
        System.exit(WRONG.isEmpty() ? 0 : 1);
    }

    private static void due(String what, Object got, Object want) {
        if (!want.equals(got)) {
            WRONG.add(what + " is " + got + ", due is " + want);
        }
    }

    /** Each line of the document's face stands in the class, with a body where the document has none. */
    private static void linesOfTheDocument() throws IOException {
        String document = Files.readString(Path.of("../shared/DOC.md"));
        String source = Files.readString(Path.of("src/main/java/RowPacker.java"));
        int heading = document.indexOf("## The public face");
        int begin = document.indexOf("{", heading) + 1;
        String[] lines = document.substring(begin, document.indexOf("\n}", begin)).strip().split("\n");
        due("lines of the document's face", lines.length, 18);
        for (String line : lines) {
            String told = line.strip();
            String want = told.startsWith("public static") ? told : told.replace(";", " {");
            due("the class has: " + want, source.contains(want), true);
        }
    }

    private static void constants() {
        due("NONE", RowPacker.NONE, -1);
        due("BARE", RowPacker.BARE, 0);
        due("SHORT", RowPacker.SHORT, 1);
        due("LONG", RowPacker.LONG, 2);
    }

    private static void members() {
        due("modifiers", RowPacker.class.getModifiers(), Modifier.PUBLIC | Modifier.FINAL);
        TreeSet<String> open = new TreeSet<>();
        for (Method method : RowPacker.class.getDeclaredMethods()) {
            if (!Modifier.isPrivate(method.getModifiers())) {
                open.add(told(method));
            }
        }
        for (Constructor<?> constructor : RowPacker.class.getDeclaredConstructors()) {
            due("constructor", constructor.toString(), "public RowPacker()");
        }
        TreeSet<String> fields = new TreeSet<>();
        for (Field field : RowPacker.class.getDeclaredFields()) {
            if (!Modifier.isPrivate(field.getModifiers())) {
                fields.add(field.toString());
            }
        }
        due("methods", open, new TreeSet<>(List.of(
            "public int feed(int,int,int,int,int) IllegalStateException",
            "public void end(int) IllegalArgumentException",
            "public int again(int,int) IllegalArgumentException IllegalStateException",
            "public int change(int,int) IndexOutOfBoundsException IllegalArgumentException",
            "public int pack(int) IllegalArgumentException",
            "public int unpack(int) IllegalArgumentException",
            "public int fault()", "public int place()", "public int size()",
            "public int out(int) IndexOutOfBoundsException",
            "public int turn() IllegalStateException",
            "public long sum(int) IllegalArgumentException",
            "public int blocks()",
            "public int block(int,int) IndexOutOfBoundsException IllegalArgumentException",
            "public int stretches()")));
        due("fields", fields, new TreeSet<>(List.of(
            "public static final int RowPacker.NONE", "public static final int RowPacker.BARE",
            "public static final int RowPacker.SHORT", "public static final int RowPacker.LONG")));
    }

    private static String told(Method method) {
        StringBuilder text = new StringBuilder(Modifier.toString(method.getModifiers()));
        text.append(' ').append(method.getReturnType().getName()).append(' ').append(method.getName()).append('(');
        for (int i = 0; i < method.getParameterTypes().length; i++) {
            text.append(i == 0 ? "" : ",").append(method.getParameterTypes()[i].getName());
        }
        text.append(')');
        for (Class<?> thrown : method.getExceptionTypes()) {
            text.append(' ').append(thrown.getSimpleName());
        }
        return text.toString();
    }

    private static void nestedClasses() {
        TreeSet<String> face = new TreeSet<>();
        for (Method method : RowPacker.class.getMethods()) {
            if (method.getDeclaringClass() == RowPacker.class) {
                face.add(method.getName());
            }
        }
        Class<?>[] inside = RowPacker.class.getDeclaredClasses();
        due("twelve classes at most", inside.length + 1 <= 12, true);
        for (Class<?> one : inside) {
            due(one + " is static and not public", one.getModifiers() & (Modifier.STATIC | Modifier.PUBLIC),
                Modifier.STATIC);
            for (Method method : one.getDeclaredMethods()) {
                due(method + " bears a name of the face", face.contains(method.getName()), false);
                due(method + " has seven parameters at most", method.getParameterCount() <= 7, true);
            }
            fieldsOf(one);
        }
    }

    private static void fieldsOf(Class<?> one) {
        int ofObjects = 0;
        for (Field field : one.getDeclaredFields()) {
            if (Modifier.isStatic(field.getModifiers())) {
                due(field + " is final", Modifier.isFinal(field.getModifiers()), true);
            } else {
                ofObjects++;
            }
        }
        due(one + " has twenty fields at most", ofObjects <= 20, true);
    }
}
