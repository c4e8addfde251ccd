import java.io.IOException;
import java.lang.reflect.Constructor;
import java.lang.reflect.Field;
import java.lang.reflect.Method;
import java.lang.reflect.Modifier;
import java.nio.file.Files;
import java.nio.file.Path;
import java.util.ArrayList;
import java.util.Arrays;
import java.util.List;
import java.util.TreeSet;

/** The class has the document's face, and nothing beside it can be seen. */
public final class FaceTest {
    private static final String[] FACE = {
        "constant int LIMIT",
        "constant int NONE",
        "constructor []",
        "boolean there [int]",
        "int at [int, int] IndexOutOfBoundsException IllegalArgumentException",
        "int choices [int] IndexOutOfBoundsException",
        "int membrane [int, int] IndexOutOfBoundsException IllegalArgumentException IllegalStateException",
        "int outcome [int, int, int] IndexOutOfBoundsException IllegalArgumentException",
        "int outcomes [int] IllegalArgumentException",
        "int outside [int] IndexOutOfBoundsException",
        "int round [] IllegalStateException",
        "int rule [int, int, int, int] IllegalArgumentException IllegalStateException",
        "int uses [int, int] IndexOutOfBoundsException",
        "int written [int]",
        "void adopt [int] IndexOutOfBoundsException",
        "void clear [int] IllegalArgumentException",
        "void dissolve [int] IndexOutOfBoundsException IllegalStateException",
        "void divide [int, int] IndexOutOfBoundsException IllegalArgumentException IllegalStateException",
        "void into [int, int, int] IndexOutOfBoundsException IllegalArgumentException",
        "void put [int, int] IndexOutOfBoundsException IllegalArgumentException IllegalStateException",
    };

    private static int wrong = 0;

    public static void main(String[] args) throws IOException {
        Class<?> face = MembraneRounds.class;
        expect(Modifier.isPublic(face.getModifiers()) && Modifier.isFinal(face.getModifiers()), "public and final");
        TreeSet<String> due = new TreeSet<>(Arrays.asList(FACE));
        TreeSet<String> got = new TreeSet<>(seen(face));
        expect(got.equals(due), "the face is " + got + ", due is " + due);
        hiddenNames(face);
        for (Class<?> inside : face.getDeclaredClasses()) {
            int how = inside.getModifiers();
            expect(Modifier.isStatic(how) && !Modifier.isPublic(how) && !Modifier.isProtected(how), inside + " is hidden");
        }
        rowsOfTheDocument();
        System.out.println(wrong == 0 ? "the face is as due" : "the face is wrong");
        System.exit(wrong == 0 ? 0 : 1);
    }

    private static List<String> seen(Class<?> face) {
        List<String> list = new ArrayList<>();
        for (Field field : face.getDeclaredFields()) {
            int how = field.getModifiers();
            if (!Modifier.isPrivate(how)) {
                boolean constant = Modifier.isPublic(how) && Modifier.isStatic(how) && Modifier.isFinal(how);
                list.add((constant ? "constant " : "field ") + field.getType() + " " + field.getName());
            }
        }
        for (Constructor<?> made : face.getDeclaredConstructors()) {
            list.add((Modifier.isPublic(made.getModifiers()) ? "constructor " : "hidden constructor ")
                    + Arrays.toString(made.getParameterTypes()));
        }
        for (Method method : face.getDeclaredMethods()) {
            if (!Modifier.isPrivate(method.getModifiers())) {
                list.add(told(method));
            }
        }
        return list;
    }

    private static String told(Method method) {
        StringBuilder text = new StringBuilder();
        int how = method.getModifiers();
        text.append(how == Modifier.PUBLIC ? "" : Modifier.toString(how) + " ");
        text.append(method.getReturnType()).append(' ').append(method.getName()).append(' ');
        text.append(Arrays.toString(method.getParameterTypes()));
        for (Class<?> thrown : method.getExceptionTypes()) {
            text.append(' ').append(thrown.getSimpleName());
        }
        return text.toString();
    }

    /** LANGUAGE.md, rule 1: no private method bears the name of a public one. */
    private static void hiddenNames(Class<?> face) {
        TreeSet<String> open = new TreeSet<>();
        for (Method method : face.getMethods()) {
            open.add(method.getName());
        }
        List<Class<?>> classes = new ArrayList<>(Arrays.asList(face.getDeclaredClasses()));
        classes.add(face);
        for (Class<?> one : classes) {
            for (Method method : one.getDeclaredMethods()) {
                boolean own = one == face && Modifier.isPublic(method.getModifiers());
                expect(own || !open.contains(method.getName()), "a hidden " + method);
            }
        }
    }

    /** Each row of the document's face stands in the program, with the names of its arguments. */
    private static void rowsOfTheDocument() throws IOException {
        String program = Files.readString(Path.of("src/main/java/MembraneRounds.java")).replaceAll("\\s+", " ");
        String document = Files.readString(Path.of("../shared/DOC.md"));
        String start = "```java\n";
        int from = document.indexOf(start) + start.length();
        String[] rows = document.substring(from, document.indexOf("```", from)).split("\n");
        expect(rows.length == FACE.length + 2, "the document's face has " + rows.length + " rows");
        for (String row : rows) {
            String due = row.trim().replace(");", ") {").replace("Exception;", "Exception {");
            expect(program.contains(due), "there is no " + due);
        }
    }

    private static void expect(boolean fine, String what) {
        if (!fine) {
            wrong++;
            System.out.println("wrong: " + what);
        }
    }
}
