import java.lang.reflect.Constructor;
import java.lang.reflect.Field;
import java.lang.reflect.Member;
import java.lang.reflect.Method;
import java.lang.reflect.Modifier;
import java.nio.file.Files;
import java.nio.file.Path;
import java.util.Set;
import java.util.TreeSet;
import java.util.regex.Matcher;
import java.util.regex.Pattern;

/** What others see of the class is the public face of ../shared/DOC.md, no less and no more. */
final class FaceTest {
    public static void main(String[] args) throws Exception {
        Set<String> due = faceOfTheDocument(Files.readString(Path.of("../shared/DOC.md")));
        Set<String> got = faceOfTheClass();
        Check.due("lines of the document's face", due.size(), 47);
        for (String line : due) {
            Check.due("it has " + line, got.contains(line) ? 1 : 0, 1);
        }
        for (String line : got) {
            Check.due("the document has " + line, due.contains(line) ? 1 : 0, 1);
        }
        int modifiers = NutsUp.class.getModifiers();
        Check.due("public", Modifier.isPublic(modifiers) ? 1 : 0, 1);
        Check.due("final", Modifier.isFinal(modifiers) ? 1 : 0, 1);
        Check.due("no package", NutsUp.class.getPackageName().length(), 0);
        Check.due("nothing above it but Object", NutsUp.class.getSuperclass() == Object.class ? 1 : 0, 1);
        Check.due("no interfaces", NutsUp.class.getInterfaces().length, 0);
        Check.end();
    }

    private static Set<String> faceOfTheDocument(String document) {
        Matcher block = Pattern.compile("(?s)## The public face\\s+```java\n(.*?)```").matcher(document);
        Set<String> face = new TreeSet<>();
        if (!block.find()) {
            return face;
        }
        for (String line : block.group(1).split("\n")) {
            String words = line.trim();
            if (words.startsWith("public static final")) {
                constants(words, face);
            } else if (words.endsWith(");")) {
                // Names of parameters are no part of what others see.
                face.add(words.replace(";", "").replaceAll("\\b(int|long) \\w+(?=[,)])", "$1"));
            }
        }
        return face;
    }

    private static void constants(String words, Set<String> face) {
        String type = words.split(" ")[3];
        Matcher one = Pattern.compile("(\\w+) = ([^,;]+)").matcher(words);
        while (one.find()) {
            String value = one.group(2).replace("Long.MIN_VALUE", "" + Long.MIN_VALUE);
            face.add("public static final " + type + " " + one.group(1) + " = " + value);
        }
    }

    private static Set<String> faceOfTheClass() throws IllegalAccessException {
        Set<String> face = new TreeSet<>();
        for (Constructor<?> made : NutsUp.class.getDeclaredConstructors()) {
            add(face, made, "NutsUp(" + types(made.getParameterTypes()) + ")");
        }
        for (Method method : NutsUp.class.getDeclaredMethods()) {
            String told = method.getReturnType() + " " + method.getName() + "(" + types(method.getParameterTypes()) + ")";
            add(face, method, told);
        }
        for (Field field : NutsUp.class.getDeclaredFields()) {
            boolean constant = Modifier.isPublic(field.getModifiers()) && Modifier.isStatic(field.getModifiers());
            add(face, field, field.getType() + " " + field.getName() + (constant ? " = " + field.get(null) : ""));
        }
        for (Class<?> inside : NutsUp.class.getDeclaredClasses()) {
            if (Modifier.isPublic(inside.getModifiers()) || Modifier.isProtected(inside.getModifiers())) {
                face.add("" + inside);
            }
        }
        return face;
    }

    private static void add(Set<String> face, Member member, String told) {
        if (!Modifier.isPrivate(member.getModifiers())) {
            String modifiers = Modifier.toString(member.getModifiers());
            face.add(modifiers + (modifiers.isEmpty() ? "" : " ") + told);
        }
    }

    private static String types(Class<?>[] types) {
        StringBuilder told = new StringBuilder();
        for (Class<?> type : types) {
            told.append(told.length() == 0 ? "" : ", ").append(type);
        }
        return told.toString();
    }
}
