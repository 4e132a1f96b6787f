import java.io.IOException;
import java.lang.reflect.Constructor;
import java.lang.reflect.Field;
import java.lang.reflect.Method;
import java.lang.reflect.Modifier;
import java.nio.file.Files;
import java.nio.file.Path;
import java.util.HashSet;
import java.util.List;
import java.util.Set;
import java.util.TreeSet;
import java.util.regex.Matcher;
import java.util.regex.Pattern;

/** The class's face, and the rules of LANGUAGE.md that can be seen from outside or in its text. */
public final class LanguageTest {
    private static final Check CHECK = new Check();
    private static final String FACE = "feed(long)int end(int)int page()int fault()int told(int)int shut(int,int)int "
        + "year(int,int)int whose(int,int)int takes(int,int,int,int,int,int,int)int ends(int,int,int,int)int "
        + "best(int,int,int,int,int)int worth(int,int,int,int,int,int)long worthOf(int,int,int,int,int,int,int)long "
        + "whole(int,int)long units(int)long without(int,int,int)long jumps(int,int,int,int,int)int offers(int)long "
        + "day(int,int)int back()int row(int)int rowOf(int,int)int knew(int)int came(int)int draw(int)int "
        + "sheet(int,int,int)int lay(int,int,int)int read(int,int,int,int)int torn()int count(int)int";

    public static void main(String[] args) throws IOException {
        Class<?> face = TakeOrPay.class;
        CHECK.at("the face");
        CHECK.holds("public and final", Modifier.isPublic(face.getModifiers()) && Modifier.isFinal(face.getModifiers()));
        CHECK.holds("no package", face.getPackageName().isEmpty());
        faceMethods(face);
        faceFields(face);
        Constructor<?>[] made = face.getDeclaredConstructors();
        CHECK.holds("one constructor without parameters", made.length == 1 && made[0].getParameterCount() == 0);
        CHECK.holds("it is public", Modifier.isPublic(made[0].getModifiers()));
        CHECK.at("the classes inside");
        Class<?>[] inside = face.getDeclaredClasses();
        CHECK.holds("some twelve classes", inside.length <= 11);
        classRules(face, Set.of());
        for (Class<?> c : inside) {
            CHECK.holds("static: " + c, Modifier.isStatic(c.getModifiers()));
            CHECK.holds("private or package-visible: " + c, !Modifier.isPublic(c.getModifiers()) && !Modifier.isProtected(c.getModifiers()));
            CHECK.holds("none inside it: " + c, c.getDeclaredClasses().length == 0);
            classRules(c, publicNames(face));
        }
        text(Files.readString(Path.of("src/main/java/TakeOrPay.java")));
        CHECK.finish();
    }

    private static Set<String> publicNames(Class<?> face) {
        Set<String> names = new HashSet<>();
        for (Method m : face.getDeclaredMethods()) {
            if (Modifier.isPublic(m.getModifiers())) {
                names.add(m.getName());
            }
        }
        return names;
    }

    private static void faceMethods(Class<?> face) {
        Set<String> found = new TreeSet<>();
        Set<String> publicNames = publicNames(face);
        for (Method m : face.getDeclaredMethods()) {
            if (Modifier.isPublic(m.getModifiers())) {
                StringBuilder b = new StringBuilder();
                for (Class<?> p : m.getParameterTypes()) {
                    b.append(b.length() == 0 ? "" : ",").append(p.getName());
                }
                found.add(m.getName() + "(" + b + ")" + m.getReturnType().getName());
            } else {
                CHECK.holds("private: " + m, Modifier.isPrivate(m.getModifiers()));
                CHECK.holds("a name of its own: " + m, !publicNames.contains(m.getName()));
            }
        }
        Set<String> want = new TreeSet<>(List.of(FACE.split(" ")));
        CHECK.holds("the methods of the document and no other: " + found, found.equals(want));
        CHECK.holds("31 promises, one of them the constructor", want.size() == 30);
    }

    private static void faceFields(Class<?> face) {
        Set<String> found = new TreeSet<>();
        for (Field f : face.getDeclaredFields()) {
            if (Modifier.isPublic(f.getModifiers())) {
                CHECK.holds("a constant int: " + f, Modifier.isStatic(f.getModifiers()) && Modifier.isFinal(f.getModifiers()) && f.getType() == int.class);
                found.add(f.getName());
            } else {
                CHECK.holds("private: " + f, Modifier.isPrivate(f.getModifiers()));
            }
        }
        CHECK.holds("the constants of the document and no other", found.equals(Set.of("BAD", "STATE", "FULL", "NONE")));
    }

    private static void classRules(Class<?> c, Set<String> taken) {
        Set<Class<?>> constants = Set.of(int.class, long.class, boolean.class, char.class, String.class,
            int[].class, long[].class, char[].class, byte[].class);
        int fields = 0;
        for (Field f : c.getDeclaredFields()) {
            if (Modifier.isStatic(f.getModifiers())) {
                CHECK.holds("a final constant: " + f, Modifier.isFinal(f.getModifiers()) && constants.contains(f.getType()));
            } else {
                fields++;
            }
        }
        CHECK.holds("some twenty fields: " + c + " " + fields, fields <= 20);
        for (Method m : c.getDeclaredMethods()) {
            CHECK.holds("seven parameters at most: " + m, m.getParameterCount() <= 7);
            CHECK.holds("no method that javac put in: " + m, !m.isSynthetic());
            CHECK.holds("a name of its own: " + m, !taken.contains(m.getName()));
        }
    }

    private static void text(String text) {
        CHECK.at("the text");
        String code = text.replaceAll("(?s)/\\*.*?\\*/", " ").replaceAll("//[^\n]*", " ");
        String bare = code.replaceAll("\"[^\"\n]*\"", "TEXT");
        String[] words = {"throw", "throws", "try", "catch", "finally", "synchronized", "assert", "native", "import",
            "package", "protected", "volatile", "transient", "double", "float", "Object", "Integer", "List", "var",
            "Thread", "Random", "System\\.(?!arraycopy)\\w+", "\\w+Exact", "equals", "hashCode", "toString", "enum"};
        for (String word : words) {
            CHECK.holds("no " + word, !Pattern.compile("\\b" + word + "\\b").matcher(bare).find());
        }
        CHECK.holds("no lambda, no arrow", !bare.contains("->"));
        CHECK.holds("no method reference", !bare.contains("::"));
        CHECK.holds("no joining by +", !bare.contains("TEXT +") && !bare.contains("+ TEXT"));
        CHECK.holds("no endless loop", !bare.contains("while (true)") && !bare.contains("for (;;)"));
        CHECK.holds("signs 1 to 127", text.chars().allMatch(c -> c > 0 && c < 128));
        Matcher method = Pattern.compile("(?m)^( {4}| {8})(?:public|private)[^;=\n]*\\) \\{\n((?s:.*?))^\\1\\}").matcher(text);
        int methods = 0;
        while (method.find()) {
            methods++;
            CHECK.holds("some sixty lines: " + method.group().split("\n")[0], method.group(2).split("\n").length <= 58);
        }
        CHECK.holds("methods were found", methods > 80);
    }
}
