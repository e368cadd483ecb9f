import java.io.IOException;
import java.lang.reflect.Constructor;
import java.lang.reflect.Field;
import java.lang.reflect.Method;
import java.lang.reflect.Modifier;
import java.nio.file.Files;
import java.nio.file.Path;
import java.util.TreeSet;

/** The class has the document's face and no more, and its text has nothing that LANGUAGE.md rules out. */
public final class FaceTest {
    private static final Check CHECK = new Check();

    public static void main(String[] args) throws IOException {
        String doc = Files.readString(Path.of("../shared/DOC.md"));
        String face = doc.substring(doc.indexOf("```java"), doc.indexOf("## Terms"));
        TreeSet<String> due = new TreeSet<>();
        for (String line : face.split("\n")) {
            String member = line.strip();
            if (member.startsWith("public ") && member.endsWith(";")) {
                due.add(plain(member));
            }
        }
        CHECK.holds("the document has a face", due.size() == 58);
        TreeSet<String> has = members();
        for (String member : due) {
            CHECK.holds("it has " + member, has.contains(member));
        }
        for (String member : has) {
            CHECK.holds("the document has " + member, due.contains(member));
        }
        classes();
        text(Files.readString(Path.of("src/main/java/BranchGuess.java")));
        CHECK.finish();
    }

    /** Without the names of parameters. */
    private static String plain(String member) {
        String plain = member.replace("public ", "").replace(";", "");
        return plain.replaceAll("(int|long) [a-z]+(?=[,)])", "$1");
    }

    private static TreeSet<String> members() {
        TreeSet<String> members = new TreeSet<>();
        for (Field field : BranchGuess.class.getDeclaredFields()) {
            if (!Modifier.isPrivate(field.getModifiers())) {
                members.add("static final int " + field.getName() + " = -1");
            }
        }
        for (Constructor<?> constructor : BranchGuess.class.getDeclaredConstructors()) {
            members.add("BranchGuess(" + list(constructor.getParameterTypes()) + ")");
        }
        TreeSet<String> open = new TreeSet<>();
        for (Method method : BranchGuess.class.getDeclaredMethods()) {
            if (!Modifier.isPrivate(method.getModifiers())) {
                members.add(method.getReturnType() + " " + method.getName() + "(" + list(method.getParameterTypes()) + ")");
                open.add(method.getName());
            }
        }
        for (Method method : BranchGuess.class.getDeclaredMethods()) {
            CHECK.holds("no private method bears a public name: " + method.getName(),
                !Modifier.isPrivate(method.getModifiers()) || !open.contains(method.getName()));
        }
        for (Class<?> inner : BranchGuess.class.getDeclaredClasses()) {
            for (Method method : inner.getDeclaredMethods()) {
                CHECK.holds("no method inside bears a public name: " + method.getName(), !open.contains(method.getName()));
            }
        }
        return members;
    }

    private static String list(Class<?>[] types) {
        StringBuilder list = new StringBuilder();
        for (Class<?> type : types) {
            list.append(list.length() == 0 ? "" : ", ").append(type);
        }
        return list.toString();
    }

    private static void classes() {
        CHECK.holds("public and final", Modifier.isPublic(BranchGuess.class.getModifiers())
            && Modifier.isFinal(BranchGuess.class.getModifiers()));
        Class<?>[] inside = BranchGuess.class.getDeclaredClasses();
        CHECK.holds("at most twelve classes", inside.length < 12);
        for (Class<?> inner : inside) {
            CHECK.holds(inner + " is static", Modifier.isStatic(inner.getModifiers()));
            int fields = 0;
            for (Field field : inner.getDeclaredFields()) {
                if (Modifier.isStatic(field.getModifiers())) {
                    CHECK.holds(field + " is final", Modifier.isFinal(field.getModifiers()));
                } else {
                    fields++;
                }
            }
            CHECK.holds(inner + " has twenty fields at most", fields <= 20);
            for (Method method : inner.getDeclaredMethods()) {
                CHECK.holds(method + " has seven parameters at most", method.getParameterCount() <= 7);
            }
        }
    }

    private static void text(String text) {
        String code = text.replaceAll("(?s)/\\*.*?\\*/", " ").replaceAll("//[^\n]*", " ");
        String[] banned = {"throw", "throws", "try", "catch", "synchronized", "assert", "instanceof", "hashCode",
            "toString", "Exact", "float", "double", "package", "values", "native", "volatile", "var", "goto"};
        for (String word : banned) {
            CHECK.holds("no " + word, !code.matches("(?s).*\\b" + word + "\\b.*"));
        }
        CHECK.holds("no lambda, no method reference", !code.contains("->") && !code.contains("::"));
        for (char sign : text.toCharArray()) {
            CHECK.holds("signs 1 to 127 alone", sign >= 1 && sign <= 127);
        }
        int imports = 0;
        int length = 0;
        for (String line : text.split("\n")) {
            if (line.startsWith("import ")) {
                imports++;
                CHECK.holds(line, line.equals("import java.util.Arrays;"));
            }
            CHECK.holds("a line of 120 signs at most: " + line, line.length() <= 120);
            boolean opens = line.matches(" {4}(| {4})[a-zA-Z].*\\) \\{");
            length = opens ? 0 : length + 1;
            if (line.matches(" {4}(| {4})\\}")) {
                CHECK.holds("a method of sixty lines at most, at " + line, length <= 60 || length > 200);
            }
        }
        CHECK.holds("one import", imports == 1);
    }
}
