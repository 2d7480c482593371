import java.io.IOException;
import java.nio.charset.StandardCharsets;
import java.nio.file.Files;
import java.nio.file.Path;
import java.lang.reflect.Constructor;
import java.lang.reflect.Field;
import java.lang.reflect.Method;
import java.lang.reflect.Modifier;
import java.util.ArrayList;
import java.util.Arrays;
import java.util.HashSet;
import java.util.List;
import java.util.Set;
import java.util.regex.Matcher;
import java.util.regex.Pattern;

/** What of LANGUAGE.md can be seen from the source and the class files; run in the project's folder. */
public final class LanguageTest {
    private static final String[] FACE = {
        "int feed(int,int,int,int,int)", "int end(int)", "int text(int,int)", "int fault(int)", "int land(int,int)", "int cell(int,int,boolean)",
        "int deed(int,int,int)", "int stop(int,int)", "int state(int,int,int,int)", "int errand(int,int,int,int)", "int free(int,int,int,int)",
        "int relay(int,int,int,int)", "int strait(int,int,int)", "int drought(int,int,int)", "int watch(int,int,int)", "int moored(int,boolean)",
        "int route(int,int,int)", "int at(int,int,int)", "int meet(int,int,int,int,int)", "int soaked(int,int,int,boolean)", "int sight(int,int,int)",
        "long walks(int,int,int,int)", "int sure(int,int,int,int)", "int drawn(int,int,int,int)", "int portage(int,int,int,boolean)",
        "int dig(int,boolean)", "int dam(int,boolean)", "int inland(int)", "int count(int)", "boolean image(int)", "boolean again(int)"};
    private static final String[] FORBIDDEN = {"throw", "try", "catch", "finally", "synchronized", "assert", "package", "volatile", "transient",
        "native", "Object", "Exception", "Error", "Throwable", "hashCode", "toString", "HashMap", "Map", "Set", "Random", "Thread", "System", "protected"};

    public static void main(String[] args) throws IOException {
        String source = Files.readString(Path.of("src/main/java/FerryLand.java"), StandardCharsets.US_ASCII);
        String code = source.replaceAll("(?s)/\\*.*?\\*/", "").replaceAll("//[^\n]*", "");
        face();
        words(code);
        classes();
        lengths(code);
        Due.finish("LanguageTest");
    }

    private static void face() {
        Set<String> want = new HashSet<>(Arrays.asList(FACE));
        for (Method method : FerryLand.class.getDeclaredMethods()) {
            if (!Modifier.isPrivate(method.getModifiers())) {
                String types = Arrays.toString(method.getParameterTypes()).replaceAll("[\\[\\] ]", "");
                String signature = method.getReturnType() + " " + method.getName() + "(" + types + ")";
                Due.due("of the face: " + signature, want.remove(signature) && Modifier.isPublic(method.getModifiers()), true);
            }
        }
        Due.due("of the face there is not " + want, want.size(), 0);
        for (Field field : FerryLand.class.getDeclaredFields()) {
            boolean isPrivate = Modifier.isPrivate(field.getModifiers());
            Due.due("field " + field.getName(), isPrivate || field.getName().equals("NONE"), true);
        }
        Constructor<?>[] constructors = FerryLand.class.getDeclaredConstructors();
        Due.due("constructors", constructors.length, 1);
        Due.due("constructor", constructors[0].getParameterCount(), 0);
        Due.due("public and final", FerryLand.class.getModifiers(), Modifier.PUBLIC | Modifier.FINAL);
    }

    private static void words(String code) {
        for (String word : FORBIDDEN) {
            Due.due("the word " + word, Pattern.compile("\\b" + word + "\\b").matcher(code).find(), false);
        }
        Due.due("lambdas", code.contains("->"), false);
        Due.due("method references", code.contains("::"), false);
        Due.due("joining by +", Pattern.compile("\"\\s*\\+|\\+\\s*\"").matcher(code).find(), false);
        Due.due("static blocks", Pattern.compile("static\\s*\\{").matcher(code).find(), false);
        Matcher imports = Pattern.compile("import ([^;]*);").matcher(code);
        while (imports.find()) {
            Due.due("import of " + imports.group(1), imports.group(1).equals("java.util.Arrays"), true);
        }
    }

    private static void classes() {
        List<Class<?>> all = new ArrayList<>(Arrays.asList(FerryLand.class.getDeclaredClasses()));
        Due.due("so many classes", all.size() <= 11, true);
        all.add(FerryLand.class);
        Set<String> names = new HashSet<>();
        for (Method method : FerryLand.class.getDeclaredMethods()) {
            if (Modifier.isPublic(method.getModifiers())) {
                names.add(method.getName());
            }
        }
        for (Class<?> one : all) {
            int fields = 0;
            for (Field field : one.getDeclaredFields()) {
                boolean isStatic = Modifier.isStatic(field.getModifiers());
                fields += isStatic ? 0 : 1;
                Due.due("static and not final: " + field, isStatic && !Modifier.isFinal(field.getModifiers()), false);
            }
            Due.due("fields of " + one, fields <= 20, true);
            Due.due("an inner class " + one, one == FerryLand.class || Modifier.isStatic(one.getModifiers()), true);
            for (Method method : one.getDeclaredMethods()) {
                boolean isPublic = Modifier.isPublic(method.getModifiers());
                Due.due("a private one by a public name: " + method, !isPublic && names.contains(method.getName()), false);
                Due.due("parameters of " + method, method.getParameterCount() <= 7, true);
            }
        }
    }

    private static void lengths(String code) {
        int begun = -1;
        String[] lines = code.split("\n");
        for (int i = 0; i < lines.length; i++) {
            if (lines[i].matches("(    |        )(\\w.*)?\\w+\\(.*\\{") && !lines[i].contains(" class ")) {
                begun = i;
            } else if (begun >= 0 && (lines[i].equals("    }") || lines[i].equals("        }"))) {
                Due.due("lines of " + lines[begun].trim(), i - begun < 60, true);
                begun = -1;
            }
        }
    }
}
