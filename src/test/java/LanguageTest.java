import java.io.IOException;
import java.lang.reflect.Field;
import java.lang.reflect.Method;
import java.lang.reflect.Modifier;
import java.nio.file.Files;
import java.nio.file.Path;
import java.util.Set;
import java.util.TreeSet;
import java.util.regex.Matcher;
import java.util.regex.Pattern;

/** The document's face, member by member, and those rules of LANGUAGE.md that a text shows. */
public final class LanguageTest {
    private static final Check CHECK = new Check();
    private static final String[] FACE = {
        "boolean clock(int)", "int child(int)", "int home(int)",
        "int fact(boolean,int,int,int,int)", "int value(boolean,int,int,int,int)",
        "int paper(int,int,int)", "int until(int,int)", "boolean close(int,int)",
        "boolean need(int,int,int,boolean)", "boolean ends(int)", "int feed(int,int,int,int,int)",
        "int end(int)", "int rules()", "int bars(int,int)", "int barred(int,int)",
        "int wish(int,int)", "int place(boolean)", "int at(int)", "int placed(int)",
        "int beds(int,int)", "int review(int,int)", "int reviews(int)", "int count(int)"};
    private static final String[] BANNED = {"throw", "throws", "try", "catch", "finally", "assert",
        "synchronized", "transient", "volatile", "native", "package", "protected", "->", "::",
        "System\\.(?!arraycopy)", "Exact\\b", "Random", "Thread", "Object\\b", "var "};

    private LanguageTest() { }

    public static void main(String[] args) throws IOException {
        face();
        nested();
        text(args.length > 0 ? args[0] : "src/main/java/HomeFinder.java");
        CHECK.finish();
    }

    private static void face() {
        Class<?> type = HomeFinder.class;
        CHECK.due("public final", type.getModifiers(), Modifier.PUBLIC | Modifier.FINAL);
        CHECK.due("constructors", type.getDeclaredConstructors().length, 1);
        CHECK.due("public constructors", type.getConstructors().length, 1);
        CHECK.due("of none", type.getConstructors()[0].getParameterCount(), 0);
        Set<String> want = new TreeSet<>(Set.of(FACE));
        for (Method method : type.getDeclaredMethods()) {
            if (!Modifier.isPrivate(method.getModifiers())) {
                CHECK.due("of the face: " + method, want.remove(shape(method)), true);
                CHECK.due("public: " + method, method.getModifiers(), Modifier.PUBLIC);
            }
        }
        CHECK.due("missing: " + want, want.size(), 0);
        for (Field field : type.getDeclaredFields()) {
            boolean constant = field.getName().equals("NONE");
            CHECK.due("private: " + field, Modifier.isPrivate(field.getModifiers()), !constant);
        }
    }

    private static String shape(Method method) {
        String text = method.toString();
        String end = text.substring(text.indexOf("HomeFinder.") + "HomeFinder.".length());
        return method.getReturnType() + " " + end;
    }

    private static void nested() {
        Set<String> faceNames = new TreeSet<>();
        for (String method : FACE) {
            faceNames.add(method.replaceAll(".* |\\(.*", ""));
        }
        Class<?>[] all = HomeFinder.class.getDeclaredClasses();
        CHECK.due("at most twelve classes", all.length <= 12, true);
        for (Class<?> type : all) {
            CHECK.due("static: " + type, Modifier.isStatic(type.getModifiers()), true);
            int fields = 0;
            for (Field field : type.getDeclaredFields()) {
                boolean shared = Modifier.isStatic(field.getModifiers());
                fields += shared ? 0 : 1;
                CHECK.due("a constant: " + field,
                        !shared || Modifier.isFinal(field.getModifiers()), true);
            }
            CHECK.due("some twenty fields: " + type, fields <= 20, true);
            for (Method method : type.getDeclaredMethods()) {
                CHECK.due("a name of its own: " + method,
                        faceNames.contains(method.getName()), false);
                CHECK.due("seven parameters: " + method, method.getParameterCount() <= 7, true);
            }
        }
    }

    private static void text(String file) throws IOException {
        String source = Files.readString(Path.of(file));
        String code = source.replaceAll("(?s)/\\*.*?\\*/", " ").replaceAll("//[^\n]*", " ")
                .replaceAll("\"[^\"\n]*\"", "\"\"");
        for (String word : BANNED) {
            boolean letters = Character.isLetter(word.charAt(0));
            Matcher found = Pattern.compile(letters ? "\\b" + word + "(?![a-z])" : word)
                    .matcher(code);
            CHECK.due("in the code: " + word, found.find(), false);
        }
        Matcher imports = Pattern.compile("import ([^;]*);").matcher(code);
        while (imports.find()) {
            CHECK.due("import " + imports.group(1),
                    imports.group(1).matches("java\\.util\\.(Arrays|ArrayList|List)"), true);
        }
        // Rows are made with the object: 'new' stands in constructors and fields alone.
        Matcher made = Pattern.compile("^ {12,}(?!.*final).*\\bnew\\b.*$", Pattern.MULTILINE)
                .matcher(code);
        CHECK.due("made by a method", made.find(), false);
    }
}
