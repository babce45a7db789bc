import java.lang.reflect.Member;
import java.lang.reflect.Method;
import java.lang.reflect.Modifier;
import java.nio.file.Files;
import java.nio.file.Path;
import java.util.List;
import java.util.TreeSet;
import java.util.regex.Matcher;
import java.util.regex.Pattern;

/** The public face of the document, and such rules of LANGUAGE.md as can be seen from outside. */
final class FaceTest {
    private static final String[] FACE = {
        "int word(int,int,int)", "boolean people(int,int)", "int want(int,int,int,int)", "boolean often(int,int)",
        "boolean silence(int)", "int feed(int,int,int,int,int)", "int near(int)", "int brief(int,int)",
        "int how(int,int,int)", "int sayable(int,int,int)", "long talk(int,int)", "int musts(int)", "int strike(int)",
        "long costs(int)", "int least()", "int spite(int)", "int vote(int)", "long order(int,int)", "long gap(int)",
        "long row(int,int)", "int till()", "long kept(int,int)", "long back(int)", "int told(int)", "int leads(int)",
        "int round()", "int fewest()", "int law(int,int)", "int lawIs(int,int)", "long madeUp(int,int)",
        "int check(int,int)", "int count(int)"};
    private static final String[] BARRED = {"throw", "try", "catch", "synchronized", "assert", "import", "package",
        "hashCode", "->", "::", "Exact", "String.format", "protected", "Long.MAX_VALUE", "Integer.MAX_VALUE"};

    public static void main(String[] args) throws Exception {
        face();
        inside();
        source(Files.readString(Path.of("src/main/java/WordYear.java")));
        Due.end("FaceTest");
    }

    private static String written(Method method) {
        StringBuilder text = new StringBuilder(method.getReturnType().getName() + " " + method.getName() + "(");
        String between = "";
        for (Class<?> type : method.getParameterTypes()) {
            text.append(between).append(type.getName());
            between = ",";
        }
        return text.append(")").toString();
    }

    private static void face() throws Exception {
        TreeSet<String> due = new TreeSet<>(List.of(FACE));
        TreeSet<String> names = new TreeSet<>();
        for (Method method : WordYear.class.getDeclaredMethods()) {
            if (!Modifier.isPrivate(method.getModifiers())) {
                Due.is("public " + written(method), Modifier.isPublic(method.getModifiers())
                        && !Modifier.isStatic(method.getModifiers()) && due.remove(written(method)), true);
                names.add(method.getName());
            }
        }
        Due.is("missing of the face: " + due, due.size(), 0);
        Due.is("the class is public and final",
                WordYear.class.getModifiers() & (Modifier.PUBLIC | Modifier.FINAL), Modifier.PUBLIC | Modifier.FINAL);
        Due.is("constructors", WordYear.class.getDeclaredConstructors().length, 1);
        Due.is("the constructor is public",
                Modifier.isPublic(WordYear.class.getDeclaredConstructor().getModifiers()), true);
        for (Member field : WordYear.class.getDeclaredFields()) {
            Due.is("field " + field.getName(), Modifier.isPrivate(field.getModifiers()), !field.getName().equals("NONE"));
        }
        for (Class<?> inner : WordYear.class.getDeclaredClasses()) {
            for (Method method : inner.getDeclaredMethods()) {
                Due.is(inner.getName() + "." + method.getName() + " bears a public name", names.contains(method.getName()), false);
            }
        }
        for (Method method : WordYear.class.getDeclaredMethods()) {
            Due.is(method.getName() + " is private and bears a public name",
                    Modifier.isPrivate(method.getModifiers()) && names.contains(method.getName()), false);
        }
    }

    private static void inside() {
        int classes = 1;
        for (Class<?> inner : WordYear.class.getDeclaredClasses()) {
            classes++;
            Due.is(inner.getName() + " is static", Modifier.isStatic(inner.getModifiers()), true);
            Due.is(inner.getName() + " is public", Modifier.isPublic(inner.getModifiers()), false);
            int fields = 0;
            for (Member field : inner.getDeclaredFields()) {
                if (Modifier.isStatic(field.getModifiers())) {
                    Due.is(inner.getName() + "." + field.getName() + " is final", Modifier.isFinal(field.getModifiers()), true);
                } else {
                    fields++;
                }
            }
            Due.is(inner.getName() + " has at most 20 fields", fields <= 20, true);
            for (Method method : inner.getDeclaredMethods()) {
                Due.is(method.getName() + " takes at most 7", method.getParameterCount() <= 7, true);
            }
        }
        Due.is("at most 12 classes: " + classes, classes <= 12, true);
    }

    private static void source(String text) {
        String code = text.replaceAll("(?s)/\\*.*?\\*/", "").replaceAll("//.*", "");
        for (String barred : BARRED) {
            Pattern pattern = Pattern.compile(Character.isLetter(barred.charAt(0)) ? "\\b" + barred + "\\b" : barred);
            Due.is(barred + " stands in the program", pattern.matcher(code).find(), false);
        }
        Matcher while_ = Pattern.compile("\\b(while|do)\\b").matcher(code);
        Due.is("loops that are no for", while_.find(), false);
        int longest = 0;
        int start = 0;
        String[] lines = text.split("\n");
        for (int i = 0; i < lines.length; i++) {
            if (lines[i].matches(" {4,8}(public|private|int|long|void|boolean|[A-Z]\\w*)\\b.*\\) \\{")) {
                start = i;
            }
            if (lines[i].matches(" {4}| {8}\\}") || lines[i].matches(" {4,8}\\}")) {
                longest = Math.max(longest, i - start);
                start = i;
            }
        }
        Due.is("methods of at most 60 lines: " + longest, longest <= 60, true);
        for (int i = 0; i < text.length(); i++) {
            if (text.charAt(i) > 126) {
                Due.is("a sign above 126", text.charAt(i), 0);
            }
        }
    }
}
