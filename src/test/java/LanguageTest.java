import java.io.IOException;
import java.lang.reflect.Field;
import java.lang.reflect.Method;
import java.lang.reflect.Modifier;
import java.nio.file.Files;
import java.nio.file.Path;
import java.util.Arrays;
import java.util.HashSet;
import java.util.List;
import java.util.Set;
import java.util.TreeSet;
import java.util.regex.Matcher;
import java.util.regex.Pattern;

/** The rules of LANGUAGE.md that can be seen in the text of the class or by reflection. It runs in the project's folder. */
public final class LanguageTest {
    private static final Due DUE = new Due("LanguageTest");
    private static final Path SOURCE = Path.of("src", "main", "java", "PipeHouse.java");
    private static final Set<String> FACE = new TreeSet<>(List.of(
        "int price(int,int)", "int cheapest(int,int)", "int way(int,int,int)", "int main(int,int)",
        "int hang(int,int,int)", "int units(int,int)", "int air(int,boolean)", "int cut(int)", "int lay()",
        "int rule(int,int)", "int limit(int,int)", "int node(int,int)", "int run(int,int)", "int level(int,int)",
        "int clash(int)", "int count(int)", "int bars(int,int)"));
    private static final Set<String> CONSTANTS = Set.of("NONE", "UNKNOWN", "OUTSIDE", "NOT", "FULL");

    public static void main(String[] args) throws IOException {
        String text = withoutComments(Files.readString(SOURCE));
        wordsAreAllowed(text);
        importsAreAllowed(text);
        methodsAreShort(text);
        onlyConstructorsMakeObjects(text);
        theFaceIsTheDocuments();
        classesInsideAreSmall();
        noPrivateMethodIsNamedAsAPublicOne();
        DUE.end();
    }

    private static String withoutComments(String text) {
        return text.replaceAll("(?s)/\\*.*?\\*/", "").replaceAll("//[^\n]*", "");
    }

    private static void wordsAreAllowed(String text) {
        String[] words = {"throw", "throws", "try", "catch", "synchronized", "assert", "protected", "volatile", "native",
            "equals", "hashCode", "toString", "yield", "var", "Object", "package", "NaN"};
        for (String word : words) {
            DUE.isTrue("no '" + word + "'", !Pattern.compile("\\b" + word + "\\b").matcher(text).find());
        }
        DUE.isTrue("no lambda", !text.contains("->"));
        DUE.isTrue("no method reference", !text.contains("::"));
        DUE.isTrue("no annotation", !text.contains("@"));
        DUE.isTrue("of System only arraycopy", !Pattern.compile("\\bSystem\\.(?!arraycopy\\b)").matcher(text).find());
        DUE.isTrue("no static initialiser", !Pattern.compile("\\bstatic\\s*\\{").matcher(text).find());
        DUE.isTrue("no text, so none that is joined by +", text.indexOf('"') < 0);
        DUE.isTrue("signs of ASCII alone", text.chars().allMatch(c -> c < 128));
    }

    private static void importsAreAllowed(String text) {
        Matcher m = Pattern.compile("import\\s+([^;]+);").matcher(text);
        while (m.find()) {
            DUE.isTrue("import of " + m.group(1), Set.of("java.util.Arrays", "java.util.ArrayList", "java.util.List",
                "java.util.Iterator").contains(m.group(1)));
        }
    }

    private static void methodsAreShort(String text) {
        int begun = -1, line = 0;
        String indent = "";
        for (String row : text.split("\n", -1)) {
            line++;
            Matcher m = Pattern.compile("^( +)[^=;]*\\)\\s*\\{$").matcher(row);
            if (begun < 0 && m.find()) {
                begun = line;
                indent = m.group(1);
            } else if (begun >= 0 && row.equals(indent + "}")) {
                DUE.isTrue("the method that ends in line " + line + " is short", line - begun < 60);
                begun = -1;
            }
        }
    }

    /** All calls of a run share one room for what they make: so they make nothing. */
    private static void onlyConstructorsMakeObjects(String text) {
        for (String row : text.split("\n")) {
            boolean field = row.matches(" +private final [\\w\\[\\]]+ \\w+ = new .*;");
            boolean inConstructor = row.matches(" {8}\\w+ = new [A-Z]\\w*\\(\\);");
            DUE.isTrue("made in a constructor: " + row, field || inConstructor || !row.matches(".*\\bnew\\b.*"));
        }
    }

    private static void theFaceIsTheDocuments() {
        Class<?> face = PipeHouse.class;
        DUE.isTrue("public and final", Modifier.isPublic(face.getModifiers()) && Modifier.isFinal(face.getModifiers()));
        Set<String> told = new TreeSet<>();
        for (Method m : face.getDeclaredMethods()) {
            if (Modifier.isPublic(m.getModifiers())) {
                told.add(m.getReturnType() + " " + m.getName() + Arrays.toString(m.getParameterTypes())
                    .replace('[', '(').replace(']', ')').replace(" ", ""));
            } else {
                DUE.isTrue(m.getName() + " is private", Modifier.isPrivate(m.getModifiers()));
            }
        }
        DUE.isTrue("the methods of the document: " + told, told.equals(FACE));
        Set<String> constants = new HashSet<>();
        for (Field f : face.getDeclaredFields()) {
            if (Modifier.isPublic(f.getModifiers())) {
                constants.add(f.getName());
                DUE.isTrue(f.getName() + " is an int", f.getType() == int.class);
            } else {
                DUE.isTrue(f.getName() + " is private", Modifier.isPrivate(f.getModifiers()));
            }
        }
        DUE.isTrue("the constants of the document: " + constants, constants.equals(CONSTANTS));
        DUE.is("constructors", face.getDeclaredConstructors().length, 1);
    }

    private static void classesInsideAreSmall() {
        Class<?>[] inside = PipeHouse.class.getDeclaredClasses();
        DUE.isTrue("at most twelve classes", inside.length < 12);
        for (Class<?> c : inside) {
            int flags = c.getModifiers();
            DUE.isTrue(c.getName() + " is static", Modifier.isStatic(flags));
            DUE.isTrue(c.getName() + " is not public", !Modifier.isPublic(flags) && !Modifier.isProtected(flags));
            int fields = 0;
            for (Field f : c.getDeclaredFields()) {
                fields += Modifier.isStatic(f.getModifiers()) ? 0 : 1;
                DUE.isTrue(f + " is final, if static", Modifier.isFinal(f.getModifiers()) || !Modifier.isStatic(f.getModifiers()));
            }
            DUE.isTrue(c.getName() + " has at most twenty fields", fields <= 20);
        }
    }

    private static void noPrivateMethodIsNamedAsAPublicOne() {
        Set<String> names = new HashSet<>();
        for (Method m : PipeHouse.class.getDeclaredMethods()) {
            if (Modifier.isPublic(m.getModifiers())) {
                names.add(m.getName());
            }
        }
        for (Method m : PipeHouse.class.getDeclaredMethods()) {
            DUE.isTrue(m + " is named apart", Modifier.isPublic(m.getModifiers()) || !names.contains(m.getName()));
        }
        for (Class<?> c : PipeHouse.class.getDeclaredClasses()) {
            for (Method m : c.getDeclaredMethods()) {
                DUE.isTrue(m + " is named apart", !names.contains(m.getName()));
                DUE.isTrue(m + " takes at most seven parameters", m.getParameterCount() <= 7);
            }
        }
    }
}
