import java.io.IOException;
import java.lang.reflect.Constructor;
import java.lang.reflect.Field;
import java.lang.reflect.Method;
import java.lang.reflect.Modifier;
import java.nio.charset.StandardCharsets;
import java.nio.file.Files;
import java.nio.file.Path;
import java.util.List;
import java.util.Set;
import java.util.TreeSet;
import java.util.regex.Matcher;
import java.util.regex.Pattern;

/** The face, as the document has it, and what of ../shared/LANGUAGE.md can be seen by looking. */
public final class RulesTest {
    private static final Path SOURCE = Path.of("src/main/java/IronedQuarrels.java");
    private static final String[] FACE = {
        "int row(int,int)", "int lay(int,int,int)", "int at(int,int)", "int tear(int)",
        "int copy(int,int,int,int,int)", "int mean(int)", "int text(int,int)", "int put(int,int,int)",
        "int fault(int)", "int heap(int)", "int saying(int,int)", "int mark(int,int)", "int say(int,int,int,int)",
        "int unsay(int)", "int undo(int)", "int said()", "int keep(int)", "int on(int)", "int leans(int)",
        "int feeds(int)", "int first(int)", "int bundles()", "int longest(int)", "int cheapest(int)",
        "int orders()", "int judge(int)", "int last(int)", "int end(int,int)", "int rings()", "int away()",
        "int whose(int)", "int wash()", "int bill(int)", "int colour(int,int)", "int lots(int,int)",
        "int asked()", "long upper()", "long lower()", "int count(int)", "int finding()", "int findings(int)",
        "long digest()"};
    private static final String CONSTANTS = "BAD FULL FINDING STATE SPENT NONE";
    private static final String[] OUTSIDE = {"throw", "throws", "try", "catch", "finally", "synchronized", "assert",
        "instanceof", "double", "float", "protected", "transient", "volatile", "native", "goto", "var", "yield",
        "Object", "System.out", "Math.random", "hashCode", "toString", "equals", "Exact", "Long.", "HashMap"};
    private static final int MOST_LINES = 60, MOST_PARAMETERS = 7, MOST_CLASSES = 12, MOST_FIELDS = 20;
    private static final Due DUE = new Due();

    public static void main(String[] args) throws IOException {
        face();
        members(IronedQuarrels.class);
        Class<?>[] inside = IronedQuarrels.class.getDeclaredClasses();
        DUE.holds("twelve classes at most", inside.length < MOST_CLASSES);
        for (Class<?> one : inside) {
            int flags = one.getModifiers();
            DUE.holds(one + " is static", Modifier.isStatic(flags) || one.isEnum() || one.isRecord());
            DUE.holds(one + " is not public or protected", !Modifier.isPublic(flags) && !Modifier.isProtected(flags));
            members(one);
        }
        source();
        DUE.finish("RulesTest");
    }

    private static void face() {
        Class<?> face = IronedQuarrels.class;
        DUE.holds("public and final", Modifier.isPublic(face.getModifiers()) && Modifier.isFinal(face.getModifiers()));
        Set<String> methods = new TreeSet<>();
        for (Method method : face.getDeclaredMethods()) {
            if (!Modifier.isPrivate(method.getModifiers()) && !method.isSynthetic()) {
                DUE.holds(method + " is public", Modifier.isPublic(method.getModifiers()));
                DUE.holds(method + " is no static one", !Modifier.isStatic(method.getModifiers()));
                methods.add(told(method));
            }
        }
        DUE.holds("the methods of the face, " + methods, methods.equals(new TreeSet<>(List.of(FACE))));
        Set<String> constants = new TreeSet<>();
        for (Field field : face.getDeclaredFields()) {
            if (!Modifier.isPrivate(field.getModifiers())) {
                DUE.holds(field + " is an int", field.getType() == int.class && Modifier.isPublic(field.getModifiers()));
                constants.add(field.getName());
            }
        }
        DUE.holds("the constants of the face", constants.equals(new TreeSet<>(List.of(CONSTANTS.split(" ")))));
        Constructor<?>[] made = face.getDeclaredConstructors();
        DUE.holds("one constructor, public", made.length == 1 && Modifier.isPublic(made[0].getModifiers()));
        DUE.holds("without parameters", made[0].getParameterCount() == 0);
    }

    private static String told(Method method) {
        StringBuilder told = new StringBuilder();
        told.append(method.getReturnType().getName()).append(' ').append(method.getName()).append('(');
        for (Class<?> type : method.getParameterTypes()) {
            told.append(told.charAt(told.length() - 1) == '(' ? "" : ",").append(type.getName());
        }
        return told.append(')').toString();
    }

    private static void members(Class<?> one) {
        Set<String> faceNames = new TreeSet<>();
        for (String method : FACE) {
            faceNames.add(method.substring(method.indexOf(' ') + 1, method.indexOf('(')));
        }
        for (Method method : one.getDeclaredMethods()) {
            boolean inFace = one == IronedQuarrels.class && Modifier.isPublic(method.getModifiers());
            DUE.holds(method + " bears no name of the face", inFace || !faceNames.contains(method.getName()));
            DUE.holds(method + " has few parameters", method.getParameterCount() <= MOST_PARAMETERS);
        }
        int fields = 0;
        for (Field field : one.getDeclaredFields()) {
            boolean fixed = Modifier.isStatic(field.getModifiers());
            fields += fixed ? 0 : 1;
            DUE.holds(field + ", static, is final", !fixed || Modifier.isFinal(field.getModifiers()));
        }
        DUE.holds(one + " has few fields", fields <= MOST_FIELDS);
    }

    private static void source() throws IOException {
        String text = Files.readString(SOURCE, StandardCharsets.ISO_8859_1);
        DUE.holds("signs 1 to 127 alone", text.chars().allMatch(sign -> sign > 0 && sign < 128));
        String code = text.replaceAll("(?s)/\\*.*?\\*/", "").replaceAll("//[^\n]*", "").replaceAll("\"[^\"\n]*\"", "\"\"");
        for (String word : OUTSIDE) {
            String end = word.endsWith(".") ? "" : "\\b";
            boolean found = Pattern.compile("\\b" + Pattern.quote(word) + end).matcher(code).find();
            DUE.holds("no " + word, !found);
        }
        DUE.holds("no lambda, no method reference", !code.contains("->") && !code.contains("::"));
        DUE.holds("no text joined by +", !code.contains("\"\" +") && !code.contains("+ \"\""));
        Matcher imports = Pattern.compile("(?m)^import (.*);$").matcher(code);
        while (imports.find()) {
            boolean listed = List.of("java.util.Arrays", "java.util.ArrayList", "java.util.List").contains(imports.group(1));
            DUE.holds("import of " + imports.group(1), listed);
        }
        DUE.holds("no package", !Pattern.compile("(?m)^package ").matcher(code).find());
        methodsAreShort(text);
        objectsAreCounted(code);
    }

    /** All calls of a run live in one room: fields and constructors make rows, of the calls keep() alone. */
    private static void objectsAreCounted(String code) {
        Pattern counted = Pattern.compile("private final [\\w\\[\\]]+ \\w+ = new .*;|sizes = new int\\[number\\];"
                + "|cells = new int\\[number \\* width\\];|place = new Heap\\(\\);");
        for (String line : code.split("\n")) {
            boolean makes = Pattern.compile("\\bnew\\b|\\.clone\\(|copyOf|substring|StringBuilder").matcher(line).find();
            DUE.holds("counted: " + line.strip(), !makes || counted.matcher(line.strip()).matches());
        }
    }

    /** A method begins at a line that ends with ") {" by the indent of a member, and ends at its "}". */
    private static void methodsAreShort(String text) {
        String[] lines = text.split("\n");
        Pattern head = Pattern.compile("( {4}| {8})(?!if|for|while|switch|else|return|\\}| )[A-Za-z].*\\) \\{");
        int found = 0;
        for (int i = 0; i < lines.length; i++) {
            Matcher start = head.matcher(lines[i]);
            if (start.matches()) {
                int end = i + 1;
                while (end < lines.length && !lines[end].equals(start.group(1) + "}")) {
                    end++;
                }
                found++;
                DUE.holds(lines[i] + " is short", end - i < MOST_LINES);
            }
        }
        DUE.holds("methods were found", found > FACE.length);
    }
}
