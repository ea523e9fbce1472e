import java.lang.reflect.Constructor;
import java.lang.reflect.Field;
import java.lang.reflect.Method;
import java.lang.reflect.Modifier;
import java.nio.file.Files;
import java.nio.file.Path;
import java.util.ArrayList;
import java.util.List;
import java.util.Set;
import java.util.TreeSet;
import java.util.regex.Matcher;
import java.util.regex.Pattern;

/** The public face of the document, and the rules of LANGUAGE.md that a short look can check. */
public final class FaceTest {
    private static final Set<String> METHODS = Set.of(
        "scan(int,long)", "clean(int)", "set(int,int)", "publish()", "draw(int,int)", "look(int,long)", "take(int)",
        "restore(int)", "undo()", "append(int)", "clearText()", "run()", "failure(int)", "count(int)", "card(int,int)",
        "place(int,int,int)", "runAt(int,int,int)", "outcome(int,int,int)", "tally(int,int,int,int)",
        "changed(int,int,int)", "leader(int,int)", "error(int,int)", "byLength(int)", "drawn(int)", "seedFor(int)");
    private static final Set<String> CONSTANTS = Set.of("INVALID_ARGUMENT", "ILLEGAL_STATE", "CAPACITY_EXCEEDED", "NONE");
    private static final String[] RULED_OUT = {
        "\\bthrow\\b", "\\btry\\b", "\\bcatch\\b", "\\bsynchronized\\b", "\\bassert\\b", "\\bpackage\\b", "->", "::",
        "\\bThread\\b", "\\bhashCode\\b", "Exact\\(", "\\bstatic\\s*\\{", "\\bRandom\\b", "\\bSystem\\.(?!arraycopy)",
        "\\bimport (?!java\\.util\\.(ArrayList|List|Arrays|Iterator);)"
    };

    private static final List<String> faults = new ArrayList<>();

    public static void main(String[] args) throws Exception {
        face();
        nested();
        source(Files.readString(Path.of("src/main/java/SmudgeTally.java")));
        for (String fault : faults) System.out.println(fault);
        if (!faults.isEmpty()) System.exit(1);
        System.out.println("the face is that of the document");
    }

    private static void expect(boolean holds, String fault) {
        if (!holds) faults.add(fault);
    }

    private static void face() {
        Class<?> face = SmudgeTally.class;
        expect(Modifier.isPublic(face.getModifiers()) && Modifier.isFinal(face.getModifiers()), "not public and final");
        Set<String> methods = new TreeSet<>();
        for (Method method : face.getDeclaredMethods()) {
            if (Modifier.isPrivate(method.getModifiers())) continue;
            expect(Modifier.isPublic(method.getModifiers()), "neither public nor private: " + method);
            expect(method.getReturnType() == int.class && !Modifier.isStatic(method.getModifiers()), "form of " + method);
            List<String> types = new ArrayList<>();
            for (Class<?> type : method.getParameterTypes()) types.add(type.getName());
            methods.add(method.getName() + "(" + String.join(",", types) + ")");
        }
        expect(methods.equals(METHODS), "methods: " + methods);
        Set<String> constants = new TreeSet<>();
        for (Field field : face.getDeclaredFields()) {
            if (!Modifier.isPrivate(field.getModifiers())) constants.add(field.getName());
            boolean constant = Modifier.isStatic(field.getModifiers());
            expect(!constant || Modifier.isFinal(field.getModifiers()), "not final: " + field);
        }
        expect(constants.equals(CONSTANTS), "constants: " + constants);
        Constructor<?>[] constructors = face.getDeclaredConstructors();
        expect(constructors.length == 1 && Modifier.isPublic(constructors[0].getModifiers())
            && constructors[0].getParameterCount() == 0, "constructors");
    }

    private static void nested() {
        Set<String> names = new TreeSet<>();
        for (String method : METHODS) names.add(method.substring(0, method.indexOf('(')));
        List<Class<?>> classes = new ArrayList<>(List.of(SmudgeTally.class.getDeclaredClasses()));
        expect(classes.size() <= 12, "classes: " + classes.size());
        for (Class<?> inside : classes) {
            expect(Modifier.isStatic(inside.getModifiers()) && !Modifier.isPublic(inside.getModifiers()), "form of " + inside);
            expect(inside.getDeclaredFields().length <= 20, "fields of " + inside);
            for (Method method : inside.getDeclaredMethods()) {
                expect(!names.contains(method.getName()), "bears the name of a public one: " + method);
                expect(method.getParameterCount() <= 7, "parameters of " + method);
            }
            for (Field field : inside.getDeclaredFields()) {
                expect(!Modifier.isStatic(field.getModifiers()), "static: " + field);
            }
        }
        for (Method method : SmudgeTally.class.getDeclaredMethods()) {
            boolean isPrivate = Modifier.isPrivate(method.getModifiers());
            expect(!isPrivate || !names.contains(method.getName()), "bears the name of a public one: " + method);
        }
    }

    private static void source(String source) {
        String plain = source.replaceAll("(?s)/\\*.*?\\*/", "").replaceAll("//[^\n]*", "").replaceAll("\"[^\"\n]*\"", "\"\"");
        for (String rule : RULED_OUT) {
            Matcher matcher = Pattern.compile(rule).matcher(plain);
            expect(!matcher.find(), "ruled out: " + rule);
        }
        Matcher texts = Pattern.compile("\"[^\"\n]*\"|'[^'\n]*'").matcher(source.replaceAll("(?s)/\\*.*?\\*/|//[^\n]*", ""));
        while (texts.find()) expect(texts.group().chars().allMatch(sign -> sign < 128), "a sign beyond 127: " + texts.group());
        int length = 0;
        for (String line : plain.split("\n")) {
            length = line.matches("    [ ]{0,4}[a-z].*\\{") ? 0 : length + 1;
            if (line.matches("    [ ]{0,4}\\}")) expect(length <= 65, "a method of " + length + " lines");
        }
    }
}
