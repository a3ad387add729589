import java.lang.reflect.Constructor;
import java.lang.reflect.Field;
import java.lang.reflect.Method;
import java.lang.reflect.Modifier;
import java.nio.file.Files;
import java.nio.file.Path;
import java.util.Arrays;
import java.util.List;
import java.util.TreeSet;
import java.util.regex.Matcher;
import java.util.regex.Pattern;

/** The public face, and those rules of LANGUAGE.md that can be seen from outside or in the text. */
public final class RulesTest {
    private static final String[] FACE = {"feed(long,long,long):int", "net():int", "year():int", "other():int",
        "folk(int,int):int", "tie(int,boolean):int", "cut(int):int", "pull():int", "undo():boolean",
        "judged(int):int", "at(int):int", "form(int):int", "out():boolean", "held():int", "fault():int",
        "sum(int):int", "shown():int", "loose(int):int", "yet(int):int", "cuts():int", "ahead(int,int):boolean",
        "orders():long", "ask():int", "same():boolean", "pass():boolean", "ring():int",
        "rests(int,int,int,int):int", "centuries(int,int,int):int", "mark(int,boolean):boolean", "count(int):int"};
    private static final String[] FORBIDDEN = {"->", "::", "\\btry\\b", "\\bcatch\\b", "\\bfinally\\b",
        "\\bsynchronized\\b", "\\bassert\\b", "\\binstanceof\\b", "\\bstatic \\{", "Exact\\b", "\\bSystem\\.(?!arraycopy)",
        "\\bObject\\b", "\\bdouble\\b", "\\bfloat\\b", "getClass", "hashCode", "toString", "\" \\+", "\\+ \"", "\\bvar\\b",
        "\\bwhile \\(true\\)", "for \\(;;"};

    public static void main(String[] args) throws Exception {
        Check check = new Check();
        face(check);
        text(check, Files.readString(Path.of("src/main/java/YearKnot.java")));
        check.end();
    }

    private static void face(Check check) {
        Class<?> c = YearKnot.class;
        check.due("public and final", Modifier.isPublic(c.getModifiers()) && Modifier.isFinal(c.getModifiers()), true);
        TreeSet<String> found = new TreeSet<>();
        TreeSet<String> hidden = new TreeSet<>();
        for (Method m : c.getDeclaredMethods()) {
            (Modifier.isPrivate(m.getModifiers()) ? hidden : found).add(Modifier.isPrivate(m.getModifiers()) ? m.getName() : signature(m));
        }
        check.due("methods", found, new TreeSet<>(Arrays.asList(FACE)));
        for (Method m : c.getDeclaredMethods()) {
            check.due("no hidden method is called " + m.getName(),
                    !Modifier.isPrivate(m.getModifiers()) && hidden.contains(m.getName()), false);
        }
        for (Constructor<?> k : c.getDeclaredConstructors()) {
            check.due("constructor", Modifier.isPublic(k.getModifiers()) && k.getParameterCount() == 0, true);
        }
        for (Field f : c.getDeclaredFields()) {
            boolean isNone = f.getName().equals("NONE") && Modifier.isPublic(f.getModifiers()) && Modifier.isFinal(f.getModifiers());
            check.due("field " + f.getName(), isNone || Modifier.isPrivate(f.getModifiers()), true);
        }
        int classes = 1;
        for (Class<?> inner : c.getDeclaredClasses()) {
            classes++;
            check.due("class " + inner.getName(), Modifier.isStatic(inner.getModifiers()), true);
            check.due("fields of " + inner.getName(), ownFields(inner) <= 20, true);
        }
        check.due("classes", classes <= 12, true);
    }

    private static int ownFields(Class<?> c) {
        int fields = 0;
        for (Field f : c.getDeclaredFields()) {
            fields += Modifier.isStatic(f.getModifiers()) ? 0 : 1;
        }
        return fields;
    }

    private static String signature(Method m) {
        StringBuilder text = new StringBuilder(m.getName()).append('(');
        for (Class<?> p : m.getParameterTypes()) {
            text.append(text.charAt(text.length() - 1) == '(' ? "" : ",").append(p.getName());
        }
        return text.append("):").append(m.getReturnType().getName()).toString();
    }

    private static void text(Check check, String source) {
        String bare = source.replaceAll("(?s)/\\*.*?\\*/", "").replaceAll("//[^\n]*", "");
        for (String word : FORBIDDEN) {
            Matcher m = Pattern.compile(word).matcher(bare);
            check.due("free of " + word, m.find(), false);
        }
        for (String line : source.split("\n")) {
            if (line.startsWith("import ")) {
                check.due(line, List.of("import java.util.Arrays;", "import java.util.NoSuchElementException;").contains(line), true);
            }
            check.due("narrow: " + line, line.length() <= 120, true);
        }
        check.due("plain signs alone", source.chars().allMatch(s -> s == 10 || s >= 32 && s < 127), true);
        methodsAreShort(check, bare);
        nothingIsMadeLater(check, bare);
    }

    private static void methodsAreShort(Check check, String bare) {
        Matcher m = Pattern.compile("(?m)^( {4}| {8})(?:[\\w\\[\\]]+ )*(\\w+)\\(([^)]*)\\)[^;{]*\\{\\n(?s)(.*?)\\n\\1\\}").matcher(bare);
        int methods = 0;
        while (m.find()) {
            methods++;
            check.due("length of " + m.group(2), m.group(4).split("\n").length <= 60, true);
            check.due("parameters of " + m.group(2), m.group(3).split(",").length <= 7, true);
        }
        check.due("methods were found", methods > 100, true);
    }

    // All rows are made in constructors; a call makes nothing but the exception it throws.
    private static void nothingIsMadeLater(Check check, String bare) {
        for (String line : bare.split("\n")) {
            if (line.contains("new ")) {
                boolean field = line.matches(" +[\\w\\[\\]]+(\\[\\w+\\])? = new .*;");
                boolean thrown = line.contains("throw new NoSuchElementException();");
                check.due("made: " + line.trim(), field || thrown, true);
            }
        }
    }
}
