import java.io.IOException;
import java.lang.reflect.Constructor;
import java.lang.reflect.Field;
import java.lang.reflect.Method;
import java.lang.reflect.Modifier;
import java.nio.file.Files;
import java.nio.file.Path;
import java.util.ArrayList;
import java.util.List;
import java.util.Set;
import java.util.TreeSet;
import java.util.regex.Matcher;
import java.util.regex.Pattern;

/** What of ../shared/LANGUAGE.md can be told from the program's text and its classes. */
public final class LanguageTest {
    private static final Checks checks = new Checks();
    private static final List<String> LIBRARY = List.of("java.util.Arrays");
    private static final List<String> FACE = List.of(
            "int block(int,int,int)", "int of(int,int)", "int dry(int,int)", "int row(int,int,int)",
            "int strike(int,int)", "int clean(int,int,int)", "int sell(int)", "int feed(int)", "int hill()",
            "int told(int)", "int pass(int)", "int on(int,int)", "int lasts(int)", "int order(int)",
            "int loses(int)", "int worst()", "int see(int,int,boolean)", "int dryness(int,int)", "int can(int,int)",
            "long odds(int,int)", "long mean(int)", "int week(int,int)", "int ends(int)", "int book(int,int)",
            "int looked()", "int judge(int,int)", "int image()", "int undo()", "int act(int,int,int)",
            "int trace(int)", "int taken(int,int)", "int count(int)", "int tape(int,int,int)",
            "int item(int,int,long)", "long read(int,int)", "int shift(int,int,int,int,int)");

    public static void main(String[] args) throws IOException {
        String text = Files.readString(Path.of("src/main/java/SlateHalves.java"));
        String code = text.replaceAll("(?s)/\\*.*?\\*/", "").replaceAll("//[^\n]*", "");
        face();
        classes();
        words(code);
        methods(code);
        checks.end();
    }

    private static void face() {
        checks.begin("rule 1, the face");
        Set<String> methods = new TreeSet<>();
        Set<String> publicNames = new TreeSet<>();
        Set<String> otherNames = new TreeSet<>();
        for (Method m : SlateHalves.class.getDeclaredMethods()) {
            if (Modifier.isPublic(m.getModifiers())) {
                String types = List.of(m.getParameterTypes()).toString().replaceAll("[\\[\\] ]", "");
                methods.add(m.getReturnType() + " " + m.getName() + "(" + types + ")");
                publicNames.add(m.getName());
                checks.holds(m.getName() + " is not static", !Modifier.isStatic(m.getModifiers()));
            } else if (!m.isSynthetic()) {
                checks.holds(m.getName() + " is private", Modifier.isPrivate(m.getModifiers()));
                otherNames.add(m.getName());
            }
        }
        checks.holds("the public methods are the document's: " + methods, methods.equals(new TreeSet<>(FACE)));
        Set<String> fields = new TreeSet<>();
        for (Field f : SlateHalves.class.getDeclaredFields()) {
            if (Modifier.isPublic(f.getModifiers())) {
                fields.add(f.getName());
            } else {
                checks.holds(f.getName() + " is private", Modifier.isPrivate(f.getModifiers()));
            }
        }
        checks.holds("the public fields are the document's", fields.equals(Set.of("NONE", "BAD", "STATE", "FULL", "NO")));
        Constructor<?>[] made = SlateHalves.class.getDeclaredConstructors();
        checks.holds("one constructor, public", made.length == 1 && Modifier.isPublic(made[0].getModifiers())
                && made[0].getParameterCount() == 0);
        for (Class<?> inner : SlateHalves.class.getDeclaredClasses()) {
            for (Method m : inner.getDeclaredMethods()) {
                otherNames.add(m.getName());
            }
        }
        otherNames.retainAll(publicNames);
        checks.holds("no other method has a public one's name: " + otherNames, otherNames.isEmpty());
    }

    private static void classes() {
        checks.begin("rules 2, 5, 11, the classes");
        List<Class<?>> all = new ArrayList<>(List.of(SlateHalves.class.getDeclaredClasses()));
        checks.holds("no more than twelve classes", all.size() + 1 <= 12);
        for (Class<?> inner : all) {
            checks.holds(inner + " is static", Modifier.isStatic(inner.getModifiers()));
            checks.holds(inner + " is private", Modifier.isPrivate(inner.getModifiers()));
        }
        all.add(SlateHalves.class);
        for (Class<?> one : all) {
            int fields = 0;
            for (Field f : one.getDeclaredFields()) {
                if (Modifier.isStatic(f.getModifiers())) {
                    checks.holds(f + " is final", Modifier.isFinal(f.getModifiers()));
                } else {
                    fields++;
                }
            }
            checks.holds(one + " has no more than twenty fields", fields <= 20);
            checks.holds(one + " has no class in it but the public one", one == SlateHalves.class
                    || one.getDeclaredClasses().length == 0);
        }
    }

    private static void words(String code) {
        checks.begin("rules 3 to 6 and 9, the words");
        for (String word : List.of("throw", "throws", "try", "catch", "finally", "synchronized", "assert", "record",
                "float", "double", "package", "System\\.out", "currentTimeMillis", "nanoTime", "Random", "Thread",
                "equals", "hashCode", "toString", "Object", "Integer\\.valueOf", "var", "transient", "volatile",
                "native", "instanceof", "String\\.format", "concat", "yield")) {
            checks.holds("no " + word, !Pattern.compile("\\b" + word + "\\b").matcher(code).find());
        }
        checks.holds("no lambda", !code.contains("->"));
        checks.holds("no method reference", !code.contains("::"));
        checks.holds("no exact function", !code.contains("Exact"));
        checks.holds("no static block", !Pattern.compile("static\\s*\\{").matcher(code).find());
        checks.holds("no annotation", !code.contains("@"));
        checks.holds("no loop without a counter", !Pattern.compile("\\b(while|do)\\b").matcher(code).find());
        Matcher loops = Pattern.compile("\\bfor \\((.*)\\) \\{").matcher(code);
        while (loops.find()) {
            String head = loops.group(1);
            checks.holds("for (" + head + ") counts to a bound",
                    head.matches("int (\\w+) = [^;]+; \\1 (<|<=|>=) [^;]+; \\1(\\+\\+|--)"));
        }
        Matcher imports = Pattern.compile("import\\s+([\\w.*]+)\\s*;").matcher(code);
        while (imports.find()) {
            checks.holds("import of " + imports.group(1), LIBRARY.contains(imports.group(1)));
        }
        checks.holds("no sign above 127", code.chars().allMatch(c -> c < 128));
        Matcher calls = Pattern.compile("\\b(Arrays|Math|Integer|Long|System)\\.(\\w+)").matcher(code);
        Set<String> used = new TreeSet<>();
        while (calls.find()) {
            used.add(calls.group());
        }
        used.removeAll(Set.of("Arrays.fill", "Math.abs", "Math.max", "Math.min", "Math.floorMod", "Integer.bitCount",
                "Long.MIN_VALUE", "System.arraycopy"));
        checks.holds("nothing else of the library: " + used, used.isEmpty());
    }

    private static void methods(String code) {
        checks.begin("rule 11, the methods");
        String[] lines = code.split("\n");
        Pattern head = Pattern.compile("^ +(?:public |private |static |final )*[\\w\\[\\]]+ (\\w+)\\(([^)]*)\\) \\{$");
        for (int i = 0; i < lines.length; i++) {
            Matcher m = head.matcher(lines[i]);
            if (!m.find() || lines[i].contains("new ") || lines[i].contains("else")) {
                continue;
            }
            int indent = lines[i].length() - lines[i].stripLeading().length();
            int end = i;
            while (end < lines.length && !lines[end].equals(" ".repeat(indent) + "}")) {
                end++;
            }
            checks.holds(m.group(1) + " is short", end - i <= 60);
            checks.holds(m.group(1) + " takes no more than seven", m.group(2).split(",").length <= 7);
        }
    }
}
