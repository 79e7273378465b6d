import java.io.IOException;
import java.lang.management.ManagementFactory;
import java.lang.reflect.Constructor;
import java.lang.reflect.Field;
import java.lang.reflect.Method;
import java.lang.reflect.Modifier;
import java.nio.file.Files;
import java.nio.file.Path;
import java.util.ArrayList;
import java.util.List;
import java.util.Set;
import java.util.TreeSet;
import java.util.regex.Matcher;
import java.util.regex.Pattern;

/** Looks whether the program keeps to the rules of LANGUAGE.md that can be seen from outside. */
public final class LanguageTest {
    private static final String[] FACE = {
        "int add(int,int)", "int correct(int,int)", "int drop(int)", "int keep(int)", "int mend()", "int thin(int)",
        "int tear(int)", "int set(int,int)", "int note(int,int)", "int strike()", "int append(int)", "int clearBuffer()",
        "int firstError()", "int addAll()", "int undo()", "int point(int,int)", "int error(int,int)", "int reading(int,int)",
        "int stretch(int,int)", "int noteAt(int,int)", "int count(int)", "int setting(int)", "long area(boolean)",
        "int whyNot(int)", "int join(int,int)", "int ifThinned(int)", "int leastOath(int)", "int cheapest(int)",
        "double droppedShare()", "long digest()"};

    private static final String[] FORBIDDEN = {
        "->", "::", "\\btry\\b", "\\bcatch\\b", "\\bfinally\\b", "\\bsynchronized\\b", "\\bassert\\b", "\\bpackage\\b",
        "\\bSystem\\.(?!arraycopy)", "\\bDouble\\b", "\\bFloat\\b", "\\bThread\\b", "\\bRandom\\b", "\\w+Exact\\b",
        "\\bString\\.format\\b", "\\bObject\\b", "\\bequals\\b", "\\bhashCode\\b", "\\btoString\\b", "static \\{", "\\bwhile\\b"};

    private static int wrong;

    private static void due(String what, Object want, Object got) {
        if (!want.equals(got)) {
            wrong++;
            System.out.println(what + ": is " + got + ", due is " + want);
        }
    }

    private static String types(Class<?>[] types) {
        List<String> names = new ArrayList<>();
        for (Class<?> type : types) {
            names.add(type.getSimpleName());
        }
        return "(" + String.join(",", names) + ")";
    }

    private static void face() {
        Set<String> found = new TreeSet<>();
        Set<String> names = new TreeSet<>();
        for (Method method : OathDiary.class.getDeclaredMethods()) {
            if (!Modifier.isPrivate(method.getModifiers())) {
                due(method.getName() + " is public, and no more", Modifier.PUBLIC, method.getModifiers());
                found.add(method.getReturnType().getSimpleName() + " " + method.getName() + types(method.getParameterTypes()));
                names.add(method.getName());
            }
        }
        due("the public methods", new TreeSet<>(List.of(FACE)), found);
        for (Class<?> owner : classes()) {
            for (Method method : owner.getDeclaredMethods()) {
                boolean own = owner == OathDiary.class && Modifier.isPublic(method.getModifiers());
                due(owner + " has a method of its own by the name " + method.getName(), !own && names.contains(method.getName()), false);
            }
        }
        due("the class", Modifier.PUBLIC | Modifier.FINAL, OathDiary.class.getModifiers());
        due("constructors", 1, OathDiary.class.getDeclaredConstructors().length);
        for (Constructor<?> constructor : OathDiary.class.getDeclaredConstructors()) {
            due("the constructor", "()", types(constructor.getParameterTypes()));
            due("the constructor is public", Modifier.PUBLIC, constructor.getModifiers());
        }
        for (Field field : OathDiary.class.getDeclaredFields()) {
            due(field + " is private", !field.getName().equals("NONE"), Modifier.isPrivate(field.getModifiers()));
        }
    }

    private static List<Class<?>> classes() {
        List<Class<?>> all = new ArrayList<>();
        all.add(OathDiary.class);
        all.addAll(List.of(OathDiary.class.getDeclaredClasses()));
        return all;
    }

    private static void sizes() {
        due("at most 12 classes", true, classes().size() <= 12);
        for (Class<?> owner : classes()) {
            int fields = 0;
            for (Field field : owner.getDeclaredFields()) {
                if (Modifier.isStatic(field.getModifiers())) {
                    due(field + " is final", true, Modifier.isFinal(field.getModifiers()));
                } else {
                    fields++;
                }
            }
            due(owner + " has at most 20 fields", true, fields <= 20);
            for (Method method : owner.getDeclaredMethods()) {
                due(method + " takes at most 7 parameters", true, method.getParameterCount() <= 7);
            }
        }
    }

    private static void words() throws IOException {
        String text = Files.readString(Path.of("src/main/java/OathDiary.java"));
        String code = text.replaceAll("(?s)/\\*.*?\\*/", "").replaceAll("//[^\\n]*", "").replaceAll("\"[^\"\\n]*\"", "\"\"");
        for (String word : FORBIDDEN) {
            Matcher matcher = Pattern.compile(word).matcher(code);
            due("there is a " + word, false, matcher.find());
        }
        Matcher imports = Pattern.compile("import ([^;]*);").matcher(code);
        while (imports.find()) {
            due("an import", true, Set.of("java.util.Arrays", "java.util.ArrayList", "java.util.List").contains(imports.group(1)));
        }
        lengths(code.split("\n"));
    }

    /** Measures from each line that opens a block behind brackets to the line that closes it. */
    private static void lengths(String[] lines) {
        for (int i = 0; i < lines.length; i++) {
            Matcher opens = Pattern.compile("( *)\\S.*\\)[^()]*\\{").matcher(lines[i]);
            if (opens.matches()) {
                int end = i;
                while (end < lines.length && !lines[end].equals(opens.group(1) + "}") && !lines[end].startsWith(opens.group(1) + "} ")) {
                    end++;
                }
                due("at most 60 lines: " + lines[i], true, end - i <= 60);
            }
        }
    }

    /** Of what a whole run of the dearest calls makes, next to nothing may be left over for a call. */
    private static void room() {
        com.sun.management.ThreadMXBean meter = (com.sun.management.ThreadMXBean) ManagementFactory.getThreadMXBean();
        OathDiary x = new OathDiary();
        for (int i = 0; i < 60; i++) {
            x.add(i * 13, (i * i * 37) % 61);
        }
        x.digest();
        long thread = Thread.currentThread().getId();
        long before = meter.getThreadAllocatedBytes(thread);
        for (int i = 0; i < 100; i++) {
            x.correct(i % 60, i);
            x.thin(i % 3);
            x.digest();
            x.mend();
            x.undo();
        }
        long made = meter.getThreadAllocatedBytes(thread) - before;
        due("500 calls make at most 20000 bytes, not " + made, true, made <= 20000);
    }

    public static void main(String[] args) throws IOException {
        face();
        sizes();
        words();
        room();
        System.out.println(wrong == 0 ? "the rules that are looked at are kept" : wrong + " rules are broken");
        if (wrong != 0) {
            System.exit(1);
        }
    }
}
