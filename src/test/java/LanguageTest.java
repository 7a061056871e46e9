import java.io.IOException;
import java.lang.reflect.Constructor;
import java.lang.reflect.Field;
import java.lang.reflect.Method;
import java.lang.reflect.Modifier;
import java.nio.charset.StandardCharsets;
import java.nio.file.Files;
import java.nio.file.Path;
import java.util.ArrayList;
import java.util.Arrays;
import java.util.HashSet;
import java.util.List;
import java.util.Set;
import java.util.TreeSet;
import java.util.regex.Matcher;
import java.util.regex.Pattern;

/** The public face of the document and those rules of LANGUAGE.md that can be seen from the class or its file. */
public final class LanguageTest {
    private static final String FACE = "feed(int,int,int,int,int)int text(int)int fault(int)int named(int,int)int "
        + "look(int,int,int)int about(int,int)int tape(int,int,int,int)int gone(int,int,boolean)int strike(int)int "
        + "known(int)boolean mode(int,boolean)boolean fit(int,int,int,int)int best(int,int)int well(int)int "
        + "span(int,int)int whole(int,int,int)int near(int)int lumps(int)int unit(int,int,int,int)int odds(int,int)int "
        + "any(int,int,int,int,int,int)int chosen(int,int)int tells(int,int,int)long hump(int,int)int wander(int,int)int "
        + "land(int,int,int,int)int apart(int,int,int)int sort(int,int,int)int blind(int,int)int lean(int,int)int "
        + "ahead(int,int,int,int,int)int next()int count(int)int";
    private static int wrong = 0;

    public static void main(String[] args) throws IOException {
        face();
        classes();
        source(Files.readString(Path.of("src/main/java/YardRings.java"), StandardCharsets.ISO_8859_1));
        System.out.println(wrong == 0 ? "the face and the rules are kept" : wrong + " rules are broken");
        if (wrong != 0) {
            System.exit(1);
        }
    }

    private static void must(boolean good, String what) {
        if (!good) {
            wrong++;
            System.out.println("not so: " + what);
        }
    }

    private static void face() {
        Set<String> due = new TreeSet<>(Arrays.asList(FACE.split(" ")));
        Set<String> got = new TreeSet<>();
        Set<String> names = new HashSet<>();
        for (Method m : YardRings.class.getDeclaredMethods()) {
            if (Modifier.isPublic(m.getModifiers())) {
                StringBuilder s = new StringBuilder(m.getName()).append('(');
                for (Class<?> type : m.getParameterTypes()) {
                    s.append(s.charAt(s.length() - 1) == '(' ? "" : ",").append(type.getName());
                }
                got.add(s.append(')').append(m.getReturnType().getName()).toString());
                names.add(m.getName());
            }
        }
        must(got.equals(due), "the public methods are " + due + " but are " + got);
        for (Method m : YardRings.class.getDeclaredMethods()) {
            int mods = m.getModifiers();
            must(Modifier.isPublic(mods) || Modifier.isPrivate(mods), m + " is public or private");
            must(Modifier.isPublic(mods) || !names.contains(m.getName()), m + " has a name of its own");
        }
        for (Field f : YardRings.class.getDeclaredFields()) {
            must(f.getName().equals("NONE") == Modifier.isPublic(f.getModifiers()), f + " is public if it is NONE");
            must(Modifier.isPublic(f.getModifiers()) || Modifier.isPrivate(f.getModifiers()), f + " is private");
        }
        Constructor<?>[] made = YardRings.class.getDeclaredConstructors();
        must(made.length == 1 && Modifier.isPublic(made[0].getModifiers()) && made[0].getParameterCount() == 0,
            "one public constructor");
        must(Modifier.isFinal(YardRings.class.getModifiers()), "the class is final");
    }

    private static void classes() {
        List<Class<?>> all = new ArrayList<>(Arrays.asList(YardRings.class.getDeclaredClasses()));
        must(all.size() <= 11, "twelve classes at most");
        for (Class<?> c : all) {
            must(Modifier.isStatic(c.getModifiers()) && !Modifier.isPublic(c.getModifiers())
                && !Modifier.isProtected(c.getModifiers()), c + " is static and not public");
        }
        all.add(YardRings.class);
        for (Class<?> c : all) {
            int fields = 0;
            for (Field f : c.getDeclaredFields()) {
                fields += Modifier.isStatic(f.getModifiers()) ? 0 : 1;
                must(!Modifier.isStatic(f.getModifiers()) || Modifier.isFinal(f.getModifiers()), f + " is final");
            }
            must(fields <= 20, c + " has twenty fields at most");
            for (Method m : c.getDeclaredMethods()) {
                must(m.getParameterCount() <= 7, m + " takes seven parameters at most");
            }
        }
    }

    private static void source(String source) {
        must(source.chars().allMatch(c -> c == '\n' || c >= 32 && c < 127), "plain signs alone");
        for (String word : new String[] {"catch", "finally", "synchronized", "assert", "double", "float", "package",
            "Exact", "->", "::", "Thread", "random", "nanoTime", "currentTimeMillis", "lambda", "Iterator", "Object "}) {
            must(!source.contains(word), "no " + word);
        }
        Matcher imports = Pattern.compile("import (\\S+);").matcher(source);
        while (imports.find()) {
            must(Set.of("java.util.Arrays", "java.util.NoSuchElementException").contains(imports.group(1)),
                "no import of " + imports.group(1));
        }
        Matcher library = Pattern.compile("\\b(Math|Arrays|System|Integer|Long)\\.(\\w+)").matcher(source);
        while (library.find()) {
            must(Set.of("max", "min", "abs", "floorDiv", "fill", "arraycopy", "MIN_VALUE", "MAX_VALUE").contains(library.group(2)),
                "the library has " + library.group());
        }
        int begun = 0;
        int line = 0;
        for (String text : source.split("\n")) {
            line++;
            if (text.matches(" {4}(?: {4})?(?:(?:public|private|static) )*\\w+(?:\\[\\])? \\w+\\(.*\\{")) {
                begun = line;
            }
            if (begun > 0 && text.matches(" {4}(?: {4})?\\}")) {
                must(line - begun < 60, "the method of line " + begun + " has sixty lines at most");
                begun = 0;
            }
            must(text.length() <= 125, "line " + line + " is short");
        }
    }
}
