import java.io.IOException;
import java.lang.reflect.Array;
import java.lang.reflect.Constructor;
import java.lang.reflect.Field;
import java.lang.reflect.Method;
import java.lang.reflect.Modifier;
import java.nio.file.Files;
import java.nio.file.Path;
import java.util.ArrayList;
import java.util.IdentityHashMap;
import java.util.List;
import java.util.Map;
import java.util.Set;
import java.util.TreeSet;
import java.util.regex.Matcher;
import java.util.regex.Pattern;

/** The public face, some rules of LANGUAGE.md, and the room that an object takes. Runs in the project's folder. */
public final class FaceTest {
    private static final Due due = new Due("FaceTest");
    private static final Set<String> FACE = Set.of(
            "int append(int,int,int,int,int)", "int parse(int)", "int size(int)", "int ladder(int,int)",
            "int set(int,int)", "int player(int,int)", "int act(int,int)", "int valueOf(int,int)", "int sum()",
            "int stepsOn(int)", "int longest(int)", "int positions(int)", "double meanValue(int)", "boolean isRight()",
            "int allowed()", "int choice(int,int)", "int best()", "int whyNotStep(int,int,int)",
            "int whyNotClaim(int)", "int whyNotLock(int,int)", "int whyNotBack()", "int step(int,int,int)",
            "int claim(int)", "int lock(int,int)", "int back()", "int pass()", "int play(int)", "int undo()",
            "boolean saveSnapshot(int)", "boolean restoreSnapshot(int)");

    public static void main(String[] args) throws IOException, IllegalAccessException {
        due.is("NONE", -1, () -> CoinLadders.NONE);
        face();
        insideClasses();
        source(Files.readString(Path.of("src/main/java/CoinLadders.java")));
        room();
        due.end();
    }

    private static void face() {
        Class<?> type = CoinLadders.class;
        due.isTrue("public and final", Modifier.isPublic(type.getModifiers()) && Modifier.isFinal(type.getModifiers()));
        Set<String> found = new TreeSet<>();
        Set<String> hidden = new TreeSet<>();
        for (Method method : type.getDeclaredMethods()) {
            List<String> parameters = new ArrayList<>();
            for (Class<?> parameter : method.getParameterTypes()) {
                parameters.add(parameter.getName());
            }
            if (Modifier.isPrivate(method.getModifiers())) {
                hidden.add(method.getName());
            } else if (!method.isSynthetic()) {
                due.isTrue(method + " is public", Modifier.isPublic(method.getModifiers()));
                found.add(method.getReturnType().getName() + " " + method.getName() + "(" + String.join(",", parameters) + ")");
            }
        }
        due.isTrue("the methods of the face: " + found, found.equals(new TreeSet<>(FACE)));
        for (String each : FACE) {
            String name = each.substring(each.indexOf(' ') + 1, each.indexOf('('));
            due.isTrue("no private method is named " + name, !hidden.contains(name));
        }
        Constructor<?>[] makers = type.getDeclaredConstructors();
        due.isTrue("one public constructor without parameters", makers.length == 1
                && Modifier.isPublic(makers[0].getModifiers()) && makers[0].getParameterCount() == 0);
        for (Field field : type.getDeclaredFields()) {
            due.isTrue(field + " is private", Modifier.isPrivate(field.getModifiers()) != field.getName().equals("NONE"));
        }
    }

    private static void insideClasses() {
        Class<?>[] inside = CoinLadders.class.getDeclaredClasses();
        due.isTrue("at most twelve classes", inside.length < 12);
        for (Class<?> each : inside) {
            due.isTrue(each + " is static", Modifier.isStatic(each.getModifiers()));
            int fields = 0;
            for (Field field : each.getDeclaredFields()) {
                fields += Modifier.isStatic(field.getModifiers()) ? 0 : 1;
            }
            due.isTrue(each + " has few fields", fields <= 20);
        }
    }

    private static void source(String text) {
        String code = text.replaceAll("(?s)/\\*.*?\\*/", "").replaceAll("//[^\n]*", "");
        String bare = code.replaceAll("\"[^\"]*\"", "\"\"");
        Matcher imports = Pattern.compile("import ([^;]+);").matcher(bare);
        while (imports.find()) {
            due.isTrue("import of " + imports.group(1), Set.of("java.util.Arrays").contains(imports.group(1)));
        }
        String[] banned = {"->", "::", "\\bcatch\\b", "\\bfinally\\b", "\\bsynchronized\\b", "\\bassert\\b", "\\binstanceof\\b",
            "\\bextends\\b", "Exact\\(", "static \\{", "\\bSystem\\.(?!arraycopy\\()", "\\bpackage\\b", "toString", "hashCode"};
        for (String each : banned) {
            due.isTrue("the source is without " + each, !Pattern.compile(each).matcher(bare).find());
        }
        due.isTrue("plain ASCII", text.chars().allMatch(c -> c < 127));
        int start = 0;
        String[] lines = bare.split("\n");
        for (int i = 0; i < lines.length; i++) {
            boolean opens = lines[i].matches(" {4,8}\\S.*\\(.*\\{") && !lines[i].contains("class ");
            start = opens ? i : start;
            due.isTrue("the method at line " + start + " is short", i - start < 60 || !lines[i].matches(" {4,8}}"));
        }
    }

    /** A run may make a new object with each of its calls, so that one may take a 512th of the room at the most. */
    private static void room() throws IllegalAccessException {
        CoinLadders x = new CoinLadders();
        int[] first = measure(x);
        System.out.println("FaceTest: " + first[0] + " objects with " + first[1] + " fields and elements");
        due.isTrue("few objects", first[0] <= 600_000 / 512);
        due.isTrue("few elements", first[1] <= 7_300_000 / 512);
        Due.parse(x, "ladder 12 12 11 10; ladder 12 12 11 10 steps 1 3 5 7; lock 1 4; tokens 9 9 9;");
        for (int i = 0; i < 60; i++) {
            x.play(1);
            x.saveSnapshot(i % 2);
            x.longest(0);
            x.meanValue(1);
        }
        int[] then = measure(x);
        due.isTrue("calls keep no objects", then[0] == first[0] && then[1] == first[1]);
    }

    private static int[] measure(Object root) throws IllegalAccessException {
        Map<Object, Boolean> seen = new IdentityHashMap<>();
        List<Object> open = new ArrayList<>(List.of(root));
        seen.put(root, true);
        int cells = 0;
        for (int i = 0; i < open.size(); i++) {
            Object one = open.get(i);
            List<Object> parts = new ArrayList<>();
            if (one.getClass().isArray()) {
                cells += Array.getLength(one);
                for (int k = 0; !one.getClass().getComponentType().isPrimitive() && k < Array.getLength(one); k++) {
                    parts.add(Array.get(one, k));
                }
            } else {
                for (Field field : one.getClass().getDeclaredFields()) {
                    if (!Modifier.isStatic(field.getModifiers())) {
                        cells++;
                        field.setAccessible(true);
                        if (!field.getType().isPrimitive()) {
                            parts.add(field.get(one));
                        }
                    }
                }
            }
            for (Object part : parts) {
                if (part != null && seen.put(part, true) == null) {
                    open.add(part);
                }
            }
        }
        return new int[] {open.size(), cells};
    }
}
