import java.io.IOException;
import java.lang.reflect.Constructor;
import java.lang.reflect.Field;
import java.lang.reflect.Member;
import java.lang.reflect.Method;
import java.lang.reflect.Modifier;
import java.nio.charset.StandardCharsets;
import java.nio.file.Files;
import java.nio.file.Path;
import java.util.ArrayList;
import java.util.Arrays;
import java.util.HashMap;
import java.util.HashSet;
import java.util.List;
import java.util.Map;
import java.util.Set;
import java.util.TreeSet;
import java.util.regex.Matcher;
import java.util.regex.Pattern;

/** What of ../shared/LANGUAGE.md, and of the public face, can be seen in the source and in the class. */
public final class LanguageTest {
    private static final Path SOURCE = Path.of("src/main/java/StealingArms.java");

    private static final String FACE = "arms(int):int seed(int):int feed(int):int tree(int):int of(int,int):int "
        + "cause(int,int):int arm(int,int):int pass(int):int cancel(int):int told(int):int trace(int,int):int "
        + "on(int,int):int till(int):int see(int,int):int seeds():int odds(int,int):long mean(int):long "
        + "plan(int,int):int ends(int):int book(int,int):int looked():int judge(int,int):int image():int undo():int "
        + "count(int):int tape(int,int,int):int item(int,int,long):int read(int,int):long "
        + "shift(int,int,int,int,int):int";

    /** What no rule allows. */
    private static final String[] RULED_OUT = {"\\bthrow\\b", "\\bthrows\\b", "\\btry\\b", "\\bcatch\\b",
        "\\bfinally\\b", "\\bsynchronized\\b", "\\bassert\\b", "\\bimport\\b", "\\bpackage\\b", "->", "::",
        "\\bvolatile\\b", "\\btransient\\b", "\\bnative\\b", "\\bstrictfp\\b", "\\bprotected\\b", "\\bfloat\\b",
        "\\bdouble\\b", "@", "Exact\\b", "\\bObject\\b", "\\bThread\\b", "\\bRandom\\b", "\\bSystem\\.(?!arraycopy)",
        "\\bequals\\b", "\\bhashCode\\b", "\\btoString\\b", "\\bgetClass\\b", "\\bvar\\b", "\\byield\\b"};

    public static void main(String[] args) throws IOException {
        String whole = Files.readString(SOURCE, StandardCharsets.UTF_8);
        String code = withoutComments(whole);
        for (String each : RULED_OUT) {
            Matcher found = Pattern.compile(each).matcher(code);
            Check.due("ruled out: " + each, found.find() ? 1 : 0, 0);
        }
        Check.due("signs of the source are ASCII", whole.chars().allMatch(c -> c < 127) ? 1 : 0, 1);
        Check.due("texts in it", code.indexOf('"'), -1);
        face();
        classes();
        methodsAreShort(code);
        noRecursionAndShallow(code);
        Check.end("LanguageTest");
    }

    private static String withoutComments(String whole) {
        return whole.replaceAll("(?s)/\\*.*?\\*/", "").replaceAll("//[^\n]*", "");
    }

    private static void face() {
        Set<String> due = new TreeSet<>(Arrays.asList(FACE.split(" ")));
        Set<String> got = new TreeSet<>();
        Set<String> names = new HashSet<>();
        for (Method each : StealingArms.class.getDeclaredMethods()) {
            if (Modifier.isPublic(each.getModifiers())) {
                got.add(told(each));
                names.add(each.getName());
                Check.due("an object's: " + each, Modifier.isStatic(each.getModifiers()) ? 1 : 0, 0);
            } else {
                Check.due("private: " + each, Modifier.isPrivate(each.getModifiers()) ? 1 : 0, 1);
            }
        }
        Check.same("the methods", got.toString(), due.toString());
        List<Class<?>> all = new ArrayList<>(Arrays.asList(StealingArms.class.getDeclaredClasses()));
        all.add(StealingArms.class);
        for (Class<?> one : all) {
            for (Method each : one.getDeclaredMethods()) {
                boolean isFace = one == StealingArms.class && Modifier.isPublic(each.getModifiers());
                Check.due("a name of the face's: " + each, !isFace && names.contains(each.getName()) ? 1 : 0, 0);
                Check.due("parameters: " + each, each.getParameterCount() <= 7 ? 1 : 0, 1);
            }
        }
        Constructor<?>[] made = StealingArms.class.getDeclaredConstructors();
        Check.due("constructors", made.length, 1);
        Check.due("its parameters", made[0].getParameterCount(), 0);
        Check.due("it is public", Modifier.isPublic(made[0].getModifiers()) ? 1 : 0, 1);
        Check.due("the class", StealingArms.class.getModifiers(), Modifier.PUBLIC | Modifier.FINAL);
        Check.due("it stands on Object", StealingArms.class.getSuperclass() == Object.class ? 1 : 0, 1);
        Check.due("no interfaces", StealingArms.class.getInterfaces().length, 0);
    }

    private static String told(Method method) {
        StringBuilder all = new StringBuilder(method.getName()).append('(');
        for (Class<?> each : method.getParameterTypes()) {
            all.append(all.charAt(all.length() - 1) == '(' ? "" : ",").append(each.getName());
        }
        return all.append("):").append(method.getReturnType().getName()).toString();
    }

    private static void classes() {
        Class<?>[] inside = StealingArms.class.getDeclaredClasses();
        Check.due("classes", inside.length < 12 ? 1 : 0, 1);
        fields(StealingArms.class, Set.of("NONE", "BAD", "STATE", "FULL", "NO"));
        for (Class<?> each : inside) {
            Check.due("static: " + each, Modifier.isStatic(each.getModifiers()) ? 1 : 0, 1);
            Check.due("not public: " + each, isShown(each.getModifiers()) ? 1 : 0, 0);
            Check.due("none inside: " + each, each.getDeclaredClasses().length, 0);
            fields(each, Set.of());
        }
    }

    private static boolean isShown(int modifiers) {
        return Modifier.isPublic(modifiers) || Modifier.isProtected(modifiers);
    }

    private static void fields(Class<?> one, Set<String> shown) {
        int many = 0;
        Set<String> found = new HashSet<>();
        for (Field each : one.getDeclaredFields()) {
            boolean isStatic = Modifier.isStatic(each.getModifiers());
            many += isStatic ? 0 : 1;
            Check.due("final: " + each, isStatic && !Modifier.isFinal(each.getModifiers()) ? 1 : 0, 0);
            if (Modifier.isPublic(each.getModifiers())) {
                found.add(each.getName());
            } else if (one == StealingArms.class) {
                Check.due("private: " + each, isPrivate(each) ? 1 : 0, 1);
            }
        }
        Check.due("public fields of " + one, found.equals(shown) ? 1 : 0, 1);
        Check.due("fields of " + one, many <= 20 ? 1 : 0, 1);
    }

    private static boolean isPrivate(Member each) {
        return Modifier.isPrivate(each.getModifiers());
    }

    private static final Pattern METHOD =
        Pattern.compile("(?m)^( +)(?:[\\w\\[\\]]+ )+?(\\w+)\\([^)]*\\) \\{\n((?:.*\n)*?)\\1\\}$");

    private static void methodsAreShort(String code) {
        Matcher each = METHOD.matcher(code);
        int many = 0;
        while (each.find()) {
            many++;
            Check.due("lines of " + each.group(2), each.group(3).split("\n").length <= 58 ? 1 : 0, 1);
            boolean isConstructor = each.group(2).equals("StealingArms");
            Check.due("made by " + each.group(2), !isConstructor && each.group(3).contains("new ") ? 1 : 0, 0);
        }
        Check.due("methods found", many > 70 ? 1 : 0, 1);
    }

    /** By names alone: what each method calls, and how deep that goes. */
    private static void noRecursionAndShallow(String code) {
        Map<String, Set<String>> calls = new HashMap<>();
        Matcher each = METHOD.matcher(code);
        while (each.find()) {
            Set<String> called = calls.computeIfAbsent(each.group(2), k -> new TreeSet<>());
            Matcher call = Pattern.compile("(\\w+)\\(").matcher(each.group(3));
            while (call.find()) {
                called.add(call.group(1));
            }
        }
        // one name in several classes is one that calls its parts' namesakes, and no recursion
        for (String name : calls.keySet()) {
            calls.get(name).remove(name);
        }
        for (String name : calls.keySet()) {
            int deep = depth(name, calls, 0);
            Check.due("calls as deep as " + deep + " from " + name, deep <= 8 ? 1 : 0, 1);
        }
    }

    private static int depth(String name, Map<String, Set<String>> calls, int above) {
        int most = 0;
        if (above < 20 && calls.containsKey(name)) {
            for (String each : calls.get(name)) {
                most = Math.max(most, depth(each, calls, above + 1));
            }
            return 1 + most;
        }
        return calls.containsKey(name) ? 1 : 0;
    }
}
