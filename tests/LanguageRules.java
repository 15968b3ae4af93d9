import java.io.IOException;
import java.lang.reflect.Constructor;
import java.lang.reflect.Field;
import java.lang.reflect.Method;
import java.lang.reflect.Modifier;
import java.nio.charset.StandardCharsets;
import java.nio.file.Files;
import java.nio.file.Path;
import java.util.Set;
import java.util.TreeSet;
import java.util.regex.Matcher;
import java.util.regex.Pattern;

/** What of LANGUAGE.md, and of the document's face, can be seen from the source and from the class. */
public final class LanguageRules {
    private static final String SOURCE = "src/main/java/OneOfTwo.java";
    private static int wrong = 0;

    public static void main(String[] args) throws IOException {
        String source = Files.readString(Path.of(SOURCE), StandardCharsets.ISO_8859_1);
        String code = withoutComments(source);
        words(code);
        signs(source);
        face();
        classes();
        methodLengths(code);
        System.out.println(wrong == 0 ? "the rules that can be seen are kept" : wrong + " rules are broken");
        if (wrong != 0) {
            System.exit(1);
        }
    }

    private static void say(String what) {
        wrong++;
        System.out.println(what);
    }

    private static String withoutComments(String source) {
        return source.replaceAll("(?s)/\\*.*?\\*/", "").replaceAll("//[^\n]*", "");
    }

    private static void words(String code) {
        String[] banned = {"\\bthrow\\b", "\\btry\\b", "\\bcatch\\b", "\\bsynchronized\\b", "\\bassert\\b", "->", "::",
            "\\bpackage\\b", "\\.equals\\(", "\\bhashCode\\b", "\\btoString\\b", "\\bpublic static\\b", "\\bprotected\\b",
            "\\bdouble\\b", "\\bfloat\\b", "Exact\\(", "\\bThread\\b", "\\bRandom\\b", "currentTime", "nanoTime",
            "\\bObject\\b", "@", "\\bstatic \\{", "\"[^\"]*\" *\\+", "while \\(true\\)", "for \\(;;\\)"};
        for (String word : banned) {
            if (Pattern.compile(word).matcher(code).find()) {
                say(SOURCE + " has " + word);
            }
        }
        Matcher imports = Pattern.compile("import ([^;]*);").matcher(code);
        while (imports.find()) {
            if (!imports.group(1).equals("java.util.Arrays")) {
                say("import of " + imports.group(1));
            }
        }
        Matcher calls = Pattern.compile("\\b(System|Arrays|Math|Integer|Long|String)\\.(\\w+)").matcher(code);
        Set<String> known = Set.of("System.arraycopy", "Arrays.fill", "Math.max", "Math.min", "Math.abs", "Integer.bitCount");
        while (calls.find()) {
            if (!known.contains(calls.group())) {
                say("use of " + calls.group());
            }
        }
    }

    private static void signs(String source) {
        for (int i = 0; i < source.length(); i++) {
            if (source.charAt(i) > 126 || source.charAt(i) == '\t') {
                say("sign " + (int) source.charAt(i) + " at " + i);
            }
        }
    }

    private static void face() {
        String[] due = {"window(int,int)", "cord(int)", "drop()", "ofWindow(int,int)", "ofCord(int,int)",
            "open(int,int)", "swell(int,int)", "pull(int,int)", "swap(int,int)", "air(int)", "lodger(int,int)",
            "ofLodger(int,int)", "become(int,int)", "as(int,int)", "goes(int,int)", "content()", "feed(long,int)",
            "text(int)", "law(int,int,int,int)", "turn(int)", "hours(int)", "loose(int)", "hour(int)", "lock(int,int)",
            "rests()", "then(int,int)", "standings()", "fewest(int)", "most(int)", "helps(int)", "who(int)", "seed(int)",
            "voice(int,int,int)", "trace(int)", "sheet(int,int,int)", "put(int,int,int)", "move(int,int,int,int,int)",
            "judge(int)", "image()", "restore()", "tell(int)", "check()", "count(int)", "told(int)"};
        Set<String> want = new TreeSet<>(Set.of(due));
        Set<String> names = new TreeSet<>();
        for (String one : due) {
            names.add(one.substring(0, one.indexOf('(')));
        }
        Set<String> have = new TreeSet<>();
        for (Method m : OneOfTwo.class.getDeclaredMethods()) {
            StringBuilder s = new StringBuilder(m.getName()).append('(');
            for (Class<?> p : m.getParameterTypes()) {
                s.append(s.charAt(s.length() - 1) == '(' ? "" : ",").append(p.getSimpleName());
            }
            if (!Modifier.isPrivate(m.getModifiers())) {
                have.add(s.append(')').toString());
                if (m.getReturnType() != int.class || Modifier.isStatic(m.getModifiers())) {
                    say(m + " is not of the face");
                }
            } else if (names.contains(m.getName())) {
                say("private " + m.getName() + " bears a public name");
            }
        }
        if (!have.equals(want)) {
            say("the face is " + have);
        }
        int flags = OneOfTwo.class.getModifiers();
        if (!Modifier.isPublic(flags) || !Modifier.isFinal(flags)) {
            say("OneOfTwo is not public and final");
        }
        Constructor<?>[] made = OneOfTwo.class.getDeclaredConstructors();
        if (made.length != 1 || made[0].getParameterCount() != 0 || !Modifier.isPublic(made[0].getModifiers())) {
            say("the constructors are not those of the face");
        }
    }

    private static void classes() {
        Class<?>[] inside = OneOfTwo.class.getDeclaredClasses();
        if (inside.length > 12) {
            say(inside.length + " classes inside");
        }
        fields(OneOfTwo.class);
        for (Class<?> c : inside) {
            if (!Modifier.isStatic(c.getModifiers()) || Modifier.isPublic(c.getModifiers())) {
                say(c + " is not static, or public");
            }
            fields(c);
            for (Method m : c.getDeclaredMethods()) {
                if (m.getParameterCount() > 7) {
                    say(m + " has too many parameters");
                }
                if (isOfTheFace(m.getName())) {
                    say(m + " of a private class bears a public name");
                }
            }
        }
    }

    private static boolean isOfTheFace(String name) {
        for (Method m : OneOfTwo.class.getDeclaredMethods()) {
            if (Modifier.isPublic(m.getModifiers()) && m.getName().equals(name)) {
                return true;
            }
        }
        return false;
    }

    private static void fields(Class<?> c) {
        int own = 0;
        for (Field f : c.getDeclaredFields()) {
            boolean still = Modifier.isStatic(f.getModifiers());
            own += still ? 0 : 1;
            if (still && !Modifier.isFinal(f.getModifiers())) {
                say(f + " is static, but not final");
            }
            if (c == OneOfTwo.class && !Modifier.isPrivate(f.getModifiers())) {
                say(f + " is not private");
            }
        }
        if (own > 20) {
            say(c + " has " + own + " fields");
        }
    }

    private static void methodLengths(String code) {
        String[] lines = code.split("\n");
        int from = -1;
        for (int i = 0; i < lines.length; i++) {
            if (lines[i].matches(" {4}( {4})?[a-zA-Z].*\\) \\{")) {
                from = i;
            } else if (from >= 0 && lines[i].matches(" {4}( {4})?\\}")) {
                if (i - from > 60) {
                    say("a method of " + (i - from) + " lines: " + lines[from].trim());
                }
                from = -1;
            }
        }
    }
}
