import java.io.IOException;
import java.lang.reflect.Constructor;
import java.lang.reflect.Field;
import java.lang.reflect.Method;
import java.lang.reflect.Modifier;
import java.nio.file.Files;
import java.nio.file.Path;
import java.util.Set;
import java.util.TreeSet;
import java.util.regex.Matcher;
import java.util.regex.Pattern;

/** The public face as the document gives it, and the rules of LANGUAGE.md that can be looked up. */
public final class FaceTest {
    private static final String[] FACE = {
        "int feed(int,int,int,int,int)", "boolean end(int)", "int town()", "int fault(int)", "int has(int)",
        "int letter(int,int,int)", "int gate(int,int)", "int man(int,int)", "int person(int,int)", "int lets(int,int)",
        "int way(int,int)", "int reached(int)", "int go(int)", "int hour(int)", "int night()",
        "boolean friend(int,int,boolean)", "boolean swap(int,int)", "int lots()", "boolean undo()", "boolean seed(int)",
        "int burglar(int,int,int)", "int tact(int)", "int out(int)", "int stand(int)", "int exchange(int)", "int see()",
        "int seen()", "int fire(int)", "int image()", "int octet(int)", "boolean on()"};

    private static final String[] RULED_OUT = {"\\bthrow\\b", "\\btry\\b", "\\bcatch\\b", "\\bsynchronized\\b", "\\bassert\\b",
        "->", "::", "\\bthrows\\b", "Exact\\b", "\\bSystem\\.(?!arraycopy)", "\\bstatic \\{", "\\bRandom\\b", "\\bThread\\b",
        "\\bpackage\\b", "\\bprotected\\b", "\\bvar\\b"};

    public static void main(String[] args) throws IOException {
        Check c = new Check("FaceTest");
        members(c);
        names(c);
        fields(c);
        source(c);
        library(c);
        c.end();
    }

    private static void members(Check c) {
        Set<String> want = new TreeSet<>(Set.of(FACE));
        Set<String> got = new TreeSet<>();
        for (Method method : TenthMan.class.getDeclaredMethods()) {
            if (!Modifier.isPrivate(method.getModifiers())) {
                StringBuilder s = new StringBuilder(method.getReturnType().getName()).append(" ").append(method.getName()).append("(");
                for (Class<?> type : method.getParameterTypes()) {
                    s.append(s.charAt(s.length() - 1) == '(' ? "" : ",").append(type.getName());
                }
                got.add(s.append(")").toString());
                c.due(s + " is public", true, Modifier.isPublic(method.getModifiers()));
            }
        }
        c.due("the methods are " + got, true, want.equals(got));
        int shown = 0;
        for (Field field : TenthMan.class.getDeclaredFields()) {
            shown += Modifier.isPrivate(field.getModifiers()) ? 0 : 1;
        }
        c.due("shown fields", 1, shown);
        Constructor<?>[] constructors = TenthMan.class.getDeclaredConstructors();
        c.due("constructors", 1, constructors.length);
        c.due("its parameters", 0, constructors[0].getParameterCount());
        c.due("final", true, Modifier.isFinal(TenthMan.class.getModifiers()));
        c.due("twelve classes at most", true, TenthMan.class.getDeclaredClasses().length < 12);
    }

    private static void names(Check c) {
        Set<String> face = new TreeSet<>();
        for (String method : FACE) {
            face.add(method.substring(method.indexOf(' ') + 1, method.indexOf('(')));
        }
        for (Class<?> inside : TenthMan.class.getDeclaredClasses()) {
            c.due(inside + " is static", true, Modifier.isStatic(inside.getModifiers()));
            for (Method method : inside.getDeclaredMethods()) {
                c.due(method + " bears a name of its own", false, face.contains(method.getName()));
                c.due(method + " takes seven at most", true, method.getParameterCount() <= 7);
            }
            int fields = 0;
            for (Field field : inside.getDeclaredFields()) {
                fields += Modifier.isStatic(field.getModifiers()) ? 0 : 1;
            }
            c.due(inside + " has " + fields + " fields", true, fields <= 20);
        }
        for (Method method : TenthMan.class.getDeclaredMethods()) {
            c.due(method + " bears a name of its own", false,
                    Modifier.isPrivate(method.getModifiers()) && face.contains(method.getName()));
        }
    }

    /** Rules 3, 5, 11: what fields are, and that no static one changes. */
    private static void fields(Check c) {
        Set<Class<?>> types = Set.of(int.class, long.class, boolean.class, int[].class, int[][].class);
        Set<Class<?>> constants = Set.of(int.class, long.class, boolean.class, String.class, int[].class);
        Class<?>[] inside = TenthMan.class.getDeclaredClasses();
        Set<Class<?>> own = Set.of(inside);
        int mine = 0;
        for (int i = -1; i < inside.length; i++) {
            for (Field field : (i < 0 ? TenthMan.class : inside[i]).getDeclaredFields()) {
                boolean fixed = Modifier.isStatic(field.getModifiers());
                c.due(field + " is final if static", true, !fixed || Modifier.isFinal(field.getModifiers()));
                c.due(field + " is of a type that is left", true,
                        fixed ? constants.contains(field.getType()) : types.contains(field.getType()) || own.contains(field.getType()));
                mine += i < 0 && !fixed ? 1 : 0;
            }
        }
        c.due("fields of the face's class: " + mine, true, mine <= 20);
    }

    /** Rule 4: of the library only what stands there. */
    private static void library(Check c) throws IOException {
        String source = Files.readString(Path.of("src/main/java/TenthMan.java"));
        Set<String> left = Set.of("Arrays.fill", "Arrays.copyOf", "Arrays.copyOfRange", "System.arraycopy", "Math.min", "Math.max", "Math.abs",
                "Math.floorDiv", "Math.floorMod", "Integer.bitCount", "Integer.compare");
        Matcher calls = Pattern.compile("\\b(Arrays|System|Math|Integer|Long|String|StringBuilder|List|ArrayList|Character|Objects)\\.(\\w+)").matcher(source);
        int found = 0;
        while (calls.find()) {
            if (!source.startsWith("import", source.lastIndexOf('\n', calls.start()) + 1)) {
                found++;
                c.due(calls.group() + " is left", true, left.contains(calls.group()));
            }
        }
        c.due("calls of the library found", true, found > 5);
        c.due("no doubles", false, Pattern.compile("\\b(double|float|Object|Map|Set|Deque)\\b").matcher(source).find());
        c.due("nothing joined to a text by +", false, Pattern.compile("\" \\+|\\+ \"").matcher(source).find());
    }

    private static void source(Check c) throws IOException {
        String source = Files.readString(Path.of("src/main/java/TenthMan.java"));
        String code = source.replaceAll("(?s)/\\*.*?\\*/", "").replaceAll("//[^\n]*", "").replaceAll("\"[^\"\n]*\"", "\"\"");
        for (String ruledOut : RULED_OUT) {
            Matcher found = Pattern.compile(ruledOut).matcher(code);
            c.due("no " + ruledOut, false, found.find());
        }
        for (char sign : source.toCharArray()) {
            if (sign > 126 || sign < 32 && sign != '\n') {
                c.due("sign " + (int) sign, 0, 1);
            }
        }
        Matcher imports = Pattern.compile("import ([^;]*);").matcher(code);
        while (imports.find()) {
            c.due("import of " + imports.group(1), true, imports.group(1).equals("java.util.Arrays"));
        }
        Matcher methods = Pattern.compile("(?ms)^( {4}| {8})[a-z][^;={}]*\\([^;={}]*\\) \\{$(.*?)^\\1\\}$").matcher(code);
        int found = 0;
        while (methods.find()) {
            found++;
            long lines = methods.group(2).lines().count();
            c.due(lines + " lines of " + methods.group().lines().findFirst().orElse(""), true, lines <= 60);
        }
        c.due("methods found", true, found > 100);
    }
}
