import java.lang.reflect.Field;
import java.lang.reflect.Method;
import java.lang.reflect.Modifier;
import java.nio.file.Files;
import java.nio.file.Path;
import java.util.Set;
import java.util.TreeSet;
import java.util.regex.Matcher;
import java.util.regex.Pattern;

/** The public face as the document has it, and the rules of the language that can be looked for in the text. */
public final class LanguageTest {
    private static final Check check = new Check();
    private static final Set<String> FACE = Set.of(
        "int letter(int)", "int blank()", "int fault()", "int table()", "int ball(int,int)", "int as(int,int)",
        "int cell(int)", "int sees(int)", "int put(int,int)", "int lift(int)", "int change(int,int)",
        "int stroke(int,int,int)", "int would(int,int,int,int)", "int best(int)", "int plan(int)", "int safe(int)",
        "long wanted(int)", "int see(int,int,int,int)", "int forget()", "int frames(int,int,int)", "int image()",
        "int restore()", "int count(int)", "long digest()");

    public static void main(String[] args) throws Exception {
        face();
        inside();
        words();
        check.end();
    }

    private static void isSo(String what, boolean so) {
        check.isSo(what, so);
    }

    private static String signature(Method method) {
        StringBuilder text = new StringBuilder(method.getReturnType() + " " + method.getName() + "(");
        for (Class<?> type : method.getParameterTypes()) text.append(text.charAt(text.length() - 1) == '(' ? "" : ",").append(type);
        return text.append(")").toString();
    }

    private static void face() {
        Class<?> c = WhiteWanted.class;
        Set<String> found = new TreeSet<>();
        Set<String> names = new TreeSet<>();
        for (Method method : c.getDeclaredMethods()) {
            if (!Modifier.isPublic(method.getModifiers())) continue;
            found.add(signature(method));
            names.add(method.getName());
        }
        isSo("public methods " + found, found.equals(FACE));
        for (Method method : c.getDeclaredMethods()) {
            int m = method.getModifiers();
            isSo(method + " is public or private", Modifier.isPublic(m) || Modifier.isPrivate(m) || method.isSynthetic());
            isSo(method + " has a name of its own", Modifier.isPublic(m) || !names.contains(method.getName()));
        }
        for (Field field : c.getDeclaredFields()) {
            boolean constant = Set.of("NONE", "UNKNOWN", "OUTSIDE", "STATE", "FULL").contains(field.getName());
            isSo(field + " is as told", Modifier.isPublic(field.getModifiers()) == constant);
        }
        check.due("constructors", c.getDeclaredConstructors().length, 1);
        isSo("final", Modifier.isFinal(c.getModifiers()));
    }

    private static void inside() {
        check.due("some twelve classes", WhiteWanted.class.getDeclaredClasses().length <= 12 ? 1 : 0, 1);
        for (Class<?> inner : WhiteWanted.class.getDeclaredClasses()) {
            isSo(inner + " is static", Modifier.isStatic(inner.getModifiers()));
            for (Field field : inner.getDeclaredFields()) {
                int m = field.getModifiers();
                isSo(field + " is no static state", !Modifier.isStatic(m) || Modifier.isFinal(m));
            }
            isSo(inner + " has some twenty fields at most", inner.getDeclaredFields().length <= 20);
            for (Method method : inner.getDeclaredMethods()) {
                isSo(method + " parameters", method.getParameterCount() <= 7);
                boolean named = FACE.stream().anyMatch(face -> face.contains(" " + method.getName() + "("));
                isSo(method + " has a name of its own", !Modifier.isPrivate(method.getModifiers()) || !named);
            }
        }
    }

    /** From a line that opens a method to the one that closes it, by how far they stand in. */
    private static void lengths(String text) {
        Matcher methods = Pattern.compile("(?m)^( {4}| {8})(?! )[^;=\\n]*\\) \\{\\n((?s:.*?))\\n\\1\\}$").matcher(text);
        int found = 0;
        for (; methods.find(); found++) {
            long lines = methods.group(2).lines().count();
            isSo("short: " + methods.group().lines().findFirst().orElse(""), lines <= 60);
        }
        isSo("methods are found", found > 80);
    }

    private static void words() throws Exception {
        String text = Files.readString(Path.of("src/main/java/WhiteWanted.java"));
        String code = text.replaceAll("(?s)/\\*.*?\\*/", "").replaceAll("//.*", "");
        Matcher out = Pattern.compile("\\b(throws?|try|catch|finally|synchronized|assert|package|Exact|System\\.(?!arraycopy)\\w+"
            + "|Object|hashCode|toString|Random|Thread)\\b|->|::|@").matcher(code);
        while (out.find()) isSo("no " + out.group(), false);
        Matcher imports = Pattern.compile("import ([\\w.]+);").matcher(code);
        while (imports.find()) isSo("import " + imports.group(1), Set.of("java.util.Arrays").contains(imports.group(1)));
        lengths(text);
        isSo("plain signs", text.chars().allMatch(sign -> sign < 128));
    }
}
