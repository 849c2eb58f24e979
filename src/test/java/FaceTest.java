import java.io.IOException;
import java.lang.reflect.Constructor;
import java.lang.reflect.Field;
import java.lang.reflect.Method;
import java.lang.reflect.Modifier;
import java.nio.file.Files;
import java.nio.file.Path;
import java.util.Set;
import java.util.TreeSet;
import java.util.regex.Matcher;
import java.util.regex.Pattern;

/** The public face is the document's and no more, and the source keeps to what the language's rules leave. */
public final class FaceTest {
    private static final Due due = new Due("FaceTest");

    private static final Set<String> METHODS = Set.of(
            "int strip(int)", "int corner(int)", "int map(int,int)", "int length(int,int,int)",
            "int mark(int,int,int)", "int about(int,int)", "int crease(int,int,int)",
            "int judge(int)", "int layer(int)", "int turned(int)", "int orders(int)", "long order(int,int)",
            "int check(int,long)", "int forced(int,int)", "int above(int,int,int)", "int alike(int,int)",
            "int foldings(int)", "int clash(int)", "int inClash(int)",
            "int simple(int)", "int step(int)", "int fold(int,int)", "int flatten(int)", "int lies(int,int,int)");
    private static final Set<String> CONSTANTS = Set.of("NONE", "UNKNOWN", "OUTSIDE", "STATE", "ROOM");

    private static String signature(Method m) {
        StringBuilder text = new StringBuilder(m.getReturnType().getName()).append(' ').append(m.getName()).append('(');
        Class<?>[] types = m.getParameterTypes();
        for (int i = 0; i < types.length; i++) {
            text.append(i == 0 ? "" : ",").append(types[i].getName());
        }
        return text.append(')').toString();
    }

    private static boolean isHidden(int modifiers) {
        return Modifier.isPrivate(modifiers);
    }

    private static void members() {
        Set<String> publicNames = new TreeSet<>();
        Set<String> privateNames = new TreeSet<>();
        Set<String> open = new TreeSet<>();
        for (Method m : CreaseFlat.class.getDeclaredMethods()) {
            if (m.isSynthetic()) {
                continue;
            }
            (isHidden(m.getModifiers()) ? privateNames : publicNames).add(m.getName());
            if (!isHidden(m.getModifiers())) {
                open.add(signature(m));
                due.holds(m.getName() + " is public, not static", m.getModifiers() == Modifier.PUBLIC);
            }
        }
        due.holds("the methods are the document's: " + open, open.equals(METHODS));
        privateNames.retainAll(publicNames);
        due.holds("no private method bears a public one's name: " + privateNames, privateNames.isEmpty());
        for (Field f : CreaseFlat.class.getDeclaredFields()) {
            boolean constant = CONSTANTS.contains(f.getName());
            due.holds(f.getName() + " is as it must be", f.isSynthetic() || isHidden(f.getModifiers()) != constant);
        }
        Constructor<?>[] made = CreaseFlat.class.getDeclaredConstructors();
        due.holds("one public constructor", made.length == 1 && made[0].getModifiers() == Modifier.PUBLIC && made[0].getParameterCount() == 0);
        due.holds("public and final", CreaseFlat.class.getModifiers() == (Modifier.PUBLIC | Modifier.FINAL));
        for (Class<?> c : CreaseFlat.class.getDeclaredClasses()) {
            due.holds(c.getName() + " is static", Modifier.isStatic(c.getModifiers()) && !Modifier.isPublic(c.getModifiers()));
            due.holds(c.getName() + " has few fields", c.getDeclaredFields().length <= 22);
            staticFieldsAreFinal(c);
        }
        staticFieldsAreFinal(CreaseFlat.class);
        due.holds("few classes", CreaseFlat.class.getDeclaredClasses().length < 12);
    }

    private static void staticFieldsAreFinal(Class<?> c) {
        for (Field f : c.getDeclaredFields()) {
            int m = f.getModifiers();
            due.holds(f.getName() + ", if static, is final", !Modifier.isStatic(m) || Modifier.isFinal(m));
        }
        for (Method m : c.getDeclaredMethods()) {
            due.holds(m.getName() + " has seven parameters at most", m.getParameterCount() <= 7);
        }
    }

    private static void source() throws IOException {
        String text = Files.readString(Path.of("src/main/java/CreaseFlat.java"));
        String code = text.replaceAll("(?s)/\\*.*?\\*/", " ").replaceAll("//[^\n]*", " ");
        for (String word : new String[] {"throw", "throws", "try", "catch", "synchronized", "assert", "package", "protected", "hashCode", "toString", "Object", "Random", "Thread"}) {
            due.holds("no " + word, !Pattern.compile("\\b" + word + "\\b").matcher(code).find());
        }
        due.holds("no lambda", !code.contains("->"));
        due.holds("no method reference", !code.contains("::"));
        due.holds("no Exact", !code.contains("Exact"));
        due.holds("no text is joined", !code.contains("\""));
        Matcher imports = Pattern.compile("import ([^;]*);").matcher(code);
        while (imports.find()) {
            due.holds("import " + imports.group(1), imports.group(1).equals("java.util.Arrays"));
        }
        Set<String> used = new TreeSet<>();
        Matcher calls = Pattern.compile("\\b(System|Arrays|Math|Integer|Long)\\.(\\w+)").matcher(code);
        while (calls.find()) {
            used.add(calls.group(1) + "." + calls.group(2));
        }
        used.removeAll(Set.of("System.arraycopy", "Arrays.fill", "Math.min", "Math.max", "Integer.bitCount"));
        due.holds("nothing else of the library: " + used, used.isEmpty());
    }

    public static void main(String[] args) throws IOException {
        members();
        source();
        due.end();
    }
}
