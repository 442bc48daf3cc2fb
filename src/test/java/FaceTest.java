import java.lang.reflect.Constructor;
import java.lang.reflect.Field;
import java.lang.reflect.Method;
import java.lang.reflect.Modifier;
import java.nio.file.Files;
import java.nio.file.Path;
import java.util.ArrayList;
import java.util.List;
import java.util.TreeSet;
import java.util.regex.Matcher;
import java.util.regex.Pattern;

/** The public face, and what of LANGUAGE.md can be seen without understanding the code. Runs at the checkout's root. */
public final class FaceTest {
    private static final Due due = new Due("FaceTest");

    private static final String[] FACE = {
        "int school(int,int)", "int set(int,int,int)", "int dairy(int,int,int)", "int bid(int,int,int)", "int won(int)",
        "int bottles(int)", "int month(int,int,int)", "int heads(int,int)", "int head(int,int,int,int)", "int fault(int)",
        "int act(int,int,int)", "int strike(int,int)", "int force(int,int,int)", "int holds(int,int,int,int)",
        "int quarrel(int,int,int,int)", "int go(int)", "int of(int,int)", "int order(int)", "int look(int,int,int)",
        "int byHowMuch(int,int)", "int round(int,int,int,int)", "int judge(int,int,int)", "int bought(int,int)",
        "int parted(int,int,int,int)", "int away(int,int,int)", "int beside(int,int,int)", "int image()", "int restore()",
        "int count(int)", "int keep(int,int,int,int,int)", "int row(int,int,int)", "int put(int,int,int)",
        "long element(int,int)", "int copy(int,int,int,int,int)", "int crate(int,int,int)", "int toss(int)"};

    public static void main(String[] args) throws Exception {
        face();
        nested();
        source(Files.readString(Path.of("src/main/java/MilkDesk.java")));
        due.end();
    }

    private static void face() {
        Class<?> desk = MilkDesk.class;
        due.holds("public and final", Modifier.isPublic(desk.getModifiers()) && Modifier.isFinal(desk.getModifiers()));
        TreeSet<String> want = new TreeSet<>(List.of(FACE));
        TreeSet<String> got = new TreeSet<>();
        TreeSet<String> names = new TreeSet<>();
        for (Method m : desk.getDeclaredMethods()) {
            if (!m.isSynthetic() && !Modifier.isPrivate(m.getModifiers())) {
                got.add(signature(m));
                names.add(m.getName());
                due.holds(m.getName() + " is public", Modifier.isPublic(m.getModifiers()) && !Modifier.isStatic(m.getModifiers()));
            }
        }
        due.holds("the methods of the face: " + got, got.equals(want));
        for (Method m : desk.getDeclaredMethods()) {
            if (Modifier.isPrivate(m.getModifiers())) {
                due.holds("private " + m.getName() + " bears no public name", !names.contains(m.getName()));
            }
        }
        Constructor<?>[] constructors = desk.getDeclaredConstructors();
        due.is("constructors", constructors.length, 1);
        due.holds("a public one without parameters", Modifier.isPublic(constructors[0].getModifiers())
                && constructors[0].getParameterCount() == 0);
        for (Field f : desk.getDeclaredFields()) {
            due.holds(f.getName() + " is private", Modifier.isPrivate(f.getModifiers()));
        }
        try {
            Class<?>[] thrown = desk.getMethod("element", int.class, int.class).getExceptionTypes();
            due.is("exceptions that element declares", thrown.length, 2);
        } catch (NoSuchMethodException e) {
            due.is("element", 0, 1);
        }
    }

    private static String signature(Method m) {
        List<String> types = new ArrayList<>();
        for (Class<?> type : m.getParameterTypes()) {
            types.add(type.getSimpleName());
        }
        return m.getReturnType().getSimpleName() + " " + m.getName() + "(" + String.join(",", types) + ")";
    }

    private static void nested() {
        Class<?>[] classes = MilkDesk.class.getDeclaredClasses();
        due.holds("some twelve classes", classes.length <= 12);
        for (Class<?> c : classes) {
            int bits = c.getModifiers();
            due.holds(c.getSimpleName() + " is static, private or package-visible",
                    Modifier.isStatic(bits) && !Modifier.isPublic(bits) && !Modifier.isProtected(bits));
            int fields = 0;
            for (Field f : c.getDeclaredFields()) {
                boolean constant = Modifier.isStatic(f.getModifiers());
                fields += constant || f.isSynthetic() ? 0 : 1;
                due.holds(c.getSimpleName() + "." + f.getName() + " is final if static",
                        !constant || Modifier.isFinal(f.getModifiers()));
            }
            due.holds(c.getSimpleName() + " has some twenty fields", fields <= 20);
            for (Method m : c.getDeclaredMethods()) {
                due.holds(m.getName() + " takes seven parameters at most", m.getParameterCount() <= 7);
            }
        }
    }

    private static void source(String text) {
        for (int i = 0; i < text.length(); i++) {
            if (text.charAt(i) > 126 || text.charAt(i) == '\t') {
                due.is("sign " + (int) text.charAt(i) + " at " + i, 0, 1);
            }
        }
        String code = withoutComments(text);
        String[] banned = {"->", "::", "finally", "synchronized", "assert ", "instanceof", "Exact(", "import ", "package ",
            "static {", ".hashCode(", ".toString(", ".equals(", "getMessage", "System.out", "System.nano", "System.current",
            "Random", "Thread", "float", "double", "try (", "catch (RuntimeException", "catch (Exception",
            "catch (Throwable", "catch (IndexOutOfBounds", "catch (ArrayIndex", "catch (NullPointer", "catch (Arithmetic",
            "catch (ClassCast", "catch (NegativeArray", "catch (ArrayStore", "extends ", "protected "};
        for (String word : banned) {
            due.holds("no " + word, !code.contains(word));
        }
        Matcher dots = Pattern.compile("\\b([A-Z][A-Za-z]*)\\.([a-zA-Z]+)").matcher(code);
        while (dots.find()) {
            due.holds("a library call that is listed: " + dots.group(), isListed(dots.group(1), dots.group(2)));
        }
        methodsAreShort(code);
    }

    private static boolean isListed(String of, String member) {
        switch (of) {
            case "System": return member.equals("arraycopy");
            case "Math": return member.equals("max") || member.equals("min") || member.equals("abs");
            default: return List.of("Crates", "Shelf", "ActReader").contains(of);
        }
    }

    private static String withoutComments(String text) {
        return text.replaceAll("(?s)/\\*.*?\\*/", "").replaceAll("//[^\n]*", "");
    }

    private static void methodsAreShort(String code) {
        String[] lines = code.split("\n");
        Pattern head = Pattern.compile("^( {4}| {8})(?! )[^=;]*\\([^;]*\\)[^;]*\\{$");
        for (int k = 0; k < lines.length; k++) {
            Matcher m = head.matcher(lines[k]);
            if (!m.find()) {
                continue;
            }
            int end = k;
            while (end < lines.length && !lines[end].equals(m.group(1) + "}")) {
                end++;
            }
            due.holds("short: " + lines[k].trim(), end - k <= 60);
        }
    }
}
