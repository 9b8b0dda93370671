import java.io.IOException;
import java.lang.reflect.Constructor;
import java.lang.reflect.Field;
import java.lang.reflect.Method;
import java.lang.reflect.Modifier;
import java.nio.file.Files;
import java.nio.file.Path;
import java.util.HashSet;
import java.util.Set;
import java.util.TreeSet;
import java.util.regex.Matcher;
import java.util.regex.Pattern;

/** The public face as the document has it, and those rules of LANGUAGE.md that can be seen from the source. */
public final class FaceTest {
    private static final String[] FACE = {"boolean guest(int,int)", "boolean grille(int,boolean)", "boolean louvre(int,int)",
        "int feed(int,int,int,int,int)", "int law(int)", "int register(int)", "int hours(int)", "int tried(int,int)",
        "int roomIs(int,int)", "int feels(int,int)", "int way(int,int)", "int odds(int,int,int,int)", "int fromWhere(int)",
        "int meet(int,int)", "int cowls()", "int turn(int,int,int)", "int ways(int,int)", "int stockings(int,int)",
        "long sleep(int,int,int)", "int breakfast(int)", "int ropes(int,int,int)", "int taps(int,int)", "int tapped(int)",
        "int linen(int,int,int)", "int dust(int)", "boolean seed(int)", "int keep()", "boolean undo()", "int check(int)",
        "int count(int)"};

    public static void main(String[] args) throws IOException {
        members();
        nested();
        source(Files.readString(Path.of("src/main/java/GrilleHotel.java")));
        Due.end("FaceTest");
    }

    private static void members() {
        Set<String> face = new TreeSet<>(Set.of(FACE));
        Set<String> found = new TreeSet<>();
        Set<String> names = new HashSet<>();
        for (Method method : GrilleHotel.class.getDeclaredMethods()) {
            if (Modifier.isPublic(method.getModifiers())) {
                found.add(told(method));
                names.add(method.getName());
            }
        }
        Due.is("the public methods are " + found, found.equals(face), true);
        for (Method method : GrilleHotel.class.getDeclaredMethods()) {
            boolean isPrivate = Modifier.isPrivate(method.getModifiers());
            Due.is(method + " is public or private", isPrivate || face.contains(told(method)), true);
            Due.is(method + " bears a name of its own", isPrivate && names.contains(method.getName()), false);
        }
        for (Field field : GrilleHotel.class.getDeclaredFields()) {
            Due.is(field + " is private", Modifier.isPrivate(field.getModifiers()), !field.getName().equals("NONE"));
            int both = Modifier.STATIC | Modifier.FINAL;
            Due.is(field + " is no static state", (field.getModifiers() & both) == Modifier.STATIC, false);
        }
        Constructor<?>[] constructors = GrilleHotel.class.getDeclaredConstructors();
        Due.is("one constructor", constructors.length, 1);
        Due.is("it is public", Modifier.isPublic(constructors[0].getModifiers()), true);
        Due.is("without parameters", constructors[0].getParameterCount(), 0);
        Due.is("public and final", GrilleHotel.class.getModifiers(), Modifier.PUBLIC | Modifier.FINAL);
    }

    private static String told(Method method) {
        StringBuilder text = new StringBuilder(method.getReturnType() + " " + method.getName() + "(");
        String comma = "";
        for (Class<?> type : method.getParameterTypes()) {
            text.append(comma).append(type);
            comma = ",";
        }
        return text + ")";
    }

    private static void nested() {
        Class<?>[] inside = GrilleHotel.class.getDeclaredClasses();
        Due.is("at most twelve classes", inside.length + 1 <= 12, true);
        Set<String> names = new HashSet<>();
        for (String told : FACE) {
            names.add(told.substring(told.indexOf(' ') + 1, told.indexOf('(')));
        }
        for (Class<?> one : inside) {
            Due.is(one + " is static", Modifier.isStatic(one.getModifiers()), true);
            int fields = 0;
            for (Field field : one.getDeclaredFields()) {
                fields += Modifier.isStatic(field.getModifiers()) ? 0 : 1;
            }
            Due.is(one + " has at most twenty fields, " + fields, fields <= 20, true);
            for (Method method : one.getDeclaredMethods()) {
                Due.is(method + " has at most seven parameters", method.getParameterCount() <= 7, true);
                Due.is(method + " bears a name of its own", names.contains(method.getName()), false);
            }
        }
    }

    private static void source(String text) {
        String bare = text.replaceAll("(?s)/\\*.*?\\*/", "").replaceAll("//[^\n]*", "");
        String[] words = {"throw", "throws", "try", "catch", "finally", "synchronized", "assert", "while", "do", "instanceof",
            "package", "protected", "float", "double", "String", "Object", "System.out", "Long.MAX_VALUE"};
        for (String word : words) {
            Due.is("no " + word, Pattern.compile("\\b" + Pattern.quote(word) + "\\b").matcher(bare).find(), false);
        }
        Due.is("no lambda", bare.contains("->"), false);
        Due.is("no method reference", bare.contains("::"), false);
        Due.is("signs 1 to 127 alone", text.chars().allMatch(sign -> sign > 0 && sign < 128), true);
        Matcher imports = Pattern.compile("import ([^;]*);").matcher(bare);
        while (imports.find()) {
            Due.is("import " + imports.group(1), imports.group(1).equals("java.util.Arrays"), true);
        }
        Matcher calls = Pattern.compile("\\b(Math|Arrays|System|Integer|Long)\\.(\\w+)").matcher(bare);
        Set<String> known = Set.of("Math.min", "Math.max", "Arrays.fill", "System.arraycopy", "Integer.bitCount");
        while (calls.find()) {
            Due.is(calls.group(), known.contains(calls.group()), true);
        }
        methodLengths(text);
    }

    private static void methodLengths(String text) {
        String[] lines = text.split("\n");
        int start = -1;
        String head = "";
        String close = "";
        for (int i = 0; i < lines.length; i++) {
            String line = lines[i];
            if (start < 0 && line.matches(" {4,8}[^ ].*\\) \\{") && !line.contains(" class ")) {
                start = i;
                head = line.trim();
                close = line.substring(0, line.length() - line.stripLeading().length()) + "}";
            } else if (start >= 0 && line.equals(close)) {
                Due.is(head + " has at most sixty lines", i - start + 1 <= 60, true);
                start = -1;
            }
            Due.is("line " + (i + 1) + " has at most 120 signs", line.length() <= 120, true);
        }
    }
}
