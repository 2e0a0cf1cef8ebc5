import java.io.IOException;
import java.lang.reflect.Constructor;
import java.lang.reflect.Field;
import java.lang.reflect.Method;
import java.lang.reflect.Modifier;
import java.nio.file.Files;
import java.nio.file.Path;
import java.util.ArrayList;
import java.util.List;
import java.util.TreeSet;
import java.util.regex.Matcher;
import java.util.regex.Pattern;

/** The face is the document's, and the source keeps to those rules of LANGUAGE.md that can be seen in it. */
public final class LanguageTest {
    private static final String FACE = "boolean square(int,int) boolean door(int,int,int) int feed(int,int,int,int,int) "
        + "int law(int) int map(int) int notes(int) int days(int) int tried(int,int) int placeIs(int,int,int) "
        + "int likely(int,int) int watch(int,int) int sure(int) int walk(int) int worn() int far(int) "
        + "int calls(int,int) int old(int,int) int barred(int,int,int) int chase(int,int) int lovers(int,int) "
        + "int benches(int,int) int pigeons(int) int streets(int) boolean seed(int) int keep() boolean undo() "
        + "int check(int,int) int count(int)";

    private LanguageTest() {
    }

    public static void main(String[] args) throws IOException {
        face();
        privateNames();
        staticFields();
        members();
        source(Files.readString(Path.of("src/main/java/BronzeKing.java")));
        Due.end();
    }

    private static void face() {
        TreeSet<String> due = new TreeSet<>(List.of(FACE.split(" (?=int |boolean )")));
        TreeSet<String> got = new TreeSet<>();
        for (Method method : BronzeKing.class.getDeclaredMethods()) {
            if (!Modifier.isPrivate(method.getModifiers())) {
                List<String> types = new ArrayList<>();
                for (Class<?> type : method.getParameterTypes()) {
                    types.add(type.getName());
                }
                Due.is(method + " is public", Modifier.isPublic(method.getModifiers()), true);
                got.add(method.getReturnType() + " " + method.getName() + "(" + String.join(",", types) + ")");
            }
        }
        Due.is("the methods " + got, got.equals(due), true);
        Constructor<?>[] constructors = BronzeKing.class.getDeclaredConstructors();
        Due.is("constructors", constructors.length, 1);
        Due.is("its parameters", constructors[0].getParameterCount(), 0);
        Due.is("it is public", Modifier.isPublic(constructors[0].getModifiers()), true);
        for (Field field : BronzeKing.class.getDeclaredFields()) {
            boolean isNone = field.getName().equals("NONE");
            Due.is(field + " is private", Modifier.isPrivate(field.getModifiers()), !isNone);
        }
        Due.is("the class is final", Modifier.isFinal(BronzeKing.class.getModifiers()), true);
    }

    /** Rule 1: "No private method bears the name of a public one." */
    private static void privateNames() {
        TreeSet<String> names = new TreeSet<>();
        for (Method method : BronzeKing.class.getDeclaredMethods()) {
            Due.is(method + " is the only one of its name", names.add(method.getName()), true);
        }
    }

    /** Rule 5: static fields are final, of few types. */
    private static void staticFields() {
        List<Class<?>> types = List.of(int.class, long.class, boolean.class, char.class, String.class, int[].class,
            long[].class, char[].class, byte[].class);
        List<Class<?>> classes = new ArrayList<>(List.of(BronzeKing.class.getDeclaredClasses()));
        classes.add(BronzeKing.class);
        for (Class<?> type : classes) {
            for (Field field : type.getDeclaredFields()) {
                if (Modifier.isStatic(field.getModifiers())) {
                    Due.is(field + " is final", Modifier.isFinal(field.getModifiers()), true);
                    Due.is(field + " is of a type that may be", types.contains(field.getType()), true);
                }
            }
        }
    }

    private static void members() {
        Class<?>[] classes = BronzeKing.class.getDeclaredClasses();
        Due.is("at most twelve classes", classes.length + 1 <= 12, true);
        TreeSet<String> names = new TreeSet<>();
        for (Method method : BronzeKing.class.getDeclaredMethods()) {
            if (Modifier.isPublic(method.getModifiers())) {
                names.add(method.getName());
            }
        }
        for (Class<?> type : classes) {
            Due.is(type + " is static", Modifier.isStatic(type.getModifiers()), true);
            int fields = 0;
            for (Field field : type.getDeclaredFields()) {
                boolean isStatic = Modifier.isStatic(field.getModifiers());
                fields += isStatic ? 0 : 1;
                Due.is(field + " is final if it is static", isStatic && !Modifier.isFinal(field.getModifiers()), false);
            }
            Due.is("fields of " + type, fields <= 20, true);
            for (Method method : type.getDeclaredMethods()) {
                Due.is(method + " bears a public name", names.contains(method.getName()), false);
                Due.is(method + " has few parameters", method.getParameterCount() <= 7, true);
            }
        }
    }

    private static void source(String text) {
        String bare = text.replaceAll("(?s)/\\*.*?\\*/", "").replaceAll("//[^\n]*", "")
            .replaceAll("'(\\\\.|[^'])'", "0").replaceAll("\"[^\"]*\"", "@");
        String[] ruledOut = {"\\bthrow\\b", "\\btry\\b", "\\bcatch\\b", "\\bsynchronized\\b", "\\bassert\\b", "->",
            "::", "\\bstatic\\s*\\{", "\\bpackage\\b", "\\bprotected\\b", "\\bThread\\b", "\\bnanoTime\\b", "Exact\\b",
            "@ \\+|\\+ @", "\\bhashCode\\b", "\\bRandom\\b", "\\bList\\.of\\b", "\\bdouble\\b", "\\bfloat\\b"};
        for (String word : ruledOut) {
            Due.is("the source has " + word, Pattern.compile(word).matcher(bare).find(), false);
        }
        Matcher imports = Pattern.compile("import ([\\w.*]+);").matcher(bare);
        while (imports.find()) {
            Due.is("import of " + imports.group(1), imports.group(1).equals("java.util.Arrays"), true);
        }
        for (int i = 0; i < text.length(); i++) {
            if (text.charAt(i) > 126) {
                Due.is("a sign at " + i, text.charAt(i), ' ');
            }
        }
        library(bare);
        shortMethods(text);
    }

    /** Rule 4: of the library only what stands there; rule 9: no loop without an end in its own lines. */
    private static void library(String bare) {
        List<String> calls = List.of("Math.max", "Math.min", "Math.abs", "Math.floorMod", "Math.floorDiv",
            "Integer.bitCount", "Long.bitCount", "Arrays.fill", "Arrays.copyOf", "Arrays.copyOfRange",
            "System.arraycopy");
        Matcher used = Pattern.compile("\\b(Math|Integer|Long|Arrays|System|Character|Objects)\\.\\w+").matcher(bare);
        while (used.find()) {
            Due.is(used.group() + " is in the library", calls.contains(used.group()), true);
        }
        for (String endless : new String[] {"while \\(true\\)", "for \\([^;)]*;\\s*;"}) {
            Due.is("the source has " + endless, Pattern.compile(endless).matcher(bare).find(), false);
        }
        Due.is("no exception but by its words", Pattern.compile("Exception|Error\\b").matcher(bare).find(), false);
    }

    private static void shortMethods(String text) {
        String[] lines = text.split("\n");
        Pattern head = Pattern.compile("^( {4}| {8})(public |private |static |final )*[\\w\\[\\]]+ ?\\w*\\(.*\\) \\{$");
        int methods = 0;
        for (int i = 0; i < lines.length; i++) {
            Matcher matcher = head.matcher(lines[i]);
            if (matcher.matches()) {
                int end = i;
                while (end < lines.length && !lines[end].equals(matcher.group(1) + "}")) {
                    end++;
                }
                methods++;
                Due.is("length of" + lines[i], end - i < 60, true);
            }
        }
        Due.is("methods are found", methods > 100, true);
    }
}
