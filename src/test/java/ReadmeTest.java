import java.io.IOException;
import java.lang.reflect.Method;
import java.lang.reflect.Modifier;
import java.nio.file.DirectoryStream;
import java.nio.file.Files;
import java.nio.file.Path;
import java.util.ArrayList;
import java.util.Arrays;
import java.util.List;
import java.util.regex.Matcher;
import java.util.regex.Pattern;

/** What README.md shows is so: each call of its example, every method of the face, every test. */
public final class ReadmeTest {
    private static final Pattern CALL = Pattern.compile("king\\.(\\w+)\\((.*?)\\); *// ([\\w-]+):.*");

    private ReadmeTest() {
    }

    public static void main(String[] args) throws IOException, ReflectiveOperationException {
        String text = Files.readString(Path.of("README.md"));
        example(text);
        for (Method method : BronzeKing.class.getDeclaredMethods()) {
            if (Modifier.isPublic(method.getModifiers())) {
                Due.is("README tells " + method.getName(), text.contains("`" + method.getName() + "("), true);
            }
        }
        try (DirectoryStream<Path> tests = Files.newDirectoryStream(Path.of("src/test/java"), "*Test.java")) {
            for (Path test : tests) {
                String name = test.getFileName().toString().replace(".java", "");
                Due.is("README tells " + name, text.contains("| `" + name + "` |"), true);
            }
        }
        Due.end();
    }

    /** Each line of the example: a call, and behind it the answer that is due. */
    private static void example(String text) throws ReflectiveOperationException {
        BronzeKing king = new BronzeKing();
        int calls = 0;
        for (String line : text.split("\\R")) {
            Matcher call = CALL.matcher(line);
            if (call.matches()) {
                Due.is(line, answer(king, call.group(1), call.group(2)).equals(call.group(3)), true);
                calls++;
            } else {
                Due.is("a call with its answer: " + line, line.startsWith("king."), false);
            }
        }
        Due.is("the example has calls", calls > 10, true);
    }

    private static String answer(BronzeKing king, String name, String numbers) throws ReflectiveOperationException {
        List<Object> values = new ArrayList<>();
        for (String number : numbers.isEmpty() ? new String[0] : numbers.split(", ")) {
            values.add(number.startsWith("0x") ? Integer.parseUnsignedInt(number.substring(2), 16)
                : Integer.parseInt(number));
        }
        Class<?>[] types = new Class<?>[values.size()];
        Arrays.fill(types, int.class);
        return String.valueOf(BronzeKing.class.getMethod(name, types).invoke(king, values.toArray()));
    }
}
