import java.io.PrintWriter;
import java.io.StringWriter;
import java.util.ArrayList;
import java.util.HashMap;
import java.util.LinkedHashSet;
import java.util.List;
import java.util.Map;
import java.util.Set;
import java.util.regex.Matcher;
import java.util.regex.Pattern;
import java.util.spi.ToolProvider;

/** What calls what, as the compiled class tells it: how deep calls go, and what of the library they use. */
public final class DepthTest {
    private static final int DEEPEST = 8;
    private static final Set<String> LIBRARY = Set.of("java/lang/Integer.bitCount", "java/lang/Long.bitCount",
        "java/lang/Math.abs", "java/lang/Math.floorMod", "java/lang/Math.floorDiv", "java/lang/Math.max",
        "java/lang/Math.min", "java/lang/Object.\"<init>\"", "java/lang/String.indexOf", "java/lang/System.arraycopy",
        "java/util/Arrays.fill");
    private static final Pattern METHOD = Pattern.compile("  (?:[\\w\\[\\].$]+ )*([\\w.$]+)\\(.*\\);");
    private static final Pattern CALL = Pattern.compile("invoke\\w+ .*// \\w*Method (?:([\\w$/]+)\\.)?(\"?[\\w$<>]+\"?):");

    private final Map<String, Set<String>> calls = new HashMap<>();
    private final Map<String, Integer> depths = new HashMap<>();
    private final List<String> openNow = new ArrayList<>();

    private DepthTest() {
    }

    public static void main(String[] args) {
        DepthTest test = new DepthTest();
        test.read(BronzeKing.class);
        for (Class<?> type : BronzeKing.class.getDeclaredClasses()) {
            test.read(type);
        }
        Due.is("methods are found", test.calls.size() > 100, true);
        Due.is("calls are found", test.calls.get("BronzeKing.days").contains("BronzeKing$Walker.goDay"), true);
        for (String method : test.calls.keySet()) {
            Due.is("depth of " + method, test.depth(method) <= DEEPEST, true);
        }
        Due.end();
    }

    private void read(Class<?> type) {
        StringWriter text = new StringWriter();
        ToolProvider javap = ToolProvider.findFirst("javap").orElseThrow();
        PrintWriter out = new PrintWriter(text);
        String path = System.getProperty("java.class.path");
        Due.is("javap", javap.run(out, out, "-p", "-c", "-cp", path, type.getName()), 0);
        Set<String> called = new LinkedHashSet<>();
        for (String line : text.toString().split("\\R")) {
            Matcher method = METHOD.matcher(line);
            if (method.matches()) {
                String name = method.group(1).equals(type.getName()) ? "\"<init>\"" : method.group(1);
                called = calls.computeIfAbsent(type.getName() + "." + name, key -> new LinkedHashSet<>());
            }
            Matcher call = CALL.matcher(line);
            if (call.find()) {
                addCall(called, call.group(1) == null ? type.getName() : call.group(1), call.group(2));
            }
        }
    }

    /** Rule 4: of the library only what stands there. */
    private static void addCall(Set<String> called, String type, String name) {
        if (type.startsWith("BronzeKing")) {
            called.add(type + "." + name);
        } else {
            Due.is(type + "." + name + " is in the library", LIBRARY.contains(type + "." + name), true);
        }
    }

    /** Rules 8 and 11: no method comes back to itself, and calls go at most eight deep. */
    private int depth(String method) {
        Integer known = depths.get(method);
        if (known != null) {
            return known;
        }
        Due.is(method + " is called within " + openNow, openNow.contains(method), false);
        int most = 0;
        if (!openNow.contains(method)) {
            openNow.add(method);
            for (String called : calls.getOrDefault(method, Set.of())) {
                most = Math.max(most, depth(called));
            }
            openNow.remove(openNow.size() - 1);
        }
        depths.put(method, most + 1);
        return most + 1;
    }
}
