import java.io.IOException;
import java.lang.reflect.Method;
import java.nio.file.Files;
import java.nio.file.Path;
import java.util.Set;
import java.util.TreeSet;
import java.util.regex.Matcher;
import java.util.regex.Pattern;

/** The example in README.md, call by call: each answers what the comment behind it begins with. */
public final class DrcScanReadme {
    private static final Pattern CALL = Pattern.compile("scan\\.(\\w+)\\((.*)\\);\\s+// (-?\\w+)(:.*)?");
    private static final Pattern SPAN = Pattern.compile("32 \\* (\\d+) \\+ (\\d+)");

    public static void main(String[] args) throws IOException, ReflectiveOperationException {
        DrcScan scan = new DrcScan();
        Set<String> shown = new TreeSet<>();
        int wrong = 0;
        for (String line : Files.readAllLines(Path.of("README.md"))) {
            if (!line.startsWith("scan.")) {
                continue;
            }
            Matcher call = CALL.matcher(line);
            if (!call.matches()) {
                wrong++;
                System.out.println("not a call with its answer: " + line);
                continue;
            }
            shown.add(call.group(1));
            String got = answer(scan, call.group(1), call.group(2));
            if (!got.equals(named(call.group(3)))) {
                wrong++;
                System.out.println(line + " answered " + got);
            }
        }
        // An example that is gone, or leaves a method out, must not pass for a right one.
        if (!shown.equals(methods())) {
            wrong++;
            System.out.println("the example calls " + shown + ", due is " + methods());
        }
        System.out.println(wrong == 0 ? "the example of README.md is right" : wrong + " lines are not as due");
        if (wrong != 0) {
            System.exit(1);
        }
    }

    private static Set<String> methods() {
        return new TreeSet<>(Set.of("add", "drop", "covers", "area", "outline", "corners", "thin", "gaps", "enclosure"));
    }

    private static String named(String answer) {
        return switch (answer) {
            case "BAD" -> "-2";
            case "FULL" -> "-3";
            default -> answer;
        };
    }

    private static String answer(DrcScan scan, String name, String text) throws ReflectiveOperationException {
        String[] parts = text.split(", ");
        Class<?>[] types = new Class<?>[parts.length];
        Object[] values = new Object[parts.length];
        for (int n = 0; n < parts.length; n++) {
            types[n] = int.class;
            values[n] = value(parts[n]);
        }
        Method method = DrcScan.class.getMethod(name, types);
        return String.valueOf(method.invoke(scan, values));
    }

    private static int value(String part) throws ReflectiveOperationException {
        if (part.startsWith("DrcScan.")) {
            return DrcScan.class.getField(part.substring("DrcScan.".length())).getInt(null);
        }
        Matcher span = SPAN.matcher(part);
        if (span.matches()) {
            return 32 * Integer.parseInt(span.group(1)) + Integer.parseInt(span.group(2));
        }
        return Integer.parseInt(part);
    }
}
