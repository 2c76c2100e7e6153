import java.io.IOException;
import java.lang.reflect.InvocationTargetException;
import java.lang.reflect.Method;
import java.nio.file.Files;
import java.nio.file.Path;
import java.util.List;
import java.util.regex.Matcher;
import java.util.regex.Pattern;

/** The calls, texts and settings that README.md shows answer what stands beside them there. */
public final class ReadmeTest extends Check {
    private static final Pattern CALL = Pattern.compile("x\\.(\\w+)\\((.*)\\); +// (-?\\d+|true|false)(:.*)?");
    private static final Pattern TEXT = Pattern.compile("\\| `(.*)` \\| (-?\\d+) \\| (\\d+) \\|.*\\|");
    private static final Pattern SETTING =
            Pattern.compile("\\| (\\d) \\| [\\w ]+ \\| (-?\\d+) to (\\d+) \\| (\\d+) \\|.*\\|");

    public static void main(String[] args) throws IOException, ReflectiveOperationException {
        List<String> lines = Files.readAllLines(Path.of("README.md"));
        calls(lines);
        texts(lines);
        settings(lines);
        finish();
    }

    private static void calls(List<String> lines) throws ReflectiveOperationException {
        says("README, calls");
        TruckWing x = new TruckWing();
        int shown = 0;
        for (String line : lines) {
            Matcher call = CALL.matcher(line);
            if (line.equals("TruckWing x = new TruckWing();")) {
                x = new TruckWing();
            } else if (line.startsWith("x.")) {
                due("the line can be read: " + line, call.matches(), true);
                due(line, ask(x, call.group(1), call.group(2)).equals(call.group(3)), true);
                shown++;
            }
        }
        due("there are calls", shown > 30, true);
    }

    private static String ask(TruckWing x, String name, String given) throws ReflectiveOperationException {
        String[] words = given.isEmpty() ? new String[0] : given.split(", ");
        Object[] arguments = new Object[words.length];
        for (int k = 0; k < words.length; k++) {
            boolean isNumber = words[k].matches("-?\\d+");
            arguments[k] = isNumber ? (Object) Integer.valueOf(words[k]) : (Object) Boolean.valueOf(words[k]);
        }
        for (Method method : TruckWing.class.getMethods()) {
            if (method.getName().equals(name)) {
                try {
                    return String.valueOf(method.invoke(x, arguments));
                } catch (InvocationTargetException e) {
                    return "throws " + e.getCause();
                }
            }
        }
        return "there is no " + name;
    }

    private static void texts(List<String> lines) {
        says("README, texts");
        TruckWing x = new TruckWing();
        int shown = 0;
        for (String line : lines) {
            Matcher row = TEXT.matcher(line);
            if (row.matches()) {
                feedText(x, row.group(1));
                due("tell() of " + line, x.tell(), Integer.parseInt(row.group(2)));
                due("fault() of " + line, x.fault(), Integer.parseInt(row.group(3)));
                shown++;
            }
        }
        due("texts", shown, 6);
    }

    private static void settings(List<String> lines) {
        says("README, settings");
        int shown = 0;
        for (String line : lines) {
            Matcher row = SETTING.matcher(line);
            if (row.matches()) {
                TruckWing x = new TruckWing();
                int number = Integer.parseInt(row.group(1));
                int least = Integer.parseInt(row.group(2));
                int most = Integer.parseInt(row.group(3));
                int first = Integer.parseInt(row.group(4));
                due("at first: " + line, x.count(10 + number), first);
                due("below: " + line, x.set(number, least - 1), false);
                due("above: " + line, x.set(number, most + 1), false);
                due("the least: " + line, x.set(number, least), least != first);
                due("the most: " + line, x.set(number, most), true);
                due("their order: " + line, number, shown);
                shown++;
            }
        }
        due("settings", shown, 10);
    }
}
