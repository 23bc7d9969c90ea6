import java.lang.reflect.Method;
import java.lang.reflect.Modifier;
import java.nio.file.Files;
import java.nio.file.Path;
import java.util.regex.Matcher;
import java.util.regex.Pattern;

/** What README.md shows must be so: its calls with the answers behind them, and that no call is left out. */
public final class ReadmeTest {
    private static final Pattern SHOWN = Pattern.compile("rooms\\.(\\w+)\\(([^)]*)\\);\\s*// (-?\\d+)\\b");

    private static Method named(String name) {
        for (Method m : WalkingRooms.class.getDeclaredMethods()) {
            if (Modifier.isPublic(m.getModifiers()) && m.getName().equals(name)) {
                return m;
            }
        }
        throw new IllegalStateException("README.md shows a call that is none: " + name);
    }

    private static Object[] arguments(String told) {
        String[] parts = told.isEmpty() ? new String[0] : told.split(", ");
        Object[] all = new Object[parts.length];
        for (int i = 0; i < parts.length; i++) {
            all[i] = Long.decode(parts[i]).intValue();
        }
        return all;
    }

    private static void example(String readme) throws Exception {
        int from = readme.indexOf("```java");
        String block = readme.substring(from, readme.indexOf("```", from + 3));
        WalkingRooms rooms = new WalkingRooms();
        Matcher call = SHOWN.matcher(block);
        int shown = 0;
        while (call.find()) {
            Object answer = named(call.group(1)).invoke(rooms, arguments(call.group(2)));
            Due.is(call.group(), (Integer) answer, Long.parseLong(call.group(3)));
            shown++;
        }
        Due.is("calls whose answer is shown", shown, block.split("rooms\\.", -1).length - 1);
    }

    private static void calls(String readme) {
        for (Method m : WalkingRooms.class.getDeclaredMethods()) {
            if (Modifier.isPublic(m.getModifiers())) {
                Matcher told = Pattern.compile("^\\|.*`" + m.getName() + "\\(([^)]*)\\)`", Pattern.MULTILINE).matcher(readme);
                boolean found = told.find();
                Due.is(m.getName() + " is told", found, true);
                int many = !found ? -1 : told.group(1).isEmpty() ? 0 : told.group(1).split(",").length;
                Due.is(m.getName() + ": arguments told", many, m.getParameterCount());
            }
        }
    }

    /** The calls that README.md names on the line that ends so. */
    private static boolean isOnLine(String readme, String name, String end) {
        for (String line : readme.split("\n")) {
            if (line.endsWith(end) && line.contains("`" + name + "`")) {
                return true;
            }
        }
        return false;
    }

    /** Without a PALACE each call refuses numbers that mean nothing in the way that is told. */
    private static void refusals(String readme) throws Exception {
        for (Method m : WalkingRooms.class.getDeclaredMethods()) {
            boolean reads = m.getName().equals("palace") || m.getName().equals("rule");
            if (!Modifier.isPublic(m.getModifiers()) || m.getName().equals("feed") || reads) {
                continue;
            }
            Object[] wild = new Object[m.getParameterCount()];
            for (int i = 0; i < wild.length; i++) {
                wild[i] = m.getParameterTypes()[i] == boolean.class ? (Object) true : (Object) Integer.MIN_VALUE;
            }
            Object answer = m.invoke(new WalkingRooms(), wild);
            if (isOnLine(readme, m.getName(), " by `false`,")) {
                Due.is(m.getName() + " refuses by false", (Boolean) answer, false);
            } else {
                int due = isOnLine(readme, m.getName(), " by -2,") ? -2 : WalkingRooms.NONE;
                Due.is(m.getName() + " refuses", (Integer) answer, due);
            }
        }
    }

    private static void tests(String readme) throws Exception {
        try (var files = Files.list(Path.of("src/test/java"))) {
            for (Path file : files.toList()) {
                String name = file.getFileName().toString().replace(".java", "");
                Due.is(name + " is told", readme.contains("`" + name + "`"), true);
            }
        }
    }

    public static void main(String[] args) throws Exception {
        Due.says("README.md says how to use the class and how to run its tests");
        String readme = Files.readString(Path.of("README.md"));
        example(readme);
        calls(readme);
        refusals(readme);
        tests(readme);
        Due.end();
    }
}
