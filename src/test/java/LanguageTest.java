import java.lang.reflect.Constructor;
import java.lang.reflect.Field;
import java.lang.reflect.Method;
import java.lang.reflect.Modifier;
import java.nio.file.Files;
import java.nio.file.Path;
import java.util.ArrayList;
import java.util.List;
import java.util.TreeSet;
import java.util.regex.Matcher;
import java.util.regex.Pattern;

/** What can be seen of the rules of LANGUAGE.md, in the source and in the compiled class. */
public final class LanguageTest {
    private static final String FACE =
            "feed(int,int,int,int,int) end(int) palace() rule() force(int) law(int) room(int,int) at(int,int)"
            + " sleeps(int) mismatch(int) brick(int,int,int) lay(int,int) bed(int,int) fix(int,boolean)"
            + " walk(int,int,int) rest() undo() can() choice(int,int) draft(int) redraw(int,int,int,int)"
            + " drafted(int,int,int) nights(int) row(int,int,int) marks(int) floors() steps(int,int)"
            + " reach(int,int) gossip(int,int) almanac(int,int,int) would(int,int,int) follow()"
            + " wish(int,int,int,int) beds(int) almost(int,int) guards(int) drift(int) woke(int,int,int)"
            + " how(int,int) built(int,int,int) best() seed(int) drawn(int,int,int,int,int) count(int)"
            + " image(int) back(int)";

    private static int wrong = 0;

    private static void must(boolean is, String what) {
        if (!is) {
            wrong++;
            System.out.println(what);
        }
    }

    private static String told(Method m) {
        List<String> types = new ArrayList<>();
        for (Class<?> type : m.getParameterTypes()) {
            types.add(type.getSimpleName());
        }
        return m.getName() + "(" + String.join(",", types) + ")";
    }

    private static void face() {
        TreeSet<String> open = new TreeSet<>();
        TreeSet<String> names = new TreeSet<>();
        for (Method m : WalkingRooms.class.getDeclaredMethods()) {
            if (Modifier.isPublic(m.getModifiers())) {
                open.add(told(m));
                names.add(m.getName());
                Class<?> wanted = List.of("fix", "redraw").contains(m.getName()) ? boolean.class : int.class;
                must(m.getReturnType() == wanted, m + " answers another type");
            } else {
                must(Modifier.isPrivate(m.getModifiers()), m + " is neither public nor private");
            }
        }
        must(open.equals(new TreeSet<>(List.of(FACE.split(" ")))), "the face is not the document's: " + open);
        for (Field f : WalkingRooms.class.getDeclaredFields()) {
            boolean none = f.getName().equals("NONE") && Modifier.isPublic(f.getModifiers());
            must(none || Modifier.isPrivate(f.getModifiers()), f + " is not private");
        }
        Constructor<?>[] makers = WalkingRooms.class.getDeclaredConstructors();
        must(makers.length == 1 && Modifier.isPublic(makers[0].getModifiers()) && makers[0].getParameterCount() == 0,
                "the constructors are not the document's");
        must(Modifier.isFinal(WalkingRooms.class.getModifiers()), "the class is not final");
        Class<?>[] inside = WalkingRooms.class.getDeclaredClasses();
        must(inside.length <= 11, "there are " + inside.length + " classes inside");
        for (Class<?> c : inside) {
            must(Modifier.isStatic(c.getModifiers()), c + " is not static");
            must(!Modifier.isPublic(c.getModifiers()), c + " is public");
            shape(c, names);
        }
        shape(WalkingRooms.class, new TreeSet<>());
    }

    private static void shape(Class<?> c, TreeSet<String> names) {
        int fields = 0;
        for (Field f : c.getDeclaredFields()) {
            boolean fixed = Modifier.isStatic(f.getModifiers());
            must(!fixed || Modifier.isFinal(f.getModifiers()), f + " is static, but not final");
            fields += fixed ? 0 : 1;
        }
        must(fields <= 20, c + " has " + fields + " fields");
        for (Method m : c.getDeclaredMethods()) {
            must(m.getParameterCount() <= 7, m + " takes too much");
            must(!names.contains(m.getName()), m + " bears the name of a public one");
        }
    }

    private static String withoutComments(String source) {
        return source.replaceAll("(?s)/\\*.*?\\*/", " ").replaceAll("//[^\n]*", " ");
    }

    private static void source(String source) {
        String code = withoutComments(source);
        String plain = code.replaceAll("\"[^\"\n]*\"", "\"\"").replaceAll("'(\\\\.|[^'])'", "' '");
        for (String word : List.of("throw", "throws", "try", "catch", "synchronized", "assert", "double", "float",
                "instanceof", "Object", "protected", "package", "System.out", "native", "volatile", "Exception")) {
            must(!Pattern.compile("\\b" + Pattern.quote(word) + "\\b").matcher(plain).find(), "there is a " + word);
        }
        must(!plain.contains("->") && !plain.contains("::"), "there is a lambda or a method reference");
        must(!plain.contains("Exact("), "there is a function of the Exact kind");
        Matcher imports = Pattern.compile("import ([^;]*);").matcher(plain);
        while (imports.find()) {
            must(imports.group(1).equals("java.util.Arrays"), "import of " + imports.group(1));
        }
        must(!Pattern.compile("\"\"\\s*\\+|\\+\\s*\"\"").matcher(plain).find(), "texts are joined by +");
        for (int i = 0; i < source.length(); i++) {
            must(source.charAt(i) < 127, "a sign beyond 126");
        }
        methods(code);
    }

    /** Lines from a method's head to the brace that closes it. */
    private static void methods(String code) {
        String[] lines = code.split("\n", -1);
        Pattern head = Pattern.compile("^( {4}| {8})(?!return|new)[A-Za-z][^=;]*\\) \\{$");
        for (int i = 0; i < lines.length; i++) {
            Matcher m = head.matcher(lines[i]);
            if (!m.find() || lines[i].trim().matches("(if|for|while|switch|else|\\}).*")) {
                continue;
            }
            int end = i;
            while (end < lines.length && !lines[end].equals(m.group(1) + "}")) {
                end++;
            }
            must(end - i + 1 <= 60, (end - i + 1) + " lines: " + lines[i].trim());
        }
    }

    public static void main(String[] args) throws Exception {
        face();
        source(Files.readString(Path.of("src/main/java/WalkingRooms.java")));
        System.out.println(wrong == 0 ? "the language is kept to" : wrong + " rules are not kept to");
        if (wrong > 0) {
            System.exit(1);
        }
    }
}
