import java.lang.reflect.Constructor;
import java.lang.reflect.Field;
import java.lang.reflect.Method;
import java.lang.reflect.Modifier;
import java.nio.charset.StandardCharsets;
import java.nio.file.Files;
import java.nio.file.Path;
import java.util.ArrayList;
import java.util.Arrays;
import java.util.List;
import java.util.Set;
import java.util.TreeSet;
import java.util.regex.Matcher;
import java.util.regex.Pattern;

/** The face of the document, and the rules of LANGUAGE.md that a program can look at; run from the checkout's root. */
public final class LanguageTest {
    private static final String FACE = "status() top() bottom() tray(int,int,int) write(int,int,long) read(int,int) "
        + "pour(int,int,int,int,int) feed(int,int,int,int,int) land(int) fault(int) many(int) moves(int,int) "
        + "row(int,int,int,int,int) offset(int,int,int) asof(int) value(int,int,int) line(int,int,int,int) breaks(int) "
        + "slow(int,int,int,int) smooth(int) slips(int,int) ends(int,int,int,int) first(int,int,int) corner(int,int) "
        + "quarrel(int,int,int) without(int,int,int) rank(int,int) apart(int,int) odds(int,int,int,int) shake(int,int,int) "
        + "saved(int,int,int) net(int,int) netTold(int) few(int,int,int,int) fewOf(int)";
    private static final Set<String> TELLS_LONG = Set.of("top", "bottom", "read");
    private static final Set<String> TELLS_BOOLEAN = Set.of("tray", "write", "pour", "row", "offset", "asof", "smooth", "shake");

    private static int wrong = 0;

    public static void main(String[] args) throws Exception {
        face();
        insides();
        String source = Files.readString(Path.of("src/main/java/SlipSheets.java"), StandardCharsets.UTF_8);
        words(source.replaceAll("(?s)/\\*.*?\\*/", "").replaceAll("//[^\n]*", "").replaceAll("\"[^\"\n]*\"", "\"\""));
        lengths(source);
        System.out.println("LanguageTest: " + (wrong == 0 ? "all rules hold" : wrong + " rules are broken"));
        if (wrong != 0) {
            System.exit(1);
        }
    }

    private static void must(boolean holds, String rule) {
        if (!holds) {
            wrong++;
            System.out.println("broken: " + rule);
        }
    }

    private static Set<String> publicNames() {
        Set<String> names = new TreeSet<>();
        for (String call : FACE.split(" ")) {
            names.add(call.substring(0, call.indexOf('(')));
        }
        return names;
    }

    private static String told(Method method) {
        List<String> types = new ArrayList<>();
        for (Class<?> type : method.getParameterTypes()) {
            types.add(type.getName());
        }
        return method.getName() + "(" + String.join(",", types) + ")";
    }

    private static void face() throws Exception {
        Set<String> want = new TreeSet<>(Arrays.asList(FACE.split(" ")));
        Set<String> got = new TreeSet<>();
        for (Method method : SlipSheets.class.getDeclaredMethods()) {
            if (!Modifier.isPrivate(method.getModifiers())) {
                got.add(told(method));
                Class<?> tells = TELLS_LONG.contains(method.getName()) ? long.class
                    : TELLS_BOOLEAN.contains(method.getName()) ? boolean.class : int.class;
                must(method.getReturnType() == tells && Modifier.isPublic(method.getModifiers()), "rule 1: " + method);
            }
        }
        must(got.equals(want), "rule 1: the face is " + got);
        Constructor<?>[] constructors = SlipSheets.class.getDeclaredConstructors();
        must(constructors.length == 1 && Modifier.isPublic(constructors[0].getModifiers())
            && constructors[0].getParameterCount() == 0, "rule 1: the constructor");
        must(Modifier.isFinal(SlipSheets.class.getModifiers()), "rule 1: the class is final");
        for (Field field : SlipSheets.class.getDeclaredFields()) {
            must(Modifier.isPrivate(field.getModifiers()) || field.getName().equals("NONE"), "rule 1: " + field);
        }
        must(SlipSheets.NONE == -1, "NONE");
    }

    private static void insides() {
        List<Class<?>> classes = new ArrayList<>(Arrays.asList(SlipSheets.class.getDeclaredClasses()));
        classes.add(SlipSheets.class);
        must(classes.size() <= 12, "rule 11: " + classes.size() + " classes");
        for (Class<?> type : classes) {
            must(type == SlipSheets.class || Modifier.isStatic(type.getModifiers()), "rule 2: " + type);
            int fields = 0;
            for (Field field : type.getDeclaredFields()) {
                boolean isStatic = Modifier.isStatic(field.getModifiers());
                must(!isStatic || (Modifier.isFinal(field.getModifiers()) && field.getType().isPrimitive()), "rule 5: " + field);
                fields += isStatic ? 0 : 1;
            }
            must(fields <= 20, "rule 11: " + fields + " fields in " + type);
            for (Method method : type.getDeclaredMethods()) {
                must(method.getParameterCount() <= 7, "rule 11: " + method);
                must(type == SlipSheets.class && Modifier.isPublic(method.getModifiers())
                    || !publicNames().contains(method.getName()), "rule 1: " + method);
            }
        }
    }

    private static void words(String code) {
        for (String word : new String[] {"throw", "throws", "try", "catch", "synchronized", "assert", "double", "float", "native",
            "volatile", "transient", "strictfp", "Object", "Exception", "Random", "Thread", "System\\.(?!arraycopy)\\w+", "\\w+Exact",
            "static\\s*\\{", "->", "::", "@\\w+"}) {
            Matcher matcher = Pattern.compile(Character.isLetter(word.charAt(0)) ? "\\b" + word + "(?!\\w)" : word).matcher(code);
            must(!matcher.find(), "rules 2 to 6: " + word);
        }
        Matcher imports = Pattern.compile("import ([^;]+);").matcher(code);
        while (imports.find()) {
            must(imports.group(1).equals("java.util.Arrays"), "rule 4: " + imports.group(1));
        }
        Matcher library = Pattern.compile("\\b(Arrays|Math|Integer|Long)\\.(\\w+)").matcher(code);
        while (library.find()) {
            must(Set.of("fill", "max", "min", "abs", "floorDiv", "bitCount", "signum").contains(library.group(2)), "rule 4: " + library.group());
        }
        // objects are made in fields and in the constructor alone, so that no run of calls fills the room
        for (String line : code.split("\n")) {
            must(!line.contains("new ") || line.matches("\\s+private .*= new .*;") || line.contains("trays[i] = new Tray()"), "rule 12: " + line);
        }
    }

    private static void lengths(String source) {
        int length = 0;
        boolean inside = false;
        for (String line : source.split("\n")) {
            if (line.matches("( {4}| {8})(public|private) [^=;]*\\{")  && !line.contains(" class ")) {
                inside = true;
                length = 0;
            }
            length++;
            if (inside && line.matches(" {4}(?: {4})?\\}")) {
                must(length <= 60, "rule 11: a method of " + length + " lines");
                inside = false;
            }
        }
    }
}
