import java.io.IOException;
import java.lang.reflect.Constructor;
import java.lang.reflect.Field;
import java.lang.reflect.Method;
import java.lang.reflect.Modifier;
import java.nio.file.Files;
import java.nio.file.Path;
import java.util.Arrays;
import java.util.Map;
import java.util.Set;
import java.util.TreeMap;
import java.util.TreeSet;
import java.util.regex.Matcher;
import java.util.regex.Pattern;

/** The public face is the document's, and the source keeps to those rules of LANGUAGE.md that can be seen from words. */
public final class FaceTest {
    private static final TestKit KIT = new TestKit();
    private static final String[] METHODS = {
        "int append(int,int,int,int,int) throws IllegalStateException", "int load(int) throws IllegalArgumentException",
        "int errorPosition()", "int pitchCount()", "int row(int) throws IndexOutOfBoundsException",
        "int rent(int) throws IndexOutOfBoundsException", "boolean isRoofed(int) throws IndexOutOfBoundsException",
        "int setRent(int,int) throws IndexOutOfBoundsException,IllegalArgumentException", "int traderCount()",
        "int trade(int) throws IndexOutOfBoundsException", "int frontage(int) throws IndexOutOfBoundsException",
        "int addTrader(int,int,int,boolean) throws IllegalArgumentException,IllegalStateException",
        "boolean clash(int,int) throws IllegalArgumentException",
        "void setClash(int,int,boolean) throws IllegalArgumentException,IllegalStateException",
        "int setCovers(int) throws IllegalArgumentException,IllegalStateException",
        "int traderAt(int) throws IndexOutOfBoundsException", "int start(int) throws IndexOutOfBoundsException",
        "int obstacle(int,int) throws IndexOutOfBoundsException",
        "int place(int,int) throws IndexOutOfBoundsException,IllegalStateException",
        "int remove(int) throws IndexOutOfBoundsException,IllegalStateException",
        "int swap(int,int) throws IndexOutOfBoundsException,IllegalStateException", "int clear()", "int income()",
        "int coversUsed()", "double expectedIncome(double) throws IllegalArgumentException", "int bestIncome()",
        "int optimise()", "int clashCost(int,int) throws IllegalArgumentException", "int coverValue()",
        "int contribution(int) throws IndexOutOfBoundsException", "int bestRent(int) throws IndexOutOfBoundsException",
        "int firstCome(long) throws IllegalArgumentException",
        "int insertionIncome(int,int) throws IndexOutOfBoundsException,IllegalArgumentException,IllegalStateException",
        "int insert(int,int) throws IndexOutOfBoundsException,IllegalArgumentException,IllegalStateException",
        "int undo() throws IllegalStateException"};

    public static void main(String[] args) throws IOException {
        face();
        source();
        sizes();
        KIT.end("FaceTest");
    }

    private static String names(Class<?>[] types) {
        StringBuilder line = new StringBuilder();
        for (Class<?> type : types) {
            line.append(line.length() == 0 ? "" : ",").append(type.getSimpleName());
        }
        return line.toString();
    }

    private static void face() {
        Set<String> methods = new TreeSet<>();
        Set<String> publicNames = new TreeSet<>();
        for (Method m : StreetMarket.class.getDeclaredMethods()) {
            if (!Modifier.isPrivate(m.getModifiers())) {
                String thrown = names(m.getExceptionTypes());
                methods.add(m.getReturnType().getSimpleName() + " " + m.getName() + "(" + names(m.getParameterTypes()) + ")"
                    + (thrown.isEmpty() ? "" : " throws " + thrown));
                publicNames.add(m.getName());
                KIT.is(m.getName() + " is public", m.getModifiers(), Modifier.PUBLIC);
            }
        }
        KIT.is("the methods", methods, new TreeSet<>(Arrays.asList(METHODS)));
        Set<String> fields = new TreeSet<>();
        for (Field f : StreetMarket.class.getDeclaredFields()) {
            if (!Modifier.isPrivate(f.getModifiers())) {
                fields.add(Modifier.toString(f.getModifiers()) + " " + f.getType() + " " + f.getName());
            }
        }
        KIT.is("the constants", fields.toString(),
            "[public static final int SYNTAX_ERROR, public static final int TOO_MANY, public static final int VALUE_ERROR]");
        KIT.is("their values", StreetMarket.SYNTAX_ERROR + " " + StreetMarket.VALUE_ERROR + " " + StreetMarket.TOO_MANY, "-2 -3 -4");
        KIT.is("the class", StreetMarket.class.getModifiers(), Modifier.PUBLIC | Modifier.FINAL);
        Constructor<?>[] constructors = StreetMarket.class.getDeclaredConstructors();
        KIT.is("constructors", constructors.length + " " + constructors[0].toString(), "1 public StreetMarket()");
        privateNames(StreetMarket.class, publicNames);
        for (Class<?> inside : StreetMarket.class.getDeclaredClasses()) {
            KIT.is(inside + " is static and not public", inside.getModifiers() & (Modifier.STATIC | Modifier.PUBLIC | Modifier.PROTECTED), Modifier.STATIC);
            privateNames(inside, publicNames);
        }
    }

    private static void privateNames(Class<?> type, Set<String> publicNames) {
        for (Method m : type.getDeclaredMethods()) {
            boolean ofTheFace = type == StreetMarket.class && Modifier.isPublic(m.getModifiers());
            KIT.is(type + "." + m.getName() + " has a name of its own", ofTheFace || !publicNames.contains(m.getName()), true);
            KIT.is(type + "." + m.getName() + " takes at most seven parameters", m.getParameterCount() <= 7, true);
        }
    }

    private static void source() throws IOException {
        String text = Files.readString(Path.of("src/main/java/StreetMarket.java"));
        String code = text.replaceAll("//[^\n]*", "");
        for (String word : new String[] {"->", "::", "\\bcatch\\b", "\\btry\\b", "\\bfinally\\b", "\\bimport\\b", "\\bassert\\b",
            "\\bsynchronized\\b", "\\bpackage\\b", "\\bclone\\b", "Exact\\b", "\\bprotected\\b", "\\bnull\\b", "\\bObject\\b"}) {
            KIT.is("the source holds " + word, Pattern.compile(word).matcher(code).find(), false);
        }
        Matcher calls = Pattern.compile("\\b(Math|System|Arrays|Integer|Long)\\.(\\w+)").matcher(code);
        while (calls.find()) {
            KIT.is("library call " + calls.group(), calls.group().matches("Math\\.(min|max)|System\\.arraycopy"), true);
        }
    }

    /** Rules 5 and 11: constants, the numbers of classes and fields, the lengths of methods and the depth of calls. */
    private static void sizes() throws IOException {
        Class<?>[] inside = StreetMarket.class.getDeclaredClasses();
        KIT.is("at most twelve classes", inside.length + 1 <= 12, true);
        fields(StreetMarket.class);
        for (Class<?> type : inside) {
            fields(type);
        }
        Map<String, String> bodies = bodies(Files.readString(Path.of("src/main/java/StreetMarket.java")));
        KIT.is("methods are found", bodies.keySet().containsAll(Arrays.asList("append", "insert", "undo", "tryStart", "shareRow")), true);
        for (Map.Entry<String, String> method : bodies.entrySet()) {
            KIT.is(method.getKey() + " has at most sixty lines", method.getValue().lines().count() <= 60, true);
            KIT.is("calls of " + method.getKey() + " go at most eight deep", depth(method.getKey(), bodies, new TreeSet<>()) <= 8, true);
        }
    }

    private static void fields(Class<?> type) {
        int own = 0;
        for (Field f : type.getDeclaredFields()) {
            boolean fixed = Modifier.isStatic(f.getModifiers());
            own += fixed ? 0 : 1;
            KIT.is(f + " is no static state", !fixed || Modifier.isFinal(f.getModifiers()) && f.getType() == int.class, true);
        }
        KIT.is(type + " has at most twenty fields", own <= 20, true);
    }

    /** The methods of all classes by name; methods of one name are taken together. */
    private static Map<String, String> bodies(String text) {
        Map<String, String> bodies = new TreeMap<>();
        Matcher heads = Pattern.compile("^( {4}| {8})(?:public |private |static )*[\\w\\[\\]]+ (\\w+)\\([^)]*\\)[^;{]*\\{\n(.*?)^\\1\\}",
            Pattern.MULTILINE | Pattern.DOTALL).matcher(text.replaceAll("//[^\n]*", ""));
        while (heads.find()) {
            bodies.merge(heads.group(2), heads.group(3), String::concat);
        }
        return bodies;
    }

    /** How many calls stand open at once below a method and with it, library calls too; a call back counts as none. */
    private static int depth(String name, Map<String, String> bodies, Set<String> open) {
        if (!bodies.containsKey(name)) {
            return 1;
        }
        int deepest = 0;
        open.add(name);
        Matcher calls = Pattern.compile("\\b(\\w+)\\(").matcher(bodies.get(name));
        while (calls.find()) {
            if (!open.contains(calls.group(1))) {
                deepest = Math.max(deepest, depth(calls.group(1), bodies, open));
            }
        }
        open.remove(name);
        return deepest + 1;
    }
}
