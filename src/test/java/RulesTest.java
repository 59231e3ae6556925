import java.lang.reflect.Constructor;
import java.lang.reflect.Field;
import java.lang.reflect.Member;
import java.lang.reflect.Method;
import java.lang.reflect.Modifier;
import java.nio.file.Files;
import java.nio.file.Path;
import java.util.ArrayList;
import java.util.HashSet;
import java.util.List;
import java.util.Set;
import java.util.TreeSet;
import java.util.regex.Matcher;
import java.util.regex.Pattern;

/** The face of the document, the rules of LANGUAGE.md that can be seen by a machine, and calls with any arguments. */
public final class RulesTest {
    private static int wrong = 0;

    private static final String[] FACE = {
        "int feed(int,long)", "int thing()", "int thingOf(int,int)", "int room(int)", "int window(int,int)",
        "int candidate(int,int)", "int left(int,int,int)", "int look(int,int,int,int)", "int doubt(int,boolean)",
        "int join(int,int,int,int)", "int alone(int)", "int can(int,int)", "long ways()", "int may(int)",
        "int run(int,int,int)", "long chance(int,int,int)", "int put(int)", "int judge()", "int doubts()", "int opened()",
        "int hangs()", "int ahead(int,int)", "int narrow(int,int)", "int next(int)", "int image()", "int on()",
        "int count(int)"};

    private static void must(String what, boolean holds) {
        if (!holds) {
            wrong++;
            System.out.println(what);
        }
    }

    private static void face() {
        Class<?> c = BurnedDown.class;
        must("the class is public and final", Modifier.isPublic(c.getModifiers()) && Modifier.isFinal(c.getModifiers()));
        Set<String> due = new TreeSet<>(List.of(FACE));
        Set<String> got = new TreeSet<>();
        Set<String> names = new HashSet<>();
        List<Member> all = new ArrayList<>(List.of(c.getDeclaredFields()));
        for (Method m : c.getDeclaredMethods()) {
            if (!Modifier.isPublic(m.getModifiers())) {
                all.add(m);
                continue;
            }
            StringBuilder s = new StringBuilder(m.getReturnType() + " " + m.getName() + "(");
            for (Class<?> p : m.getParameterTypes()) s.append(s.toString().endsWith("(") ? "" : ",").append(p);
            got.add(s.append(")").toString());
            names.add(m.getName());
        }
        must("the public methods are those of the document: " + got, got.equals(due));
        for (Member m : all) {
            must(m + " is private", Modifier.isPrivate(m.getModifiers()));
            if (m instanceof Method) must(m + " bears no public name", !names.contains(m.getName()));
        }
        Constructor<?>[] made = c.getDeclaredConstructors();
        must("one public constructor", made.length == 1 && made[0].getParameterCount() == 0
                && Modifier.isPublic(made[0].getModifiers()));
        inside(c, names);
    }

    private static void inside(Class<?> c, Set<String> names) {
        must("some twelve classes", c.getDeclaredClasses().length < 12);
        List<Class<?>> classes = new ArrayList<>(List.of(c.getDeclaredClasses()));
        classes.add(c);
        for (Class<?> one : classes) {
            if (one != c) must(one + " is static", Modifier.isStatic(one.getModifiers()));
            int fields = 0;
            for (Field f : one.getDeclaredFields()) {
                if (Modifier.isStatic(f.getModifiers())) must(f + " is final", Modifier.isFinal(f.getModifiers()));
                else fields++;
            }
            must(one + " has some twenty fields", fields <= 20);
            for (Method m : one.getDeclaredMethods()) {
                must(m + " takes at most seven", m.getParameterCount() <= 7);
                if (one != c) must(m + " bears no public name", !names.contains(m.getName()));
            }
        }
    }

    private static void source(String path) throws Exception {
        String text = Files.readString(Path.of(path));
        must("signs are 1 to 127", text.chars().allMatch(i -> i > 0 && i < 128));
        String code = text.replaceAll("(?s)/\\*.*?\\*/", " ").replaceAll("//[^\n]*", " ");
        for (String word : new String[] {"throw", "throws", "try", "catch", "synchronized", "assert", "import", "package",
            "System", "Exception", "Object", "String", "->", "::", "@", "Exact", "float", "double", "null"}) {
            String found = word.matches("\\w+") ? "\\b" + word + "\\b" : Pattern.quote(word);
            must("no " + word, !Pattern.compile(found).matcher(code).find());
        }
        Matcher made = Pattern.compile("\\bnew\\b").matcher(code);
        while (made.find()) {
            String line = code.substring(code.lastIndexOf('\n', made.start()) + 1, code.indexOf('\n', made.start())).trim();
            must("objects are made with the object alone: " + line,
                    line.startsWith("private final ") || line.matches("\\w+ = new \\w+(\\(\\)|\\[\\w+\\]);"));
        }
    }

    private static final int[] ODD = {Integer.MIN_VALUE, -300, -21, -9, -2, -1, 0, 1, 2, 3, 5, 6, 7, 8, 9, 10, 20, 31, 32, 33,
        150, 298, 299, 300, 301, 9999, 10000, 1 << 30, Integer.MAX_VALUE};
    private static long drawn = 7;

    private static int odd() {
        drawn = drawn * 6364136223846793005L + 1442695040888963407L;
        return ODD[(int) ((drawn >>> 33) % ODD.length)];
    }

    /** Any method with any arguments, in objects with much and with nothing in them. */
    private static void anyCalls() throws Exception {
        Method[] methods = BurnedDown.class.getDeclaredMethods();
        List<Method> open = new ArrayList<>();
        for (String face : new TreeSet<>(List.of(FACE))) {
            for (Method m : methods) {
                if (face.contains(" " + m.getName() + "(")) open.add(m);
            }
        }
        String[] texts = {"e1000,1", "t900,20", "d9999,1", "w500,99", "s300,1", "k5,5"};
        for (int i = 0; i < 60; i++) {
            BurnedDown x = new BurnedDown();
            for (int t = 0; t < i % 7; t++) {
                for (char c : texts[t].toCharArray()) x.feed(1, c);
                must("a thing is made", x.thing() == t);
            }
            for (int call = 0; call < 512; call++) {
                Method m = open.get(Math.floorMod(odd() * 31 + call + i, open.size()));
                Object[] arguments = new Object[m.getParameterCount()];
                for (int j = 0; j < arguments.length; j++) {
                    Class<?> p = m.getParameterTypes()[j];
                    arguments[j] = p == int.class ? (Object) odd() : p == long.class ? (Object) ((long) odd() * odd()) : odd() > 0;
                }
                m.invoke(x, arguments);
            }
        }
    }

    public static void main(String[] args) throws Exception {
        face();
        source(args[0]);
        anyCalls();
        System.out.println("RulesTest: " + (wrong == 0 ? "all rules are kept" : wrong + " are not"));
        if (wrong != 0) System.exit(1);
    }
}
