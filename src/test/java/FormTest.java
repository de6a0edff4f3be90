import java.io.IOException;
import java.lang.management.ManagementFactory;
import java.lang.reflect.Constructor;
import java.lang.reflect.Field;
import java.lang.reflect.InvocationTargetException;
import java.lang.reflect.Method;
import java.lang.reflect.Modifier;
import java.nio.file.Files;
import java.nio.file.Path;
import java.util.ArrayList;
import java.util.List;
import java.util.Random;
import java.util.Set;
import java.util.TreeSet;
import java.util.regex.Matcher;
import java.util.regex.Pattern;

/** The public face, the rules of LANGUAGE.md that a test can see, and that calls neither throw nor allocate. */
public final class FormTest {
    private static final Checks CHECKS = new Checks();

    public static void main(String[] args) throws Exception {
        Path root = Path.of(args.length > 0 ? args[0] : ".");
        String source = Files.readString(root.resolve("src/main/java/CountyJigsaw.java"));
        face(document(root));
        members();
        words(withoutComments(source));
        methodLengths(source);
        extremes();
        allocation();
        CHECKS.end();
    }

    private static String document(Path root) throws IOException {
        return Files.readString(root.resolve("../shared/DOC.md"));
    }

    /** The methods of the face in the document, told as told() tells those of the class. */
    private static Set<String> promised(String document) {
        Set<String> promised = new TreeSet<>();
        Matcher matcher = Pattern.compile("(?m)^    public (int|long) (\\w+)\\((.*)\\);$").matcher(document);
        while (matcher.find()) {
            String types = matcher.group(3).replaceAll("int \\w+", "int").replace(", ", ",");
            promised.add(matcher.group(1) + " " + matcher.group(2) + "(" + types + ")");
        }
        return promised;
    }

    private static void face(String document) {
        Class<?> type = CountyJigsaw.class;
        CHECKS.holds("the class is public and final",
            Modifier.isPublic(type.getModifiers()) && Modifier.isFinal(type.getModifiers()));
        Set<String> open = new TreeSet<>();
        Set<String> names = new TreeSet<>();
        for (Method method : type.getDeclaredMethods()) {
            if (!Modifier.isPrivate(method.getModifiers())) {
                open.add(told(method));
                names.add(method.getName());
                CHECKS.holds(method.getName() + " is public, and of an object", method.getModifiers() == Modifier.PUBLIC);
            }
        }
        CHECKS.due("methods of the document's face", promised(document).size(), 42);
        CHECKS.holds("the methods are those of the face: " + open, open.equals(promised(document)));
        for (Constructor<?> constructor : type.getDeclaredConstructors()) {
            CHECKS.holds("the constructor is public and takes nothing",
                Modifier.isPublic(constructor.getModifiers()) && constructor.getParameterCount() == 0);
        }
        for (Field field : type.getDeclaredFields()) {
            CHECKS.holds("field " + field.getName() + " is private", Modifier.isPrivate(field.getModifiers()));
        }
        for (Class<?> one : classes()) {
            for (Method method : one.getDeclaredMethods()) {
                boolean isOwn = one == type && !Modifier.isPrivate(method.getModifiers());
                CHECKS.holds("the name " + method.getName() + " is the face's alone", isOwn || !names.contains(method.getName()));
            }
        }
    }

    private static String told(Method method) {
        List<String> types = new ArrayList<>();
        for (Class<?> type : method.getParameterTypes()) {
            types.add(type.getName());
        }
        return method.getReturnType().getName() + " " + method.getName() + "(" + String.join(",", types) + ")";
    }

    private static List<Class<?>> classes() {
        List<Class<?>> classes = new ArrayList<>(List.of(CountyJigsaw.class.getDeclaredClasses()));
        classes.add(CountyJigsaw.class);
        return classes;
    }

    private static void members() {
        CHECKS.holds("at most twelve classes", classes().size() <= 12);
        for (Class<?> type : classes()) {
            int fields = 0;
            for (Field field : type.getDeclaredFields()) {
                if (Modifier.isStatic(field.getModifiers())) {
                    CHECKS.holds(field.getName() + " is a final number", Modifier.isFinal(field.getModifiers())
                        && (field.getType() == int.class || field.getType() == long.class));
                } else {
                    fields++;
                }
            }
            CHECKS.holds(type.getName() + " has at most twenty fields", fields <= 20);
            for (Method method : type.getDeclaredMethods()) {
                CHECKS.holds(method.getName() + " takes at most seven parameters", method.getParameterCount() <= 7);
            }
            CHECKS.holds(type.getName() + " is static", type == CountyJigsaw.class || Modifier.isStatic(type.getModifiers()));
        }
    }

    private static String withoutComments(String source) {
        return source.replaceAll("(?s)/\\*.*?\\*/", "").replaceAll("//[^\n]*", "");
    }

    private static void words(String code) {
        String[] ruledOut = {"\\bthrow\\b", "\\bthrows\\b", "\\btry\\b", "\\bcatch\\b", "\\bsynchronized\\b", "\\bassert\\b",
            "->", "::", "\\bimport\\b", "\\bpackage\\b", "\\bThread\\b", "Exact\\b", "\\bvar\\b", "\\bnative\\b",
            "\\bstatic\\s*\\{", "\\bfloat\\b", "\\bdouble\\b", "\\bequals\\b", "\\bhashCode\\b", "\\btoString\\b",
            "\\bprotected\\b", "\"\\s*\\+", "\\+\\s*\"", "System\\.(?!arraycopy)", "Math\\.(?!abs|min|max)",
            "Integer\\.(?!bitCount)", "[^\\x00-\\x7f]"};
        for (String word : ruledOut) {
            CHECKS.holds("the source has no " + word, !Pattern.compile(word).matcher(code).find());
        }
    }

    private static void methodLengths(String source) {
        Matcher matcher = Pattern.compile("(?m)^( {4}| {8})(?:[a-z]+ )*[A-Za-z\\[\\]]+ ?(\\w+)?\\([^;]*?\\) \\{$").matcher(source);
        int methods = 0;
        while (matcher.find()) {
            int end = source.indexOf("\n" + matcher.group(1) + "}\n", matcher.end());
            CHECKS.holds("an end of " + matcher.group(), end > 0);
            long lines = source.substring(matcher.start(), Math.max(end, matcher.start())).lines().count();
            CHECKS.holds(matcher.group() + " is short", lines <= 60);
            methods++;
        }
        CHECKS.holds("methods were found: " + methods, methods > 80);
    }

    private static void extremes() throws IllegalAccessException {
        int[] odd = {Integer.MIN_VALUE, Integer.MIN_VALUE + 1, -1000001, -2, -1, 0, 1, 2, 5, 7, 8, 9, 10, 32, 40, 41, 64, 100,
            200, 256, 999, 1000, 65536, Integer.MAX_VALUE - 1, Integer.MAX_VALUE};
        Method[] methods = CountyJigsaw.class.getDeclaredMethods();
        Random random = new Random(7);
        for (int run = 0; run < 200; run++) {
            CountyJigsaw x = new CountyJigsaw();
            for (int i = 0; i < 512; i++) {
                Method method = methods[random.nextInt(methods.length)];
                if (Modifier.isPublic(method.getModifiers())) {
                    Object[] values = new Object[method.getParameterCount()];
                    for (int k = 0; k < values.length; k++) {
                        values[k] = odd[random.nextInt(odd.length)];
                    }
                    invoke(method, x, values);
                }
            }
        }
    }

    private static void invoke(Method method, CountyJigsaw x, Object[] values) throws IllegalAccessException {
        try {
            method.invoke(x, values);
        } catch (InvocationTargetException thrown) {
            CHECKS.holds(method.getName() + List.of(values) + " threw " + thrown.getCause(), false);
        }
    }

    /** All calls of a run share one room, so calls make nothing, and an object little. */
    private static void allocation() {
        com.sun.management.ThreadMXBean meter = (com.sun.management.ThreadMXBean) ManagementFactory.getThreadMXBean();
        long self = Thread.currentThread().getId();
        long before = meter.getThreadAllocatedBytes(self);
        long idle = meter.getThreadAllocatedBytes(self) - before;
        before = meter.getThreadAllocatedBytes(self);
        CountyJigsaw x = new CountyJigsaw();
        long made = meter.getThreadAllocatedBytes(self) - before - idle;
        CHECKS.holds("an object takes " + made + " bytes, at most 20000", made <= 20000);
        dearCalls(x);
        before = meter.getThreadAllocatedBytes(self);
        long answers = dearCalls(x);
        long used = meter.getThreadAllocatedBytes(self) - before - idle;
        CHECKS.holds("calls allocate " + used + " bytes, answers " + answers, used == 0);
    }

    private static long dearCalls(CountyJigsaw x) {
        long answers = 0;
        for (int p = 0; p < 8; p++) {
            answers += x.piece(p % 7, p, 9 - p) + x.change(p, 3, 7 - p);
        }
        answers += x.sheet(0, 8, 12) + x.write(0, 3, -1) + x.copy(0, 0, 0, 1, 5) + x.fits(0, 3) + x.kinds(0, 3);
        answers += x.best() + x.bestAt(3) + x.edgeFor(1) + x.kindFor(2) + x.turn(0) + x.settle() + x.now(6) + x.now(7);
        answers += x.when(0) + x.comes(0, 7) + x.granted(1) + x.ahead(1, 1, 100) + x.sum(100) + x.go(60) + x.tip(20);
        answers += x.odds(10, 0) + x.image() + x.undo() + x.load(0) + x.judge(0) + x.hold(0, 0) + x.as(0, 0);
        for (int i = 0; i < 2; i++) {
            answers += x.feed(0x73776170, 4) + x.feed(0x30203120, 4) + x.feed(0x313b, 2) + x.feed(0x6c617930, 4) + x.feed(0x2031, 2);
            answers += x.text();
        }
        return answers + x.count(4) + x.status(-1) + x.tear();
    }
}
