import java.lang.reflect.InvocationTargetException;
import java.lang.reflect.Method;
import java.lang.reflect.Modifier;
import java.util.ArrayList;
import java.util.Arrays;
import java.util.Comparator;
import java.util.List;
import java.util.Set;
import java.util.TreeSet;

/**
 * Tests of single sentences of the document, a method each, named by the number of the promise (p04..) and what it says.
 * A call is made on one of two objects that were made alike; then both are asked all that can be asked of them.
 */
final class Bounds {
    static final int BEYOND = -1000001;
    static final int FULL = -1000002;
    static final int KIND = -1000003;
    static final int NONE = -1000004;
    static final int STATE = -1000005;
    static final int MISSING = -1000006;
    static final int SIZE = -1000007;
    static final int MIN = Integer.MIN_VALUE;
    static final int MAX = Integer.MAX_VALUE;

    private static final Checks CHECKS = new Checks();
    private static String sentence = "";
    private static int asked;

    interface Made {
        CountyJigsaw make();
    }

    interface Call {
        long on(CountyJigsaw x);
    }

    interface CallWith {
        long on(CountyJigsaw x, int v);
    }

    private Bounds() {
    }

    /** Runs every test of a class; each of the promises first to last must have one. */
    static void runAll(Class<?> tests, int first, int last) throws IllegalAccessException, InvocationTargetException {
        Method[] methods = tests.getDeclaredMethods();
        Arrays.sort(methods, Comparator.comparing(Method::getName));
        Set<Integer> tested = new TreeSet<>();
        for (Method method : methods) {
            if (method.getName().matches("p\\d\\d\\w+") && Modifier.isStatic(method.getModifiers())) {
                sentence = method.getName();
                asked = 0;
                method.setAccessible(true);
                method.invoke(null);
                CHECKS.holds(sentence + " asks something", asked > 0);
                tested.add(Integer.valueOf(sentence.substring(1, 3)));
            }
        }
        for (int promise = first; promise <= last; promise++) {
            CHECKS.holds("promise " + promise + " has a test in " + tests.getName(), tested.contains(promise));
        }
        CHECKS.end();
    }

    static void due(long got, long want) {
        asked++;
        CHECKS.due(sentence + ", row " + asked, got, want);
    }

    /** The call answers so, counts no finding and changes nothing. */
    static void asks(Made made, Call call, long answer) {
        CountyJigsaw x = made.make();
        CountyJigsaw like = made.make();
        due(call.on(x), answer);
        sameStatus(x, like, 0);
        same(x, like);
    }

    /** The call answers so and counts no finding; what it was made on is there for more questions. */
    static CountyJigsaw acts(Made made, Call call, long answer) {
        CountyJigsaw x = made.make();
        due(call.on(x), answer);
        sameStatus(x, made.make(), 0);
        return x;
    }

    /** The call answers the finding, which is counted, and changes nothing else. */
    static void refuses(Made made, Call call, int finding) {
        CountyJigsaw x = made.make();
        CountyJigsaw like = made.make();
        due(call.on(x), finding);
        sameStatus(x, like, finding);
        same(x, like);
    }

    /** What lies next to the range on either side, and farthest from it, is BEYOND. */
    static void refusesOutside(Made made, int least, int most, CallWith call) {
        for (int v : new int[] {least - 1, most + 1, MIN, MAX}) {
            refuses(made, x -> call.on(x, v), BEYOND);
        }
    }

    /** All findings are counted as on an object made alike, but for one finding (0: none) that is counted once more. */
    private static void sameStatus(CountyJigsaw x, CountyJigsaw like, int finding) {
        for (int which = 0; which <= 6; which++) {
            due(x.status(which), like.status(which) + (finding == BEYOND - which ? 1 : 0));
        }
        due(x.status(-1), like.status(-1) + (finding == 0 ? 0 : 1));
    }

    /** Uses both up: they answer alike to all that shows what they hold. */
    static void same(CountyJigsaw x, CountyJigsaw like) {
        List<Long> got = shown(x);
        List<Long> want = shown(like);
        int i = 0;
        while (i < got.size() && i < want.size() && got.get(i).equals(want.get(i))) {
            i++;
        }
        asked++;
        String rest = ": from question " + i + " on it holds " + got.subList(i, got.size()) + ", due is "
            + want.subList(i, want.size());
        CHECKS.holds(sentence + ", row " + asked + rest, got.equals(want));
    }

    private static List<Long> shown(CountyJigsaw x) {
        List<Long> shown = new ArrayList<>();
        showCounty(x, shown);
        shown.add((long) x.text());
        showRow(x, shown);
        for (int s = 0; s < 4; s++) {
            shown.add((long) x.judge(s));
        }
        shown.add((long) x.undo());
        shown.add((long) x.tear());
        showCounty(x, shown);
        showSheets(x, shown);
        return shown;
    }

    private static void showCounty(CountyJigsaw x, List<Long> shown) {
        for (int what = 0; what <= 7; what++) {
            shown.add((long) x.count(what));
        }
        for (int p = 0; p < x.count(1); p++) {
            for (int what = 0; what <= 4; what++) {
                shown.add((long) x.of(p, what));
            }
        }
        showRow(x, shown);
        for (int spot = 0; spot <= 9; spot++) {
            shown.add((long) x.as(spot, 0));
        }
    }

    private static void showRow(CountyJigsaw x, List<Long> shown) {
        for (int place = 0; place < x.count(1); place++) {
            shown.add((long) x.lies(place));
        }
        for (int i = 0; i <= 5; i++) {
            shown.add((long) x.listed(i));
        }
    }

    /** The first eight numbers show as LEFT edges, how many there are by writing, the bits by copying. */
    private static void showSheets(CountyJigsaw x, List<Long> shown) {
        while (x.count(1) < 8) {
            x.piece(0, 0, 0);
        }
        for (int s = 0; s < 4; s++) {
            shown.add((long) x.load(s));
            for (int p = 0; p < 8; p++) {
                shown.add((long) x.of(p, 1));
            }
            for (int t = 0; t < s; t++) {
                shown.add((long) x.copy(s, 0, t, 0, 0));
            }
        }
        for (int s = 0; s < 4; s++) {
            int i = 0;
            while (i < 10 && x.write(s, i, 256 + 3) == 1) {
                i++;
            }
            shown.add((long) i);
            shown.add((long) x.load(s));
        }
    }

    // ---- objects to begin with

    /** Pieces told as kind, left and right. */
    static CountyJigsaw county(int... told) {
        CountyJigsaw x = new CountyJigsaw();
        for (int i = 0; i + 2 < told.length; i += 3) {
            x.piece(told[i], told[i + 1], told[i + 2]);
        }
        return x;
    }

    static CountyJigsaw empty() {
        return new CountyJigsaw();
    }

    static CountyJigsaw one() {
        return county(0, 3, 4);
    }

    static CountyJigsaw three() {
        CountyJigsaw x = county(1, 3, 4, 2, 5, 5, 0, 1, 8);
        x.change(0, 3, 2);
        x.swap(0, 1);
        x.hold(4, 2);
        tell(x, 1, 16, 4, 0, 9);
        return x;
    }

    /** As many as there can be, of all kinds, and something everywhere else but in sheet 3. */
    static CountyJigsaw full() {
        CountyJigsaw x = county(0, 1, 2, 1, 3, 4, 2, 5, 6, 3, 7, 8, 4, 9, 0, 5, 2, 2, 6, 4, 7);
        x.change(1, 3, 3);
        x.change(6, 3, 7);
        x.change(2, 4, 1);
        x.list(0, 2, 5);
        x.list(5, 7, 0);
        x.hold(0, 1);
        x.hold(9, 6);
        x.go(2);
        x.image();
        x.piece(0, 8, 8);
        x.swap(1, 6);
        x.change(7, 4, 1);
        x.list(3, 6, 4);
        x.hold(5, 7);
        x.seed(-123456789);
        x.go(2);
        tell(x, 0, 8, 1, 9, 0, 7, 3);
        tell(x, 1, 16, 6, 5);
        tell(x, 2, 32);
        type(x, "swap 1 2 3;lay 7 0");
        return x;
    }

    /** With more calls than the document promises answers for: YEAR comes to its end by no fewer. */
    static CountyJigsaw in(int year) {
        CountyJigsaw x = county(0, 1, 2, 4, 3, 4);
        x.list(3, 0, 1);
        while (year - x.count(0) >= 60) {
            x.go(60);
        }
        if (year > x.count(0)) {
            x.go(year - x.count(0));
        }
        return x;
    }

    static final Made[] SIZES = {Bounds::empty, Bounds::one, Bounds::three, Bounds::full};
    static final int[] PIECES = {0, 1, 3, 8};

    /** BEYOND for what is no PIECE (or place of THE ROW): below 0, and from how many there are on. */
    static void refusesNoPiece(CallWith call) {
        refusesNoPiece(x -> 0, call);
    }

    /** The same with a call made first. */
    static void refusesNoPiece(Call first, CallWith call) {
        for (int i = 0; i < SIZES.length; i++) {
            refusesOutside(behind(SIZES[i], first), 0, PIECES[i] - 1, call);
        }
        // undo() took away a PIECE that had the number
        refuses(behind(Bounds::fewerThanKept, first), x -> call.on(x, 1), BEYOND);
    }

    private static Made behind(Made made, Call first) {
        return () -> {
            CountyJigsaw x = made.make();
            first.on(x);
            return x;
        };
    }

    private static CountyJigsaw fewerThanKept() {
        CountyJigsaw x = one();
        x.image();
        x.piece(2, 5, 5);
        x.undo();
        return x;
    }

    static void tell(CountyJigsaw x, int s, int bits, int... numbers) {
        x.sheet(s, bits, numbers.length);
        for (int i = 0; i < numbers.length; i++) {
            x.write(s, i, numbers[i]);
        }
    }

    static void type(CountyJigsaw x, String text) {
        for (int i = 0; i < text.length(); i++) {
            x.feed(text.charAt(i), 1);
        }
    }

    static int read(CountyJigsaw x, String text) {
        type(x, text);
        return x.text();
    }

    static void row(CountyJigsaw x, int... lying) {
        for (int place = 0; place < lying.length; place++) {
            due(x.lies(place), lying[place]);
        }
    }
}
