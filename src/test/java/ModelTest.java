import java.math.BigInteger;
import java.util.ArrayList;
import java.util.Arrays;
import java.util.Collections;
import java.util.HashMap;
import java.util.List;
import java.util.Map;
import java.util.Random;
import java.util.regex.Matcher;
import java.util.regex.Pattern;

/**
 * Long runs of calls, drawn from fixed seeds, on the class and on a slow model that follows the document word by word.
 * The model says each thing in another way than the class: kinds as classes, layings by all orders, tokens as a list.
 */
public final class ModelTest {
    private static final int RUNS = 300;
    private static final int CALLS = 512;
    private static final List<String> METHODS = List.of("list", "listed", "piece", "of", "change", "lies", "gap", "edge",
        "swap", "go", "now", "ahead", "sum", "when", "comes", "granted", "best", "bestAt", "settle", "edgeFor", "kindFor",
        "turn", "fits", "kinds", "tip", "odds", "seed", "feed", "wipe", "text", "hold", "as", "sheet", "write", "copy",
        "load", "judge", "image", "undo", "tear", "count", "status");

    public static void main(String[] args) {
        Checks checks = new Checks();
        for (int run = 0; run < RUNS && !checks.isWrong(); run++) {
            new Run(run, checks).go();
        }
        checks.end();
    }

    /** One object, one model, and the same calls on both. */
    private static final class Run {
        private final int number;
        private final Checks checks;
        private final Random random;
        private final CountyJigsaw real = new CountyJigsaw();
        private final Model model = new Model();
        private final List<String> calls = new ArrayList<>();
        private int calling = CALLS;

        Run(int number, Checks checks) {
            this.number = number;
            this.checks = checks;
            this.random = new Random(number);
        }

        void go() {
            int pieces = random.nextInt(9);
            for (int i = 0; i < pieces; i++) {
                call("piece", upTo(7), upTo(10), upTo(10), 0, 0);
            }
            while (calling > 0 && !checks.isWrong()) {
                String method = METHODS.get(random.nextInt(METHODS.size()));
                if (method.equals("wipe") && random.nextInt(3) > 0) {
                    feedText(randomText());
                } else if (!method.equals("piece") || random.nextInt(4) == 0) {
                    ordinaryCall(method);
                }
            }
            if (checks.isWrong()) {
                calls.subList(Math.max(0, calls.size() - 30), calls.size()).forEach(System.out::println);
            }
        }

        private int upTo(int bound) {
            return random.nextInt(bound);
        }

        /** Mostly within the bound, seldom just outside it or far away. */
        private int near(int bound) {
            int how = random.nextInt(40);
            if (how == 0) {
                return -1;
            }
            if (how == 1) {
                return bound;
            }
            if (how == 2) {
                return random.nextInt();
            }
            return random.nextInt(bound);
        }

        private void ordinaryCall(String m) {
            int p = near(Math.max(1, model.now.pieces.size()));
            int q = near(Math.max(1, model.now.pieces.size()));
            switch (m) {
                case "list" -> call(m, near(6), near(8), near(8), 0, 0);
                case "listed" -> call(m, near(6), 0, 0, 0, 0);
                case "piece" -> call(m, near(7), near(10), near(10), 0, 0);
                case "of" -> call(m, p, near(7), 0, 0, 0);
                case "change" -> {
                    int what = near(5);
                    int[] bounds = {7, 10, 10, 8, 2};
                    int v = what >= 0 && what < 5 ? near(bounds[what]) : near(2);
                    call(m, p, what, v, 0, 0);
                }
                case "lies", "granted", "bestAt", "edgeFor", "kindFor" -> call(m, p, 0, 0, 0, 0);
                case "gap", "swap" -> call(m, p, q, 0, 0, 0);
                case "edge" -> call(m, p, near(2), 0, 0, 0);
                case "go" -> call(m, random.nextInt(3) == 0 ? near(61) : 1 + upTo(4), 0, 0, 0, 0);
                case "now" -> call(m, near(8), 0, 0, 0, 0);
                case "ahead" -> call(m, p, random.nextInt(5) == 0 ? near(7) : random.nextBoolean() ? 1 : 5, near(101), 0, 0);
                case "sum" -> call(m, near(101), 0, 0, 0, 0);
                case "when", "turn" -> call(m, random.nextInt(8) == 0 ? near(1000) : near(50), 0, 0, 0, 0);
                case "comes" -> call(m, p, near(8), 0, 0, 0);
                case "fits", "kinds" -> toldSums(m, p);
                case "tip" -> call(m, near(21), 0, 0, 0, 0);
                case "odds" -> call(m, near(11), near(2), 0, 0, 0);
                case "seed" -> call(m, random.nextInt(), 0, 0, 0, 0);
                case "feed" -> call(m, random.nextInt(), near(5), 0, 0, 0);
                case "hold" -> call(m, near(10), random.nextInt(5) == 0 ? -1 : p, 0, 0, 0);
                case "as" -> call(m, near(10), near(7), 0, 0, 0);
                case "sheet" -> call(m, near(4), new int[] {0, 8, 16, 32, 8, 16, 32, 7}[upTo(8)],
                    random.nextInt(8) == 0 ? -upTo(3) : near(random.nextBoolean() ? 10 : 41), 0, 0);
                case "write" -> call(m, near(4), near(10), random.nextInt(4) == 0 ? random.nextInt() : near(10), 0, 0);
                case "copy" -> call(m, near(4), near(6), near(4), near(6), near(6));
                case "load" -> call(m, near(4), 0, 0, 0, 0);
                case "judge" -> judge();
                case "image", "undo", "tear" -> call(m, 0, 0, 0, 0, 0);
                case "count" -> call(m, near(8), 0, 0, 0, 0);
                case "status" -> call(m, near(8) - 1, 0, 0, 0, 0);
                default -> call(m, 0, 0, 0, 0, 0);
            }
        }

        /** A sheet that tells sums as they will be, with some left open, so that some trial fits. */
        private void toldSums(String m, int p) {
            int s = near(4);
            if (s >= 0 && s < 4 && random.nextBoolean()) {
                int n = 1 + upTo(14);
                int[] bits = {8, 16, 32};
                call("sheet", s, bits[upTo(3)], n, 0, 0);
                for (int i = 0; i < n; i++) {
                    int told = random.nextInt(3) == 0 || i >= 12 ? model.sum(i) : -1;
                    call("write", s, i, random.nextInt(30) == 0 ? told + 1 : told, 0, 0);
                }
            }
            call(m, s, p, 0, 0, 0);
        }

        private void judge() {
            int s = near(4);
            if (s >= 0 && s < 4 && random.nextBoolean()) {
                int n = Math.max(0, model.now.pieces.size() + upTo(3) - 1);
                call("sheet", s, 8, n, 0, 0);
                for (int i = 0; i < n; i++) {
                    boolean lies = i < model.now.row.size() && random.nextInt(12) > 0;
                    call("write", s, i, lies ? model.now.row.get(i) : upTo(8), 0, 0);
                }
            }
            call("judge", s, 0, 0, 0, 0);
        }

        private void feedText(String text) {
            call("wipe", 0, 0, 0, 0, 0);
            int i = 0;
            while (i < text.length() && i < 120) {
                int n = Math.min(1 + upTo(4), text.length() - i);
                int bytes = random.nextInt();
                for (int k = 0; k < n; k++) {
                    bytes = bytes << 8 | text.charAt(i + k);
                }
                call("feed", bytes, n, 0, 0, 0);
                i += n;
            }
            call("text", 0, 0, 0, 0, 0);
        }

        private String randomText() {
            StringBuilder text = new StringBuilder();
            int items = 1 + upTo(4);
            for (int i = 0; i < items; i++) {
                text.append(i > 0 ? blank() + ";" + blank() : blank()).append(randomItem());
            }
            text.append(blank());
            if (random.nextInt(4) == 0) {
                spoil(text);
            }
            return text.toString();
        }

        private String blank() {
            return random.nextInt(4) == 0 ? " " : "";
        }

        private String randomItem() {
            int sort = upTo(7);
            if (sort < 3) {
                return "swap " + figure(6) + " " + figure(8) + " " + figure(8);
            }
            if (sort < 5) {
                int there = Math.max(1, model.now.pieces.size());
                return "lay " + figure(there) + " " + figure(there);
            }
            String item = Model.NAMES.get(upTo(7)) + blank() + figure(10) + " " + figure(10);
            if (random.nextBoolean()) {
                item += " wants " + figure(8);
            }
            return random.nextInt(3) == 0 ? item + " turned" : item;
        }

        private String figure(int bound) {
            int v = random.nextInt(15) == 0 ? bound + upTo(3) : upTo(bound);
            return (random.nextInt(10) == 0 ? "00" : "") + v;
        }

        private void spoil(StringBuilder text) {
            int at = upTo(text.length() + 1);
            String odd = "; 0919999azAZ?\t\u00ff\u0000";
            switch (upTo(3)) {
                case 0 -> text.setLength(at);
                case 1 -> text.insert(at, odd.charAt(upTo(odd.length())));
                default -> text.insert(at, new String[] {" wants ", " turned ", " 3 ", " lay "}[upTo(4)]);
            }
        }

        private void call(String m, int a, int b, int c, int d, int e) {
            if (calling == 0) {
                return;
            }
            calling--;
            String name = "run " + number + ": " + m + "(" + a + ", " + b + ", " + c + ", " + d + ", " + e + ")";
            long got = answer(real, m, a, b, c, d, e);
            long want = model.answer(m, a, b, c, d, e);
            calls.add(name + " " + got);
            checks.due(name, got, want);
        }
    }

    private static long answer(CountyJigsaw x, String m, int a, int b, int c, int d, int e) {
        return switch (m) {
            case "list" -> x.list(a, b, c);
            case "listed" -> x.listed(a);
            case "piece" -> x.piece(a, b, c);
            case "of" -> x.of(a, b);
            case "change" -> x.change(a, b, c);
            case "lies" -> x.lies(a);
            case "gap" -> x.gap(a, b);
            case "edge" -> x.edge(a, b);
            case "swap" -> x.swap(a, b);
            case "go" -> x.go(a);
            case "now" -> x.now(a);
            case "ahead" -> x.ahead(a, b, c);
            case "sum" -> x.sum(a);
            case "when" -> x.when(a);
            case "comes" -> x.comes(a, b);
            case "granted" -> x.granted(a);
            case "best" -> x.best();
            case "bestAt" -> x.bestAt(a);
            case "settle" -> x.settle();
            case "edgeFor" -> x.edgeFor(a);
            case "kindFor" -> x.kindFor(a);
            case "turn" -> x.turn(a);
            case "fits" -> x.fits(a, b);
            case "kinds" -> x.kinds(a, b);
            case "tip" -> x.tip(a);
            case "odds" -> x.odds(a, b);
            case "seed" -> x.seed(a);
            case "feed" -> x.feed(a, b);
            case "wipe" -> x.wipe();
            case "text" -> x.text();
            case "hold" -> x.hold(a, b);
            case "as" -> x.as(a, b);
            case "sheet" -> x.sheet(a, b, c);
            case "write" -> x.write(a, b, c);
            case "copy" -> x.copy(a, b, c, d, e);
            case "load" -> x.load(a);
            case "judge" -> x.judge(a);
            case "image" -> x.image();
            case "undo" -> x.undo();
            case "tear" -> x.tear();
            case "count" -> x.count(a);
            default -> x.status(a);
        };
    }

    // ---- kinds, each by its words

    private static class Plain {
        int gap(State s, Piece a, Piece b) {
            return Math.abs(a.shown(1) - b.shown(0));
        }

        int edge(Piece a, int side) {
            return a.shown(side);
        }

        int grows() {
            return 1;
        }
    }

    private static class Farm extends Plain {
        @Override int gap(State s, Piece a, Piece b) {
            return s.pieces.indexOf(b) == a.want ? 0 : super.gap(s, a, b);
        }

        @Override int grows() {
            return super.grows() - 1;
        }
    }

    private static final class Manor extends Farm {
        @Override int gap(State s, Piece a, Piece b) {
            return super.gap(s, a, b) + 2;
        }

        @Override int edge(Piece a, int side) {
            return 0;
        }
    }

    private static class Sky extends Plain {
        @Override int gap(State s, Piece a, Piece b) {
            return Model.KINDS.get(b.kind) instanceof Sky ? 0 : super.gap(s, a, b) + 1;
        }

        @Override int edge(Piece a, int side) {
            return super.edge(a, side) / 2;
        }

        @Override int grows() {
            return super.grows() + 2;
        }
    }

    private static class Cloud extends Sky {
        @Override int gap(State s, Piece a, Piece b) {
            return super.gap(s, a, b) / 2;
        }

        @Override int grows() {
            return super.grows() + 1;
        }
    }

    private static final class Hand extends Cloud {
        @Override int gap(State s, Piece a, Piece b) {
            return super.gap(s, a, b) + s.year % 3;
        }

        @Override int edge(Piece a, int side) {
            return super.edge(a, side) + 1;
        }

        @Override int grows() {
            return 2 * super.grows();
        }
    }

    private static final class Grass extends Plain {
        @Override int gap(State s, Piece a, Piece b) {
            return super.gap(s, a, b) > 0 ? 1 : 0;
        }

        @Override int edge(Piece a, int side) {
            return 9 - super.edge(a, side);
        }

        @Override int grows() {
            return 0;
        }
    }

    private static final class Piece {
        int kind;
        int[] edges = new int[2];
        int want = -1;
        boolean turned;

        Piece(int kind, int left, int right) {
            this.kind = kind;
            edges[0] = left;
            edges[1] = right;
        }

        int shown(int side) {
            return edges[turned ? 1 - side : side];
        }

        Piece twin() {
            Piece twin = new Piece(kind, edges[0], edges[1]);
            twin.want = want;
            twin.turned = turned;
            return twin;
        }
    }

    /** All that an image keeps. */
    private static final class State {
        final List<Piece> pieces = new ArrayList<>();
        final List<Integer> row = new ArrayList<>();
        final int[] list = new int[6];
        final Map<Integer, Integer> spots = new HashMap<>();
        int year;
        int z = 1;

        State twin() {
            State twin = new State();
            for (Piece piece : pieces) {
                twin.pieces.add(piece.twin());
            }
            twin.row.addAll(row);
            System.arraycopy(list, 0, twin.list, 0, 6);
            twin.spots.putAll(spots);
            twin.year = year;
            twin.z = z;
            return twin;
        }

        void add(Piece piece) {
            row.add(pieces.size());
            pieces.add(piece);
        }

        int gap(int a, int b) {
            return Model.KINDS.get(pieces.get(a).kind).gap(this, pieces.get(a), pieces.get(b));
        }

        int edge(int a, int side) {
            return Model.KINDS.get(pieces.get(a).kind).edge(pieces.get(a), side);
        }

        int grows(int a) {
            return Model.KINDS.get(pieces.get(a).kind).grows();
        }

        int sum() {
            return sum(row);
        }

        int sum(List<Integer> laid) {
            if (laid.isEmpty()) {
                return 0;
            }
            int sum = edge(laid.get(0), 0) + edge(laid.get(laid.size() - 1), 1);
            for (int i = 1; i < laid.size(); i++) {
                sum += gap(laid.get(i - 1), laid.get(i));
            }
            return sum;
        }

        boolean has(int piece) {
            return piece >= 0 && piece < pieces.size();
        }

        void exchange(int a, int b) {
            if (has(a) && has(b)) {
                Collections.swap(row, a, b);
            }
        }

        State later(int n) {
            State later = twin();
            for (int i = 0; i < n; i++) {
                later.goBy();
            }
            return later;
        }

        void goBy() {
            exchange(list[year % 6] / 10, list[year % 6] % 10);
            if (year % 3 == 2) {
                for (int p = 0; p < pieces.size(); p++) {
                    pieces.get(p).edges[0] = (pieces.get(p).edges[0] + grows(p)) % 10;
                }
            }
            year = Math.min(99999, year + 1);
        }

        boolean isGranted(int piece) {
            int place = row.indexOf(piece);
            return place + 1 < row.size() && row.get(place + 1) == pieces.get(piece).want;
        }

        int draw() {
            z = z * 1103515245 + 12345;
            return z >>> 8;
        }

        /** By all orders, in the order of their numbers, the first of the least SUM. */
        List<Integer> best() {
            int size = pieces.size();
            int[] weight = new int[(size + 2) * 10];
            for (int a = 0; a < size; a++) {
                for (int b = 0; b < size; b++) {
                    weight[10 * a + b] = a == b ? 0 : gap(a, b);
                }
                weight[10 * a + 8] = edge(a, 0);
                weight[10 * a + 9] = edge(a, 1);
            }
            int[] best = new int[size + 1];
            best[size] = Integer.MAX_VALUE;
            allOrders(weight, new int[size], 0, 0, 0, best);
            List<Integer> laid = new ArrayList<>();
            for (int i = 0; i < size; i++) {
                laid.add(best[i]);
            }
            return laid;
        }

        private void allOrders(int[] weight, int[] laid, int n, int used, int sum, int[] best) {
            if (n == laid.length) {
                int whole = sum + (n == 0 ? 0 : weight[10 * laid[n - 1] + 9]);
                if (whole < best[n]) {
                    System.arraycopy(laid, 0, best, 0, n);
                    best[n] = whole;
                }
                return;
            }
            for (int p = 0; p < laid.length; p++) {
                if ((used >> p & 1) == 0) {
                    laid[n] = p;
                    int step = n == 0 ? weight[10 * p + 8] : weight[10 * laid[n - 1] + p];
                    allOrders(weight, laid, n + 1, used | 1 << p, sum + step, best);
                }
            }
        }
    }

    /** Thrown with a finding's place in the list of findings. */
    private static final class Finding extends RuntimeException {
        private static final long serialVersionUID = 1L;
        final int which;

        Finding(int which) {
            this.which = which;
        }
    }

    /** Thrown with the place of a FAULT. */
    private static final class Fault extends Exception {
        private static final long serialVersionUID = 1L;
        final int place;

        Fault(int place) {
            this.place = place;
        }
    }

    private record Token(char sort, String word, int place) { }

    private static final class Model {
        static final List<Plain> KINDS =
            List.of(new Plain(), new Farm(), new Sky(), new Cloud(), new Hand(), new Grass(), new Manor());
        static final List<String> NAMES = List.of("piece", "farm", "sky", "cloud", "hand", "grass", "manor");

        State now = new State();
        private State kept;
        private final List<Integer> tape = new ArrayList<>();
        private final long[][] sheets = new long[4][];
        private final int[] bits = new int[4];
        private final int[] findings = new int[7];

        long answer(String m, int a, int b, int c, int d, int e) {
            try {
                return first(m, a, b, c, d, e);
            } catch (Finding finding) {
                findings[finding.which]++;
                return -1000001 - finding.which;
            }
        }

        private static void ask(int which, boolean isFine) {
            if (!isFine) {
                throw new Finding(which);
            }
        }

        private static boolean in(int v, int low, int high) {
            return low <= v && v <= high;
        }

        private void asksPiece(int piece) {
            ask(0, now.has(piece));
        }

        private void asksSheet(int s) {
            ask(0, in(s, 0, 3));
            ask(5, sheets[s] != null);
        }

        int sum(int n) {
            return now.later(n).sum();
        }

        private long first(String m, int a, int b, int c, int d, int e) {
            switch (m) {
                case "list" -> {
                    ask(0, in(a, 0, 5) && in(b, 0, 7) && in(c, 0, 7));
                    int was = now.list[a];
                    now.list[a] = 10 * b + c;
                    return was;
                }
                case "listed" -> {
                    ask(0, in(a, 0, 5));
                    return now.list[a];
                }
                case "piece" -> {
                    ask(0, in(a, 0, 6) && in(b, 0, 9) && in(c, 0, 9));
                    ask(1, now.pieces.size() < 8);
                    now.add(new Piece(a, b, c));
                    return now.pieces.size() - 1;
                }
                case "of" -> {
                    asksPiece(a);
                    ask(0, in(b, 0, 6));
                    return of(now, a, b);
                }
                case "change" -> {
                    return change(a, b, c);
                }
                case "lies" -> {
                    asksPiece(a);
                    return now.row.get(a);
                }
                case "gap" -> {
                    asksPiece(a);
                    asksPiece(b);
                    ask(0, a != b);
                    return now.gap(a, b);
                }
                case "edge" -> {
                    asksPiece(a);
                    ask(0, in(b, 0, 1));
                    return now.edge(a, b);
                }
                case "swap" -> {
                    asksPiece(a);
                    asksPiece(b);
                    now.exchange(a, b);
                    return now.sum();
                }
                case "go" -> {
                    ask(0, in(a, 1, 60));
                    ask(4, now.year + a <= 99999);
                    now = now.later(a);
                    return now.sum();
                }
                case "now" -> {
                    ask(0, in(a, 0, 7));
                    return nowOf(a);
                }
                default -> {
                    return future(m, a, b, c, d, e);
                }
            }
        }

        private static int of(State s, int piece, int what) {
            Piece p = s.pieces.get(piece);
            int[] all = {p.kind, p.edges[0], p.edges[1], p.want, p.turned ? 1 : 0, s.row.indexOf(piece), s.grows(piece)};
            return all[what];
        }

        private int change(int piece, int what, int v) {
            asksPiece(piece);
            ask(0, in(what, 0, 4));
            ask(0, in(v, what == 3 ? -1 : 0, new int[] {6, 9, 9, 7, 1}[what]));
            int was = of(now, piece, what);
            Piece p = now.pieces.get(piece);
            switch (what) {
                case 0 -> p.kind = v;
                case 3 -> p.want = v;
                case 4 -> p.turned = v == 1;
                default -> p.edges[what - 1] = v;
            }
            return was;
        }

        private int nowOf(int what) {
            int gapless = 0;
            int granted = 0;
            int greatest = 0;
            int turned = 0;
            for (int i = 0; i < now.row.size(); i++) {
                if (i + 1 < now.row.size()) {
                    int gap = now.gap(now.row.get(i), now.row.get(i + 1));
                    gapless += gap == 0 ? 1 << i : 0;
                    greatest = Math.max(greatest, gap);
                }
                granted += now.isGranted(i) ? 1 << i : 0;
                turned += now.pieces.get(i).turned ? 1 << i : 0;
            }
            return switch (what) {
                case 0 -> now.year;
                case 1 -> now.sum();
                case 2 -> gapless;
                case 3 -> granted;
                case 4 -> greatest;
                case 5 -> turned;
                case 6 -> now.sum() - now.sum(now.best());
                default -> better() == null ? 1 : 0;
            };
        }

        /** What the best exchange makes of the row; null if none betters it. */
        private List<Integer> better() {
            List<Integer> best = null;
            for (int a = 0; a < now.row.size(); a++) {
                for (int b = a + 1; b < now.row.size(); b++) {
                    List<Integer> laid = new ArrayList<>(now.row);
                    Collections.swap(laid, a, b);
                    if (now.sum(laid) < now.sum(best == null ? now.row : best)) {
                        best = laid;
                    }
                }
            }
            return best;
        }

        private long future(String m, int a, int b, int c, int d, int e) {
            switch (m) {
                case "ahead" -> {
                    asksPiece(a);
                    ask(0, b == 1 || b == 5);
                    ask(0, in(c, 0, 100));
                    return of(now.later(c), a, b);
                }
                case "sum" -> {
                    ask(0, in(a, 0, 100));
                    return sum(a);
                }
                case "when", "comes", "granted" -> {
                    return wait(m, a, b);
                }
                case "best" -> {
                    return now.sum(now.best());
                }
                case "bestAt" -> {
                    asksPiece(a);
                    return now.best().get(a);
                }
                case "settle" -> {
                    int times = 0;
                    for (List<Integer> next = better(); next != null; next = better()) {
                        Collections.copy(now.row, next);
                        times++;
                    }
                    return times;
                }
                case "edgeFor", "kindFor" -> {
                    asksPiece(a);
                    return bestValue(a, m.equals("edgeFor"));
                }
                case "turn" -> {
                    ask(0, in(a, 0, 999));
                    return turn(a);
                }
                default -> {
                    return second(m, a, b, c, d, e);
                }
            }
        }

        private int wait(String m, int a, int b) {
            if (m.equals("when")) {
                ask(0, in(a, 0, 999));
            } else {
                asksPiece(a);
                ask(0, !m.equals("comes") || in(b, 0, 7));
            }
            State later = now.twin();
            for (int n = 0; n <= 200; n++) {
                boolean isSo = switch (m) {
                    case "when" -> later.sum() <= a;
                    case "comes" -> later.row.indexOf(a) == b;
                    default -> later.isGranted(a);
                };
                if (isSo) {
                    return n;
                }
                later.goBy();
            }
            throw new Finding(3);
        }

        private int bestValue(int piece, boolean isEdge) {
            List<Integer> sums = new ArrayList<>();
            for (int v = 0; v < (isEdge ? 10 : 7); v++) {
                State other = now.twin();
                if (isEdge) {
                    other.pieces.get(piece).edges[0] = v;
                } else {
                    other.pieces.get(piece).kind = v;
                }
                sums.add(other.sum(other.best()));
            }
            return sums.indexOf(Collections.min(sums));
        }

        private int turn(int v) {
            for (int size = 0; size <= now.pieces.size(); size++) {
                for (int set = 0; set < 1 << now.pieces.size(); set++) {
                    State other = now.twin();
                    for (int p = 0; p < other.pieces.size(); p++) {
                        other.pieces.get(p).turned ^= (set >> p & 1) == 1;
                    }
                    if (Integer.bitCount(set) == size && other.sum() <= v) {
                        return set;
                    }
                }
            }
            throw new Finding(3);
        }

        private long second(String m, int a, int b, int c, int d, int e) {
            switch (m) {
                case "fits", "kinds" -> {
                    asksSheet(a);
                    asksPiece(b);
                    return m.equals("fits") ? fits(a, b) : kinds(a, b);
                }
                case "tip" -> {
                    ask(0, in(a, 1, 20));
                    ask(4, now.year + a <= 99999);
                    for (int i = 0; i < a; i++) {
                        int places = now.draw() % 8 * 10;
                        now.list[now.year % 6] = places + now.draw() % 8;
                        now.goBy();
                    }
                    return now.sum();
                }
                case "odds" -> {
                    ask(0, in(a, 0, 10) && in(b, 0, 1));
                    return odds(a, b);
                }
                case "seed" -> {
                    int was = now.z;
                    now.z = a;
                    return was;
                }
                case "feed" -> {
                    ask(0, in(b, 1, 4));
                    ask(1, tape.size() + b <= 120);
                    for (int i = b - 1; i >= 0; i--) {
                        tape.add(a >> 8 * i & 255);
                    }
                    return tape.size();
                }
                case "wipe" -> {
                    int had = tape.size();
                    tape.clear();
                    return had;
                }
                case "text" -> {
                    return text();
                }
                default -> {
                    return third(m, a, b, c, d, e);
                }
            }
        }

        private boolean goesAs(State s, int sheet) {
            for (int n = 0; n < 12 && n < sheets[sheet].length; n++) {
                long told = sheets[sheet][n];
                if (told != -1 && told != s.later(n).sum()) {
                    return false;
                }
            }
            return true;
        }

        private int fits(int sheet, int piece) {
            int pairs = 0;
            for (int pair = 0; pair < 100; pair++) {
                State other = now.twin();
                other.pieces.get(piece).edges = new int[] {pair / 10, pair % 10};
                pairs += goesAs(other, sheet) ? 1 : 0;
            }
            return pairs;
        }

        private int kinds(int sheet, int piece) {
            int set = 0;
            for (int kind = 0; kind < 7; kind++) {
                State other = now.twin();
                other.pieces.get(piece).kind = kind;
                set += goesAs(other, sheet) ? 1 << kind : 0;
            }
            return set;
        }

        private long odds(int n, int what) {
            BigInteger above = BigInteger.ZERO;
            for (int both = 0; both < 64; both++) {
                State other = now.twin();
                other.exchange(both / 8, both % 8);
                if (other.sum() <= now.sum()) {
                    above = above.add(BigInteger.ONE);
                }
            }
            above = above.pow(n);
            BigInteger below = BigInteger.valueOf(64).pow(n);
            BigInteger common = above.gcd(below);
            return (what == 0 ? above : below).divide(common).longValueExact();
        }

        // ---- texts

        private int text() {
            State made = now.twin();
            StringBuilder text = new StringBuilder();
            tape.forEach(one -> text.append((char) one.intValue()));
            tape.clear();
            try {
                int items = read(new ArrayList<>(tokens(text.toString())), made);
                now = made;
                return items;
            } catch (Fault fault) {
                return -1 - fault.place;
            }
        }

        private static List<Token> tokens(String text) {
            List<Token> tokens = new ArrayList<>();
            Matcher matcher =
                Pattern.compile("[a-z]+|[0-9]+|;|[^ ]", Pattern.DOTALL).matcher(text);
            while (matcher.find()) {
                char c = matcher.group().charAt(0);
                char sort = c >= 'a' && c <= 'z' ? 'w' : c >= '0' && c <= '9' ? 'n' : c;
                tokens.add(new Token(sort, matcher.group(), matcher.start()));
            }
            tokens.add(new Token('$', "", text.length()));
            return tokens;
        }

        private static int read(List<Token> tokens, State s) throws Fault {
            for (int items = 1;; items++) {
                Token word = tokens.remove(0);
                if (NAMES.contains(word.word()) && s.pieces.size() < 8) {
                    readPiece(tokens, s, NAMES.indexOf(word.word()));
                } else if (word.word().equals("swap")) {
                    int i = number(tokens, 5);
                    int a = number(tokens, 7);
                    s.list[i] = 10 * a + number(tokens, 7);
                } else if (word.word().equals("lay")) {
                    int a = number(tokens, s.row.size() - 1);
                    s.exchange(a, number(tokens, s.row.size() - 1));
                } else {
                    throw new Fault(word.place());
                }
                Token behind = tokens.remove(0);
                if (behind.sort() == '$') {
                    return items;
                }
                if (behind.sort() != ';') {
                    throw new Fault(behind.place());
                }
            }
        }

        private static void readPiece(List<Token> tokens, State s, int kind) throws Fault {
            int left = number(tokens, 9);
            Piece piece = new Piece(kind, left, number(tokens, 9));
            if (tokens.get(0).word().equals("wants")) {
                tokens.remove(0);
                piece.want = number(tokens, 7);
            }
            if (tokens.get(0).word().equals("turned")) {
                tokens.remove(0);
                piece.turned = true;
            }
            s.add(piece);
        }

        private static int number(List<Token> tokens, int most) throws Fault {
            Token token = tokens.remove(0);
            if (token.sort() != 'n' || new BigInteger(token.word()).compareTo(BigInteger.valueOf(most)) > 0) {
                throw new Fault(token.place());
            }
            return Integer.parseInt(token.word());
        }

        // ---- spots, sheets, images

        private long third(String m, int a, int b, int c, int d, int e) {
            switch (m) {
                case "hold" -> {
                    ask(0, in(a, 0, 9) && (b == -1 || now.has(b)));
                    if (b == -1) {
                        now.spots.remove(a);
                    } else {
                        now.spots.put(a, b);
                    }
                    return 1;
                }
                case "as" -> {
                    ask(0, in(a, 0, 9) && in(b, 0, 6));
                    ask(5, now.spots.containsKey(a));
                    int held = now.spots.get(a);
                    ask(2, KINDS.get(b).getClass().isInstance(KINDS.get(now.pieces.get(held).kind)));
                    return held;
                }
                case "sheet" -> {
                    return sheet(a, b, c);
                }
                case "write" -> {
                    asksSheet(a);
                    ask(0, in(b, 0, sheets[a].length - 1));
                    sheets[a][b] = bits[a] == 8 ? (byte) c : bits[a] == 16 ? (short) c : c;
                    return 1;
                }
                case "copy" -> {
                    return copy(a, b, c, d, e);
                }
                case "load" -> {
                    asksSheet(a);
                    for (int i = 0; i < sheets[a].length; i++) {
                        if (sheets[a][i] < 0 || sheets[a][i] > 9 || !now.has(i)) {
                            return i;
                        }
                        now.pieces.get(i).edges[0] = (int) sheets[a][i];
                    }
                    return sheets[a].length;
                }
                case "judge" -> {
                    asksSheet(a);
                    for (int i = 0; i < sheets[a].length; i++) {
                        if (i >= now.row.size() || sheets[a][i] != now.row.get(i)) {
                            return i + 1;
                        }
                    }
                    return 0;
                }
                default -> {
                    return images(m, a);
                }
            }
        }

        private int sheet(int s, int newBits, int n) {
            ask(0, in(s, 0, 3) && (newBits == 0 || newBits == 8 || newBits == 16 || newBits == 32));
            ask(6, n >= 0);
            ask(0, n <= 40);
            sheets[s] = newBits == 0 ? null : new long[n];
            bits[s] = newBits;
            return newBits == 0 ? 0 : n;
        }

        private int copy(int s, int from, int t, int to, int n) {
            ask(0, in(s, 0, 3) && in(t, 0, 3));
            ask(5, sheets[s] != null && sheets[t] != null);
            ask(2, bits[s] == bits[t]);
            ask(0, from >= 0 && to >= 0 && n >= 0);
            ask(0, (long) from + n <= sheets[s].length && (long) to + n <= sheets[t].length);
            long[] taken = Arrays.copyOfRange(sheets[s], from, from + n);
            for (int i = 0; i < n; i++) {
                sheets[t][to + i] = taken[i];
            }
            return n;
        }

        private long images(String m, int a) {
            switch (m) {
                case "image" -> {
                    kept = now.twin();
                    return 1;
                }
                case "undo" -> {
                    ask(3, kept != null);
                    now = kept.twin();
                    return now.year;
                }
                case "tear" -> {
                    int was = kept == null ? 0 : 1;
                    kept = null;
                    return was;
                }
                case "count" -> {
                    ask(0, in(a, 0, 7));
                    long[] all = {now.year, now.pieces.size(), now.sum(), Integer.bitCount(nowOf(5)),
                        Integer.bitCount(nowOf(3)), tape.size(), now.z, now.spots.size()};
                    return all[a];
                }
                default -> {
                    ask(0, in(a, -1, 6));
                    return a < 0 ? Arrays.stream(findings).sum() : findings[a];
                }
            }
        }
    }
}
