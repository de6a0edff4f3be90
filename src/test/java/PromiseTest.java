/** For each promise of the document: ordinary inputs, the edges that it names, and wrong inputs. */
public final class PromiseTest {
    private static final int BEYOND = -1000001;
    private static final int FULL = -1000002;
    private static final int KIND = -1000003;
    private static final int NONE = -1000004;
    private static final int STATE = -1000005;
    private static final int MISSING = -1000006;
    private static final int SIZE = -1000007;
    private static final int MIN = Integer.MIN_VALUE;
    private static final int MAX = Integer.MAX_VALUE;

    private static final Checks CHECKS = new Checks();
    private static int promise;
    private static int line;

    public static void main(String[] args) {
        newObject();
        lists();
        pieces();
        changes();
        gaps();
        gapsOfKinds();
        edges();
        swaps();
        years();
        cuts();
        present();
        future();
        waits();
        bestLayings();
        settling();
        bestEdgesAndKinds();
        turning();
        toldSums();
        toldKinds();
        tips();
        odds();
        seeds();
        tape();
        texts();
        faults();
        textEffects();
        spots();
        sheets();
        writing();
        copies();
        loads();
        judging();
        images();
        counts();
        statuses();
        lastYear();
        CHECKS.end();
    }

    private static void promise(int number) {
        promise = number;
        line = 0;
    }

    private static void due(long got, long want) {
        line++;
        CHECKS.due("promise " + promise + ", check " + line, got, want);
    }

    /** Pieces told as kind, left and right. */
    private static CountyJigsaw county(int... told) {
        CountyJigsaw x = new CountyJigsaw();
        for (int i = 0; i + 2 < told.length; i += 3) {
            x.piece(told[i], told[i + 1], told[i + 2]);
        }
        return x;
    }

    private static int read(CountyJigsaw x, String text) {
        for (int i = 0; i < text.length(); i++) {
            x.feed(text.charAt(i), 1);
        }
        return x.text();
    }

    private static void tell(CountyJigsaw x, int s, int bits, int... numbers) {
        x.sheet(s, bits, numbers.length);
        for (int i = 0; i < numbers.length; i++) {
            x.write(s, i, numbers[i]);
        }
    }

    private static void newObject() {
        promise(1);
        CountyJigsaw x = new CountyJigsaw();
        due(x.count(0), 0);
        due(x.count(1), 0);
        due(x.count(2), 0);
        due(x.count(5), 0);
        due(x.count(6), 1);
        due(x.count(7), 0);
        due(x.status(-1), 0);
        for (int i = 0; i < 6; i++) {
            due(x.listed(i), 0);
        }
        due(x.status(-1), 0);
        due(x.undo(), NONE);
        due(x.tear(), 0);
        for (int s = 0; s < 4; s++) {
            due(x.load(s), MISSING);
        }
        for (int spot = 0; spot < 10; spot++) {
            due(x.as(spot, 0), MISSING);
        }
        due(x.wipe(), 0);
        CountyJigsaw other = new CountyJigsaw();
        x.piece(0, 1, 1);
        due(other.count(1), 0);
    }

    private static void lists() {
        promise(2);
        CountyJigsaw x = new CountyJigsaw();
        due(x.list(0, 7, 3), 0);
        due(x.list(0, 0, 7), 73);
        due(x.list(5, 7, 7), 0);
        due(x.list(5, 0, 0), 77);
        due(x.list(-1, 0, 0), BEYOND);
        due(x.list(6, 0, 0), BEYOND);
        due(x.list(0, -1, 0), BEYOND);
        due(x.list(0, 8, 0), BEYOND);
        due(x.list(0, 0, -1), BEYOND);
        due(x.list(0, 0, 8), BEYOND);
        due(x.list(MIN, MAX, MIN), BEYOND);
        promise(3);
        due(x.listed(0), 7);
        due(x.listed(5), 0);
        x.list(4, 3, 2);
        due(x.listed(4), 32);
        due(x.listed(3), 0);
        due(x.listed(6), BEYOND);
        due(x.listed(-1), BEYOND);
        due(x.status(0), 9);
    }

    private static void pieces() {
        promise(4);
        CountyJigsaw x = new CountyJigsaw();
        due(x.piece(-1, 0, 0), BEYOND);
        due(x.piece(7, 0, 0), BEYOND);
        due(x.piece(0, -1, 0), BEYOND);
        due(x.piece(0, 10, 0), BEYOND);
        due(x.piece(0, 0, -1), BEYOND);
        due(x.piece(0, 0, 10), BEYOND);
        due(x.count(1), 0);
        for (int p = 0; p < 8; p++) {
            due(x.piece(p % 7, p, 9 - p), p);
        }
        due(x.piece(0, 0, 0), FULL);
        due(x.piece(7, 0, 0), BEYOND);
        due(x.count(1), 8);
        promise(5);
        for (int p = 0; p < 8; p++) {
            due(x.of(p, 0), p % 7);
            due(x.of(p, 1), p);
            due(x.of(p, 2), 9 - p);
            due(x.of(p, 3), -1);
            due(x.of(p, 4), 0);
            due(x.of(p, 5), p);
        }
        int[] grows = {1, 0, 3, 4, 8, 0, 0};
        for (int kind = 0; kind < 7; kind++) {
            due(x.of(kind, 6), grows[kind]);
        }
        x.swap(2, 6);
        due(x.of(2, 5), 6);
        due(x.of(6, 5), 2);
        due(x.of(8, 0), BEYOND);
        due(x.of(-1, 0), BEYOND);
        due(x.of(0, 7), BEYOND);
        due(x.of(0, -1), BEYOND);
        promise(7);
        due(x.lies(0), 0);
        due(x.lies(2), 6);
        due(x.lies(6), 2);
        due(x.lies(7), 7);
        due(x.lies(8), BEYOND);
        due(x.lies(-1), BEYOND);
        due(county(0, 1, 1).lies(1), BEYOND);
    }

    private static void changes() {
        promise(6);
        CountyJigsaw x = county(0, 3, 5);
        due(x.change(0, 0, 6), 0);
        due(x.change(0, 0, 4), 6);
        due(x.change(0, 1, 9), 3);
        due(x.change(0, 2, 0), 5);
        due(x.change(0, 3, 7), -1);
        due(x.change(0, 3, -1), 7);
        due(x.change(0, 3, 0), -1);
        due(x.change(0, 4, 1), 0);
        due(x.change(0, 4, 1), 1);
        due(x.of(0, 0), 4);
        due(x.of(0, 1), 9);
        due(x.of(0, 2), 0);
        due(x.of(0, 3), 0);
        due(x.of(0, 4), 1);
        due(x.change(0, 4, 0), 1);
        due(x.of(0, 4), 0);
        int[][] wrong = {{1, 0, 0}, {-1, 0, 0}, {0, -1, 0}, {0, 5, 0}, {0, 6, 0}, {0, 0, 7}, {0, 0, -1},
            {0, 1, 10}, {0, 1, -1}, {0, 2, 10}, {0, 2, -1}, {0, 3, 8}, {0, 3, -2}, {0, 4, 2}, {0, 4, -1}};
        for (int[] call : wrong) {
            due(x.change(call[0], call[1], call[2]), BEYOND);
        }
        due(x.status(0), wrong.length);
        due(x.of(0, 0), 4);
        due(x.of(0, 1), 9);
        due(x.of(0, 2), 0);
        due(x.of(0, 3), 0);
        due(x.of(0, 4), 0);
    }

    private static void gaps() {
        promise(8);
        CountyJigsaw x = county(0, 3, 7, 0, 2, 4);
        due(x.gap(0, 1), 5);
        due(x.gap(1, 0), 1);
        x.change(0, 4, 1);
        due(x.gap(0, 1), 1);
        due(x.gap(1, 0), 3);
        x.change(1, 4, 1);
        due(x.gap(0, 1), 1);
        due(x.gap(1, 0), 5);
        due(x.gap(0, 0), BEYOND);
        due(x.gap(1, 1), BEYOND);
        due(x.gap(0, 2), BEYOND);
        due(x.gap(2, 0), BEYOND);
        due(x.gap(-1, 0), BEYOND);
        due(x.gap(0, -1), BEYOND);
    }

    private static void gapsOfKinds() {
        promise(8);
        CountyJigsaw x = county(1, 0, 8, 0, 2, 2, 2, 2, 2);
        due(x.gap(0, 1), 6);
        x.change(0, 3, 1);
        due(x.gap(0, 1), 0);
        due(x.gap(0, 2), 6);
        x.change(0, 0, 6);
        due(x.gap(0, 1), 2);
        due(x.gap(0, 2), 8);
        x.change(0, 0, 0);
        due(x.gap(0, 1), 6);
        x.change(0, 0, 5);
        due(x.gap(0, 1), 1);
        x.change(0, 2, 2);
        due(x.gap(0, 1), 0);
        x.change(0, 2, 8);
        int[] skyGaps = {7, 3, 3};
        for (int kind = 2; kind <= 4; kind++) {
            x.change(0, 0, kind);
            due(x.gap(0, 1), skyGaps[kind - 2]);
            for (int under = 0; under < 7; under++) {
                x.change(2, 0, under);
                boolean isSky = under >= 2 && under <= 4;
                due(x.gap(0, 2), isSky ? 0 : skyGaps[kind - 2]);
            }
        }
        // a HAND's GAP has YEAR modulo 3 besides; no cut comes before the third YEAR
        x.change(2, 0, 2);
        x.go(1);
        due(x.gap(0, 1), 4);
        due(x.gap(0, 2), 1);
        x.go(1);
        due(x.gap(0, 1), 5);
        due(x.gap(0, 2), 2);
        x.go(1);
        due(x.gap(0, 2), 0);
        x.go(1);
        due(x.gap(0, 2), 1);
        CountyJigsaw grass = county(5, 0, 3, 0, 4, 0, 0, 3, 0);
        due(grass.gap(0, 1), 1);
        due(grass.gap(0, 2), 0);
    }

    private static void edges() {
        promise(9);
        int[] first = {7, 7, 3, 3, 4, 2, 0};
        int[] last = {4, 4, 2, 2, 3, 5, 0};
        for (int kind = 0; kind < 7; kind++) {
            CountyJigsaw x = county(0, 0, 0, kind, 7, 4);
            due(x.edge(1, 0), first[kind]);
            due(x.edge(1, 1), last[kind]);
            x.change(1, 4, 1);
            due(x.edge(1, 0), last[kind]);
            due(x.edge(1, 1), first[kind]);
        }
        CountyJigsaw x = county(0, 1, 1);
        due(x.edge(0, 2), BEYOND);
        due(x.edge(0, -1), BEYOND);
        due(x.edge(1, 0), BEYOND);
        due(x.edge(-1, 0), BEYOND);
    }

    private static void swaps() {
        promise(10);
        CountyJigsaw x = county(0, 1, 2, 0, 4, 8, 0, 3, 3);
        due(x.count(2), 1 + 2 + 5 + 3);
        due(x.swap(0, 2), 3 + 1 + 7 + 2);
        due(x.lies(0), 2);
        due(x.lies(2), 0);
        due(x.swap(1, 1), 13);
        due(x.swap(2, 1), 3 + 2 + 2 + 8);
        due(x.swap(0, 3), BEYOND);
        due(x.swap(3, 0), BEYOND);
        due(x.swap(-1, 0), BEYOND);
        due(x.swap(0, -1), BEYOND);
        due(x.count(2), 15);
        due(county(0, 4, 5).swap(0, 0), 9);
    }

    private static void years() {
        promise(11);
        CountyJigsaw x = county(0, 1, 2, 0, 4, 8, 0, 3, 3);
        x.list(0, 0, 2);
        x.list(1, 0, 3);
        x.list(3, 1, 2);
        due(x.go(1), 13);
        due(x.count(0), 1);
        due(x.go(1), 13);
        due(x.go(1), 4 + 2 + 6 + 2);
        due(x.of(0, 1), 2);
        due(x.of(1, 1), 5);
        due(x.of(2, 1), 4);
        due(x.go(1), 4 + 1 + 3 + 8);
        due(x.go(3), 6 + 5 + 3 + 3);
        due(x.count(0), 7);
        due(x.lies(0), 1);
        due(x.lies(2), 2);
        due(x.go(0), BEYOND);
        due(x.go(-1), BEYOND);
        due(x.go(61), BEYOND);
        due(x.go(MAX), BEYOND);
        due(x.count(0), 7);
        x.go(60);
        due(x.count(0), 67);
        due(new CountyJigsaw().go(60), 0);
    }

    private static void cuts() {
        promise(11);
        CountyJigsaw x = county(0, 9, 0, 1, 9, 0, 2, 9, 0, 3, 9, 0, 4, 9, 0, 5, 9, 0, 6, 9, 0);
        for (int p = 0; p < 7; p++) {
            x.change(p, 4, p % 2);
        }
        x.go(2);
        due(x.of(0, 1), 9);
        x.go(1);
        int[] lefts = {0, 9, 2, 3, 7, 9, 9};
        for (int p = 0; p < 7; p++) {
            due(x.of(p, 1), lefts[p]);
            due(x.of(p, 2), 0);
        }
        x.go(3);
        due(x.of(4, 1), 5);
        x.go(3);
        due(x.of(4, 1), 3);
    }

    private static void present() {
        promise(12);
        due(county(0, 0, 5, 0, 0, 4, 0, 0, 0).now(4), 5);
        due(county(0, 0, 4, 0, 0, 5, 0, 0, 0).now(4), 5);
        due(county(0, 0, 0, 0, 0, 0, 0, 0, 0).now(2), 3);
        CountyJigsaw x = county(1, 1, 2, 0, 2, 8, 2, 8, 3, 3, 5, 5);
        x.change(0, 3, 1);
        x.change(1, 3, 2);
        x.change(2, 3, 1);
        due(x.now(0), 0);
        due(x.now(1), 1 + 0 + 0 + 0 + 2);
        due(x.now(2), 7);
        due(x.now(3), 3);
        due(x.now(4), 0);
        due(x.now(5), 0);
        x.change(3, 0, 0);
        x.change(1, 4, 1);
        x.change(3, 4, 1);
        due(x.now(1), 1 + 0 + 6 + 3 + 5);
        due(x.now(2), 1);
        due(x.now(4), 6);
        due(x.now(5), 10);
        x.swap(0, 3);
        due(x.now(3), 2);
        x.go(4);
        due(x.now(0), 4);
        due(x.now(8), BEYOND);
        due(x.now(-1), BEYOND);
        CountyJigsaw y = county(0, 5, 0, 0, 0, 5);
        due(y.now(1), 10);
        due(y.now(6), 10);
        y = county(0, 5, 1, 0, 0, 5);
        due(y.now(1), 11);
        due(y.now(6), 10);
        due(y.now(7), 0);
        y.swap(0, 1);
        due(y.now(1), 1);
        due(y.now(6), 0);
        due(y.now(7), 1);
        // all lie alike: an exchange gives as much, which is not less
        due(county(0, 5, 5, 0, 5, 5).now(7), 1);
        CountyJigsaw none = new CountyJigsaw();
        for (int what = 0; what < 7; what++) {
            due(none.now(what), 0);
        }
        due(none.now(7), 1);
        due(county(0, 3, 3).now(7), 1);
    }

    private static void future() {
        CountyJigsaw x = county(0, 1, 2, 4, 4, 8, 0, 3, 3);
        x.list(0, 0, 2);
        x.list(1, 0, 1);
        promise(13);
        due(x.ahead(0, 5, 0), 0);
        due(x.ahead(0, 5, 1), 2);
        due(x.ahead(2, 5, 2), 1);
        due(x.ahead(1, 1, 2), 4);
        due(x.ahead(1, 1, 3), 2);
        due(x.ahead(0, 1, 100), (1 + 33) % 10);
        due(x.ahead(0, 0, 1), BEYOND);
        due(x.ahead(0, 2, 1), BEYOND);
        due(x.ahead(0, 4, 1), BEYOND);
        due(x.ahead(0, 6, 1), BEYOND);
        due(x.ahead(0, 1, -1), BEYOND);
        due(x.ahead(0, 1, 101), BEYOND);
        due(x.ahead(3, 1, 1), BEYOND);
        due(x.ahead(-1, 1, 1), BEYOND);
        promise(14);
        due(x.sum(0), 1 + 2 + 3 + 3);
        due(x.sum(1), 3 + 1 + (8 / 2 + 1) + 2);
        due(x.sum(2), 3 + (6 / 2 + 2) + 2 + 2);
        due(x.sum(-1), BEYOND);
        due(x.sum(101), BEYOND);
        due(x.count(0), 0);
        due(x.of(1, 1), 4);
        due(x.lies(0), 0);
        int last = x.sum(100);
        x.go(60);
        due(x.go(40), last);
    }

    private static void waits() {
        promise(15);
        CountyJigsaw x = county(0, 9, 0, 1, 0, 0);
        due(x.when(9), 0);
        due(x.when(8), 3);
        due(x.when(0), 3);
        x.change(0, 2, 1);
        due(x.when(0), NONE);
        due(x.when(1), 3);
        due(x.when(999), 0);
        due(x.when(-1), BEYOND);
        due(x.when(1000), BEYOND);
        promise(16);
        x = county(0, 0, 0, 0, 0, 0, 0, 0, 0);
        x.list(5, 0, 1);
        x.list(4, 5, 0);
        due(x.comes(0, 0), 0);
        due(x.comes(0, 1), 6);
        due(x.comes(0, 2), NONE);
        due(x.comes(0, 7), NONE);
        due(x.comes(0, 8), BEYOND);
        due(x.comes(0, -1), BEYOND);
        due(x.comes(3, 0), BEYOND);
        due(x.comes(-1, 0), BEYOND);
        promise(17);
        x.change(2, 3, 0);
        due(x.granted(2), NONE);
        x.change(0, 3, 1);
        due(x.granted(0), 0);
        x.change(0, 3, 2);
        due(x.granted(0), 6);
        due(x.granted(1), NONE);
        x.change(1, 3, 1);
        due(x.granted(1), NONE);
        x.change(1, 3, 7);
        due(x.granted(1), NONE);
        due(x.granted(3), BEYOND);
        due(x.granted(-1), BEYOND);
        due(x.count(0), 0);
        longerWaits();
    }

    private static void longerWaits() {
        promise(15);
        CountyJigsaw x = new CountyJigsaw();
        read(x, "piece 0 0;piece 1 0;piece 2 0;piece 3 0;piece 4 0;piece 5 0;piece 6 0;piece 7 0;"
            + "swap 0 0 1;swap 1 1 2;swap 3 2 3");
        int least = 999;
        int at = 0;
        for (int n = 0; n <= 100; n++) {
            if (x.sum(n) < least) {
                least = x.sum(n);
                at = n;
            }
        }
        due(x.when(least), at);
        promise(16);
        // of the four that the swaps move in a ring, all places are seen within 24 YEARS
        for (int p = 0; p < 4; p++) {
            for (int place = 0; place < 4; place++) {
                int n = 0;
                while (n < 100 && x.ahead(p, 5, n) != place) {
                    n++;
                }
                due(x.comes(p, place), n);
            }
        }
        promise(15);
        // worked out beside the class: SUM is 7 for the first time behind 200 YEARS, 11 there behind 201
        x = county(5, 0, 8, 3, 3, 3, 3, 5, 1, 5, 6, 9, 3, 6, 4, 0, 3, 0, 2, 3, 5, 0, 7, 9);
        tellList(x, 5, 41, 2, 37, 32, 10);
        due(x.when(7), 200);
        due(x.when(6), NONE);
        x = county(1, 5, 0, 6, 5, 8, 4, 4, 6, 5, 4, 0, 4, 8, 5, 5, 4, 6, 3, 2, 9, 6, 9, 5);
        tellList(x, 16, 32, 26, 54, 65, 67);
        due(x.when(11), NONE);
        x.go(1);
        due(x.when(11), 200);
    }

    private static void tellList(CountyJigsaw x, int... swaps) {
        for (int i = 0; i < swaps.length; i++) {
            x.list(i, swaps[i] / 10, swaps[i] % 10);
        }
    }

    /** More than 512 calls: the document leaves these answers free, but the class keeps to its words there, too. */
    private static void lastYear() {
        promise(11);
        CountyJigsaw x = county(0, 1, 1, 0, 2, 2);
        x.list(3, 0, 1);
        for (int i = 0; i < 1666; i++) {
            x.go(60);
        }
        due(x.count(0), 99960);
        due(x.go(40), STATE);
        due(x.go(61), BEYOND);
        due(x.go(38), x.count(2));
        due(x.count(0), 99998);
        promise(26);
        due(x.tip(2), STATE);
        due(x.tip(21), BEYOND);
        due(x.count(6), 1);
        x.image();
        due(x.tip(1), x.count(2));
        due(x.count(0), 99999);
        due(x.undo(), 99998);
        promise(11);
        due(x.go(1), x.count(2));
        due(x.go(1), STATE);
        due(x.count(0), 99999);
        due(x.status(4), 3);
        promise(13);
        // YEAR stays: from here on each YEAR makes the SWAP of place 3, and there is no cut
        int place = x.of(0, 5);
        due(x.ahead(0, 5, 1), 1 - place);
        due(x.ahead(0, 5, 2), place);
        due(x.ahead(0, 5, 99), 1 - place);
        due(x.ahead(0, 1, 99), x.of(0, 1));
    }

    private static void bestLayings() {
        promise(18);
        CountyJigsaw x = new CountyJigsaw();
        due(x.best(), 0);
        x.piece(0, 3, 4);
        due(x.best(), 7);
        x.piece(0, 0, 3);
        due(x.best(), 4);
        x.piece(0, 4, 0);
        due(x.best(), 0);
        due(x.lies(0), 0);
        promise(19);
        due(county(0, 7, 1, 0, 1, 7).bestAt(0), 1);
        due(x.bestAt(0), 1);
        due(x.bestAt(1), 0);
        due(x.bestAt(2), 2);
        due(x.bestAt(3), BEYOND);
        due(x.bestAt(-1), BEYOND);
        due(new CountyJigsaw().bestAt(0), BEYOND);
        CountyJigsaw alike = county(0, 5, 5, 0, 5, 5, 0, 5, 5, 0, 5, 5, 0, 5, 5, 0, 5, 5, 0, 5, 5, 0, 5, 5);
        alike.swap(0, 7);
        due(alike.best(), 10);
        for (int place = 0; place < 8; place++) {
            due(alike.bestAt(place), place);
        }
        // a HAND's GAP grows with YEAR modulo 3, so it comes last
        CountyJigsaw hand = county(4, 4, 4, 4, 4, 4, 0, 2, 2);
        due(hand.best(), 3 + 0 + 1 + 2);
        hand.go(1);
        due(hand.best(), 2 + 2 + 1 + 3);
    }

    private static void settling() {
        promise(20);
        due(new CountyJigsaw().settle(), 0);
        CountyJigsaw x = county(0, 5, 1, 0, 0, 5);
        due(x.settle(), 1);
        due(x.lies(0), 1);
        due(x.settle(), 0);
        // 0 with 1 and 1 with 2 both give 7: the lesser first place counts
        CountyJigsaw first = county(0, 4, 2, 0, 1, 0, 0, 4, 0);
        due(first.count(2), 9);
        due(first.settle(), 1);
        row(first, 1, 0, 2);
        due(first.count(2), 7);
        // 0 with 2 and 1 with 2 both give 4, and 0 with 1 more
        CountyJigsaw second = county(0, 0, 0, 0, 2, 2, 0, 1, 3);
        due(second.settle(), 1);
        row(second, 2, 1, 0);
        CountyJigsaw twice = county(0, 4, 2, 0, 0, 0, 0, 3, 3);
        due(twice.settle(), 2);
        row(twice, 2, 0, 1);
        due(twice.count(2), 6);
        due(twice.count(0), 0);
    }

    private static void row(CountyJigsaw x, int... lying) {
        for (int place = 0; place < lying.length; place++) {
            due(x.lies(place), lying[place]);
        }
    }

    private static void bestEdgesAndKinds() {
        promise(21);
        CountyJigsaw x = county(0, 3, 4, 0, 0, 7);
        due(x.edgeFor(0), 7);
        due(x.best(), 8);
        due(x.of(0, 1), 3);
        due(x.edgeFor(1), 0);
        x.change(0, 4, 1);
        due(x.edgeFor(0), 0);
        due(x.edgeFor(2), BEYOND);
        due(x.edgeFor(-1), BEYOND);
        due(county(6, 5, 5).edgeFor(0), 0);
        due(county(5, 0, 0).edgeFor(0), 9);
        promise(22);
        due(county(0, 5, 5).kindFor(0), 6);
        due(county(0, 0, 0).kindFor(0), 0);
        due(county(4, 9, 9).kindFor(0), 5);
        CountyJigsaw y = county(0, 9, 0);
        due(y.kindFor(0), 6);
        due(y.of(0, 0), 0);
        due(y.kindFor(1), BEYOND);
        due(y.kindFor(-1), BEYOND);
    }

    private static void turning() {
        promise(23);
        CountyJigsaw x = county(0, 5, 1, 0, 5, 2);
        due(x.count(2), 5 + 4 + 2);
        due(x.turn(11), 0);
        due(x.turn(10), 1);
        due(x.turn(3), 1);
        due(x.turn(2), NONE);
        due(x.turn(999), 0);
        due(x.count(3), 0);
        x.change(0, 4, 1);
        due(x.count(2), 1 + 0 + 2);
        due(x.turn(3), 0);
        due(x.turn(2), NONE);
        x.change(1, 4, 1);
        due(x.count(2), 1 + 3 + 5);
        due(x.turn(3), 2);
        due(x.turn(-1), BEYOND);
        due(x.turn(1000), BEYOND);
        due(new CountyJigsaw().turn(0), 0);
        // each must be turned for the next one to meet it
        CountyJigsaw all = county(0, 1, 0, 0, 2, 1, 0, 3, 2, 0, 4, 3, 0, 5, 4, 0, 6, 5, 0, 7, 6, 0, 0, 7);
        due(all.turn(0), 255);
        due(all.turn(1), 255);
        // to turn the first or the last gives 10: the lesser set counts
        CountyJigsaw any = county(0, 2, 1, 0, 5, 5, 0, 4, 5);
        due(any.count(2), 2 + 4 + 1 + 5);
        due(any.turn(10), 1);
        due(any.turn(9), 5);
        due(any.turn(8), 5);
        due(any.turn(7), NONE);
    }

    private static void toldSums() {
        promise(24);
        CountyJigsaw x = county(0, 3, 4);
        due(x.fits(0, 0), MISSING);
        due(x.fits(-1, 0), BEYOND);
        due(x.fits(4, 0), BEYOND);
        due(x.fits(0, 9), MISSING);
        tell(x, 0, 8);
        due(x.fits(0, 0), 100);
        due(x.fits(0, 1), BEYOND);
        due(x.fits(0, -1), BEYOND);
        tell(x, 0, 8, 7);
        due(x.fits(0, 0), 8);
        tell(x, 0, 8, 18);
        due(x.fits(0, 0), 1);
        tell(x, 0, 8, -1, -1, -1, 5);
        due(x.fits(0, 0), 6);
        tell(x, 0, 8, 7, 7, 7, 8);
        due(x.fits(0, 0), 8);
        tell(x, 0, 8, 9, 9, 9, 0);
        due(x.fits(0, 0), 1);
        tell(x, 0, 16, -1, 99);
        due(x.fits(0, 0), 0);
        tell(x, 1, 32, -1, -1, -1, -1, -1, -1, -1, -1, -1, -1, -1, -1, 500);
        due(x.fits(1, 0), 100);
        tell(x, 1, 32, -1, -1, -1, -1, -1, -1, -1, -1, -1, -1, -1, 500);
        due(x.fits(1, 0), 0);
        // lowest bits: 255 in 8 bits is -1, in 16 it is not
        tell(x, 2, 8, 255);
        due(x.fits(2, 0), 100);
        tell(x, 2, 16, 255);
        due(x.fits(2, 0), 0);
        due(x.of(0, 1), 3);
        due(x.count(0), 0);
    }

    private static void toldKinds() {
        promise(25);
        CountyJigsaw x = county(0, 5, 5);
        due(x.kinds(0, 0), MISSING);
        due(x.kinds(-1, 0), BEYOND);
        due(x.kinds(4, 0), BEYOND);
        tell(x, 0, 8);
        due(x.kinds(0, 0), 127);
        due(x.kinds(0, 1), BEYOND);
        due(x.kinds(0, -1), BEYOND);
        tell(x, 0, 8, 10);
        due(x.kinds(0, 0), 3);
        tell(x, 0, 8, 10, -1, 10, 11);
        due(x.kinds(0, 0), 1);
        tell(x, 0, 8, 10, -1, 10, 10);
        due(x.kinds(0, 0), 2);
        tell(x, 0, 8, 4);
        due(x.kinds(0, 0), 4 + 8);
        tell(x, 0, 8, 6);
        due(x.kinds(0, 0), 16);
        tell(x, 0, 8, 8);
        due(x.kinds(0, 0), 32);
        tell(x, 0, 8, 0);
        due(x.kinds(0, 0), 64);
        tell(x, 0, 8, 1);
        due(x.kinds(0, 0), 0);
        due(x.of(0, 0), 0);
    }

    private static int drawn(int z) {
        return z * 1103515245 + 12345;
    }

    private static void tips() {
        promise(26);
        CountyJigsaw x = county(0, 1, 2, 0, 4, 8, 0, 3, 3, 0, 7, 1, 0, 2, 2, 0, 6, 6, 0, 9, 1, 0, 5, 5);
        CountyJigsaw same = county(0, 1, 2, 0, 4, 8, 0, 3, 3, 0, 7, 1, 0, 2, 2, 0, 6, 6, 0, 9, 1, 0, 5, 5);
        int z = 1;
        for (int year = 0; year < 20; year++) {
            z = drawn(z);
            int a = (z >>> 8) % 8;
            z = drawn(z);
            int b = (z >>> 8) % 8;
            same.list(year % 6, a, b);
            due(x.tip(1), same.go(1));
            due(x.listed(year % 6), 10 * a + b);
        }
        due(x.count(6), z);
        due(x.count(0), 20);
        int once = x.tip(20);
        int last = 0;
        same.seed(z);
        for (int i = 0; i < 20; i++) {
            last = same.tip(1);
        }
        due(once, last);
        due(x.tip(0), BEYOND);
        due(x.tip(21), BEYOND);
        due(x.tip(-1), BEYOND);
        due(x.count(0), 40);
        due(x.count(6), same.count(6));
        CountyJigsaw none = new CountyJigsaw();
        due(none.tip(20), 0);
        due(none.count(0), 20);
    }

    private static void odds() {
        promise(27);
        CountyJigsaw x = new CountyJigsaw();
        due(x.odds(10, 0), 1);
        due(x.odds(10, 1), 1);
        // of two PIECES, the best as they lie: 0 with 1 and 1 with 0 are worse, 62 of 64 are not
        x = county(0, 0, 5, 0, 5, 0);
        due(x.odds(0, 0), 1);
        due(x.odds(0, 1), 1);
        due(x.odds(1, 0), 31);
        due(x.odds(1, 1), 32);
        due(x.odds(2, 0), 961);
        due(x.odds(2, 1), 1024);
        due(x.odds(10, 0), 819628286980801L);
        due(x.odds(10, 1), 1125899906842624L);
        x.swap(0, 1);
        due(x.odds(10, 0), 1);
        due(x.odds(10, 1), 1);
        due(x.odds(-1, 0), BEYOND);
        due(x.odds(11, 0), BEYOND);
        due(x.odds(1, 2), BEYOND);
        due(x.odds(1, -1), BEYOND);
        due(x.status(0), 4);
        due(x.lies(0), 1);
        due(x.count(6), 1);
    }

    private static void seeds() {
        promise(28);
        CountyJigsaw x = new CountyJigsaw();
        due(x.seed(MIN), 1);
        due(x.seed(-1000001), MIN);
        due(x.seed(MAX), -1000001);
        due(x.count(6), MAX);
        due(x.status(-1), 0);
    }

    private static void tape() {
        promise(29);
        CountyJigsaw x = new CountyJigsaw();
        due(x.feed(0, 0), BEYOND);
        due(x.feed(0, 5), BEYOND);
        due(x.feed(0, -1), BEYOND);
        for (int i = 1; i <= 29; i++) {
            due(x.feed(MAX, 4), 4 * i);
        }
        due(x.feed(1, 3), 119);
        due(x.feed(1, 2), FULL);
        due(x.feed(1, 5), BEYOND);
        due(x.count(5), 119);
        due(x.feed(1, 1), 120);
        due(x.feed(1, 1), FULL);
        promise(30);
        due(x.wipe(), 120);
        due(x.wipe(), 0);
        due(x.count(5), 0);
        promise(29);
        // the highest of the n lowest bytes comes first: "sky " and "7;", " 3 " within more
        x.feed(0x736b7920, 4);
        x.feed(0x00413720, 2);
        x.feed(0x58585833, 1);
        due(x.text(), 1);
        due(x.of(0, 0), 2);
        due(x.of(0, 1), 7);
        due(x.of(0, 2), 3);
    }

    private static void texts() {
        promise(31);
        CountyJigsaw x = new CountyJigsaw();
        due(read(x, "piece 1 2;farm 3 4 wants 0;sky 5 6 turned;cloud 7 8 wants 7 turned"), 4);
        due(read(x, "  hand0 1wants2turned;grass 9 0 ; manor 0009 00000000000000000000008  "), 3);
        due(x.count(1), 7);
        int[] kinds = {0, 1, 2, 3, 4, 5, 6};
        int[] lefts = {1, 3, 5, 7, 0, 9, 9};
        int[] rights = {2, 4, 6, 8, 1, 0, 8};
        int[] wants = {-1, 0, -1, 7, 2, -1, -1};
        int[] turned = {0, 0, 1, 1, 1, 0, 0};
        for (int p = 0; p < 7; p++) {
            due(x.of(p, 0), kinds[p]);
            due(x.of(p, 1), lefts[p]);
            due(x.of(p, 2), rights[p]);
            due(x.of(p, 3), wants[p]);
            due(x.of(p, 4), turned[p]);
            due(x.of(p, 5), p);
        }
        due(x.count(5), 0);
        due(x.status(-1), 0);
    }

    private static void fault(CountyJigsaw x, String text, int fault) {
        due(read(x, text), -1 - fault);
        due(x.count(5), 0);
    }

    private static void faults() {
        promise(31);
        CountyJigsaw x = new CountyJigsaw();
        String[] texts = {"", "   ", "farm", "farm ", "farm 0", "farm 0 0;", "farm 0 0; ", ";", "0", "wants 3", "turned",
            "farmer 0 0", "far 0 0", "Farm 0 0", "farm 10 0", "farm 0 10", "farm 0 99999999999999999999", "farm 4294967296 0",
            "farm 0 0 0", "farm 0 0 wants", "farm 0 0 wants 8", "farm 0 0 wants 1 wants 2", "farm 0 0 turned turned",
            "farm 0 0 turned wants 1", "farm 0 0 sky 0 0", "farm 0 0;;sky 0 0", "farm 0 0,sky 0 0", "farm\t0 0",
            "farm -1 0", "swap", "swap 6 0 0", "swap 0 8 0", "swap 0 0 8", "swap 0 0", "swap 0 0 0 0", "lay 0 0",
            "sky 1 1;lay 0 1", "sky 1 1;lay 1 0", "sky 1 1;lay 0", "sky 1 1;lay 0 0 0", "sky 1 1;lay 0 0 turned",
            "sky 1 1;swap 0 0 0 turned", "farm ; 0", "farm 0 0 wants ;", "farm 0 0 ?", "farm 0 wants 1",
            "barm 0 0", "slap 0 0 0", "sway 0 0 0", "sky 1 1;bay 0 0", "sky 1 1 pants 0", "sky 1 1 burned", "zky 1 1", "{ky 1 1",
            "`ky 1 1", "sky : 1", "sky / 1", "sky 1 1 ;\u00f3"};
        int[] due = {0, 3, 4, 5, 6, 9, 10, 0, 0, 0, 0,
            0, 0, 0, 5, 7, 7, 5,
            9, 14, 15, 17, 16,
            16, 9, 9, 8, 4,
            5, 4, 5, 7, 9, 8, 11, 4,
            14, 12, 13, 16, 16,
            19, 5, 15, 9, 7,
            0, 0, 0, 8, 8, 8, 0, 0,
            0, 4, 4, 9};
        for (int i = 0; i < texts.length; i++) {
            fault(x, texts[i], due[i]);
        }
        due(x.status(-1), 0);
        due(x.count(1), 0);
        x.feed(0x736b79e1, 4);
        due(x.text(), -1 - 3);
        due(read(x, "sky 0 0;sky 0 0;sky 0 0;sky 0 0;sky 0 0;sky 0 0;sky 0 0"), 7);
        fault(x, "sky 0 0; sky 0 0", 9);
        fault(x, "sky 0 0; sky", 9);
        due(read(x, "sky 0 0; lay 7 0"), 2);
        fault(x, " sky 0 0", 1);
    }

    private static void textEffects() {
        promise(31);
        CountyJigsaw x = county(0, 1, 2);
        x.list(1, 4, 4);
        fault(x, "farm 1 1 wants 0 turned;swap 1 2 3;lay 0 1;lay 0 2", 49);
        due(x.count(1), 1);
        due(x.listed(1), 44);
        due(x.lies(0), 0);
        due(x.count(3), 0);
        due(read(x, "swap 1 2 3;farm 1 1;lay 0 1;swap 5 7 0;piece 3 3;lay 2 0"), 6);
        due(x.listed(1), 23);
        due(x.listed(5), 70);
        due(x.lies(0), 2);
        due(x.lies(1), 0);
        due(x.lies(2), 1);
        due(read(x, "lay 0 0"), 1);
    }

    private static void spots() {
        promise(32);
        CountyJigsaw x = county(0, 0, 0, 6, 0, 0);
        due(x.hold(0, 0), 1);
        due(x.hold(9, 1), 1);
        due(x.hold(3, -1), 1);
        due(x.count(7), 2);
        due(x.hold(0, -1), 1);
        due(x.count(7), 1);
        due(x.hold(10, 0), BEYOND);
        due(x.hold(-1, 0), BEYOND);
        due(x.hold(0, 2), BEYOND);
        due(x.hold(0, -2), BEYOND);
        promise(33);
        due(x.as(0, 0), MISSING);
        due(x.as(9, 0), 1);
        due(x.as(9, 1), 1);
        due(x.as(9, 6), 1);
        due(x.as(9, 2), KIND);
        due(x.as(10, 0), BEYOND);
        due(x.as(-1, 0), BEYOND);
        due(x.as(9, 7), BEYOND);
        due(x.as(0, -1), BEYOND);
        int[] uppers = {1, 1 + 2, 1 + 4, 1 + 4 + 8, 1 + 4 + 8 + 16, 1 + 32, 1 + 2 + 64};
        for (int kind = 0; kind < 7; kind++) {
            x.change(1, 0, kind);
            for (int upper = 0; upper < 7; upper++) {
                due(x.as(9, upper), (uppers[kind] >> upper & 1) == 1 ? 1 : KIND);
            }
        }
    }

    private static void sheets() {
        promise(34);
        CountyJigsaw x = new CountyJigsaw();
        due(x.sheet(0, 8, 40), 40);
        due(x.sheet(3, 16, 0), 0);
        due(x.write(3, 0, 0), BEYOND);
        due(x.sheet(1, 32, 7), 7);
        due(x.write(1, 6, 1), 1);
        due(x.write(1, 7, 1), BEYOND);
        due(x.sheet(4, 8, 1), BEYOND);
        due(x.sheet(-1, 8, 1), BEYOND);
        due(x.sheet(0, 7, 1), BEYOND);
        due(x.sheet(0, 64, -1), BEYOND);
        due(x.sheet(0, 8, -1), SIZE);
        due(x.sheet(0, 0, -1), SIZE);
        due(x.sheet(0, 8, MIN), SIZE);
        due(x.sheet(0, 8, 41), BEYOND);
        due(x.sheet(0, 0, 41), BEYOND);
        due(x.write(0, 39, 1), 1);
        due(x.sheet(0, 0, 40), 0);
        due(x.write(0, 0, 1), MISSING);
        // all numbers are 0 again, and so LEFT edges
        tell(x, 0, 8, 5, 5);
        x.sheet(0, 8, 2);
        x.piece(0, 7, 7);
        due(x.load(0), 1);
        due(x.of(0, 1), 0);
    }

    private static void writing() {
        promise(35);
        CountyJigsaw x = county(0, 1, 1);
        due(x.write(4, 0, 0), BEYOND);
        due(x.write(-1, 0, 0), BEYOND);
        due(x.write(0, 9, 0), MISSING);
        x.sheet(0, 8, 2);
        due(x.write(0, -1, 0), BEYOND);
        due(x.write(0, 2, 0), BEYOND);
        due(x.write(0, 0, 256 + 3), 1);
        due(x.load(0), 1);
        due(x.of(0, 1), 3);
        x.sheet(0, 16, 1);
        x.write(0, 0, 256 + 3);
        due(x.load(0), 0);
        x.write(0, 0, 65536 + 4);
        due(x.load(0), 1);
        due(x.of(0, 1), 4);
        x.sheet(0, 32, 1);
        x.write(0, 0, 65536 + 4);
        due(x.load(0), 0);
        x.write(0, 0, 5);
        due(x.load(0), 1);
        due(x.of(0, 1), 5);
    }

    private static void copies() {
        promise(36);
        CountyJigsaw x = county(0, 0, 0, 0, 0, 0, 0, 0, 0, 0, 0, 0, 0, 0, 0);
        tell(x, 0, 8, 1, 2, 3, 4, 5);
        x.sheet(1, 8, 5);
        x.sheet(2, 16, 5);
        due(x.copy(4, 0, 0, 0, 1), BEYOND);
        due(x.copy(0, 0, 4, 0, 1), BEYOND);
        due(x.copy(-1, 0, 3, 0, 1), BEYOND);
        due(x.copy(3, 0, 0, 0, 1), MISSING);
        due(x.copy(0, -1, 3, 0, 1), MISSING);
        due(x.copy(0, -1, 2, 0, 1), KIND);
        due(x.copy(0, -1, 1, 0, 1), BEYOND);
        due(x.copy(0, 0, 1, -1, 1), BEYOND);
        due(x.copy(0, 0, 1, 0, -1), BEYOND);
        due(x.copy(0, 1, 1, 0, 5), BEYOND);
        due(x.copy(0, 0, 1, 1, 5), BEYOND);
        due(x.copy(0, 6, 1, 0, 0), BEYOND);
        due(x.copy(0, MAX, 1, MAX, MAX), BEYOND);
        due(x.copy(0, 5, 1, 5, 0), 0);
        due(x.copy(0, 1, 1, 2, 3), 3);
        lefts(x, 1, 0, 0, 2, 3, 4);
        due(x.copy(0, 0, 0, 1, 4), 4);
        lefts(x, 0, 1, 1, 2, 3, 4);
        due(x.copy(0, 2, 0, 0, 3), 3);
        lefts(x, 0, 2, 3, 4, 3, 4);
        due(x.copy(0, 0, 1, 0, 5), 5);
        lefts(x, 1, 2, 3, 4, 3, 4);
    }

    /** Loads a sheet, and asks that the LEFT edges are the numbers. */
    private static void lefts(CountyJigsaw x, int s, int... numbers) {
        due(x.load(s), numbers.length);
        for (int p = 0; p < numbers.length; p++) {
            due(x.of(p, 1), numbers[p]);
        }
    }

    private static void loads() {
        promise(37);
        CountyJigsaw x = county(0, 5, 6, 0, 5, 6, 0, 5, 6);
        x.change(0, 4, 1);
        due(x.load(4), BEYOND);
        due(x.load(-1), BEYOND);
        due(x.load(0), MISSING);
        tell(x, 0, 8);
        due(x.load(0), 0);
        tell(x, 0, 8, 9, 0, 10, 1);
        due(x.load(0), 2);
        due(x.of(0, 1), 9);
        due(x.of(0, 2), 6);
        due(x.of(1, 1), 0);
        due(x.of(2, 1), 5);
        tell(x, 0, 8, -1, 3, 3);
        due(x.load(0), 0);
        due(x.of(1, 1), 0);
        tell(x, 0, 8, 1, 2, 3, 4, 5);
        due(x.load(0), 3);
        due(x.of(2, 1), 3);
        tell(x, 0, 8, 7);
        due(x.load(0), 1);
        due(x.of(1, 1), 2);
    }

    private static void judging() {
        promise(38);
        CountyJigsaw x = county(0, 0, 0, 0, 0, 0, 0, 0, 0);
        x.swap(0, 2);
        due(x.judge(4), BEYOND);
        due(x.judge(-1), BEYOND);
        due(x.judge(0), MISSING);
        tell(x, 0, 8, 2, 1, 0);
        due(x.judge(0), 0);
        tell(x, 0, 8, 2, 0, 1);
        due(x.judge(0), 2);
        tell(x, 0, 8, 0, 1, 2);
        due(x.judge(0), 1);
        tell(x, 0, 8, 2, 1, -1);
        due(x.judge(0), 3);
        tell(x, 0, 8, 2, 1, 0, 0);
        due(x.judge(0), 4);
        tell(x, 0, 8, 2, 1);
        due(x.judge(0), 0);
        tell(x, 0, 8);
        due(x.judge(0), 0);
    }

    private static void images() {
        CountyJigsaw x = county(4, 1, 2, 1, 3, 4);
        x.change(0, 3, 1);
        x.change(1, 4, 1);
        x.list(0, 0, 1);
        x.hold(2, 1);
        x.seed(77);
        x.go(2);
        promise(39);
        due(x.image(), 1);
        x.go(5);
        x.tip(3);
        x.piece(2, 1, 1);
        x.change(0, 0, 2);
        x.change(0, 3, -1);
        x.change(1, 4, 0);
        x.change(1, 2, 9);
        x.hold(2, -1);
        x.hold(3, 2);
        x.list(4, 5, 5);
        x.feed(65, 1);
        tell(x, 0, 8, 8);
        promise(40);
        due(x.undo(), 2);
        due(x.count(0), 2);
        due(x.count(1), 2);
        due(x.of(0, 0), 4);
        due(x.of(0, 1), 1);
        due(x.of(0, 3), 1);
        due(x.of(1, 4), 1);
        due(x.of(1, 2), 4);
        due(x.of(0, 5), 1);
        due(x.count(6), 77);
        due(x.count(7), 1);
        due(x.as(2, 1), 1);
        due(x.listed(0), 1);
        due(x.listed(4), 0);
        due(x.count(5), 1);
        due(x.load(0), 1);
        x.go(1);
        due(x.undo(), 2);
        due(x.of(0, 1), 1);
        x.go(1);
        due(x.image(), 1);
        x.go(1);
        due(x.undo(), 3);
        promise(41);
        due(x.tear(), 1);
        due(x.tear(), 0);
        due(x.undo(), NONE);
        due(x.count(0), 3);
    }

    private static void counts() {
        promise(42);
        CountyJigsaw x = county(0, 1, 2, 0, 4, 8, 0, 3, 3);
        x.change(0, 3, 1);
        x.change(1, 3, 2);
        x.change(2, 3, 0);
        x.change(2, 4, 1);
        x.feed(0, 3);
        x.seed(-5);
        x.hold(1, 1);
        x.hold(2, 1);
        x.go(1);
        due(x.count(0), 1);
        due(x.count(1), 3);
        due(x.count(2), 11);
        due(x.count(3), 1);
        due(x.count(4), 2);
        due(x.count(5), 3);
        due(x.count(6), -5);
        due(x.count(7), 2);
        due(x.count(8), BEYOND);
        due(x.count(-1), BEYOND);
        due(x.status(-1), 2);
    }

    private static void statuses() {
        promise(43);
        CountyJigsaw x = county(0, 1, 1);
        x.lies(9);
        x.lies(9);
        for (int i = 0; i < 7; i++) {
            x.piece(0, 0, 0);
        }
        x.piece(0, 0, 0);
        x.hold(0, 0);
        x.as(0, 1);
        x.undo();
        x.undo();
        x.undo();
        x.load(0);
        x.sheet(0, 8, -1);
        x.odds(11, 0);
        x.image();
        x.text();
        int[] due = {3, 1, 1, 3, 0, 1, 1};
        for (int which = 0; which < 7; which++) {
            due(x.status(which), due[which]);
        }
        due(x.status(-1), 10);
        due(x.status(7), BEYOND);
        due(x.status(-2), BEYOND);
        due(x.status(0), 5);
        due(x.status(-1), 12);
        x.undo();
        due(x.status(-1), 12);
        x.seed(-2000000);
        x.count(6);
        x.seed(1);
        due(x.status(-1), 12);
    }
}
