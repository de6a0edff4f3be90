import java.util.Arrays;

/** Promises 13 to 28, with the terms that they use: a test for each sentence that names a boundary. */
public final class BoundsOfLayingTest {

    public static void main(String[] args) throws Exception {
        Bounds.runAll(BoundsOfLayingTest.class, 13, 28);
    }

    /** Two alike, whose places are swapped in YEARS 3, 9, .., 99. */
    private static CountyJigsaw pair() {
        CountyJigsaw x = Bounds.county(0, 0, 0, 0, 0, 1);
        x.list(3, 0, 1);
        return x;
    }

    // ---- 13: ahead

    /** "of a PIECE .. BEYOND." */
    private static void p13PieceIsOneThatThereIs() {
        Bounds.asks(Bounds::one, x -> x.ahead(0, 1, 3), 4);
        Bounds.asks(Bounds::full, x -> x.ahead(0, 1, 0), 2);
        Bounds.asks(Bounds::full, x -> x.ahead(7, 1, 0), 9);
        Bounds.refusesNoPiece((x, v) -> x.ahead(v, 1, 1));
        Bounds.refusesNoPiece((x, v) -> x.ahead(v, 5, 0));
    }

    /** "What 1, 5 (as in of())": no other */
    private static void p13WhatIs1Or5() {
        Bounds.asks(Bounds::three, x -> x.ahead(0, 1, 0), 3);
        Bounds.asks(Bounds::three, x -> x.ahead(0, 5, 0), 1);
        for (int what : new int[] {Bounds.MIN, -1, 0, 2, 3, 4, 6, 7, Bounds.MAX}) {
            Bounds.refuses(Bounds::three, x -> x.ahead(0, what, 0), Bounds.BEYOND);
            Bounds.refuses(Bounds::full, x -> x.ahead(7, what, 100), Bounds.BEYOND);
        }
    }

    /** "behind n (0 to 100) YEARS": the 100th from YEAR 0 is YEAR 99, which swaps; the 99th is YEAR 98, which cuts */
    private static void p13YearsAre0To100() {
        Bounds.asks(BoundsOfLayingTest::pair, x -> x.ahead(0, 5, 0), 0);
        Bounds.asks(BoundsOfLayingTest::pair, x -> x.ahead(0, 5, 99), 0);
        Bounds.asks(BoundsOfLayingTest::pair, x -> x.ahead(0, 5, 100), 1);
        Bounds.asks(BoundsOfLayingTest::pair, x -> x.ahead(0, 1, 0), 0);
        Bounds.asks(BoundsOfLayingTest::pair, x -> x.ahead(0, 1, 98), 2);
        Bounds.asks(BoundsOfLayingTest::pair, x -> x.ahead(0, 1, 99), 3);
        Bounds.asks(BoundsOfLayingTest::pair, x -> x.ahead(0, 1, 100), 3);
        for (Bounds.Made made : Bounds.SIZES) {
            Bounds.refusesOutside(made, 0, 100, (x, v) -> x.ahead(0, 1, v));
            Bounds.refusesOutside(made, 0, 100, (x, v) -> x.ahead(0, 5, v));
        }
    }

    /** "YEAR is one more (99999 at most)": what will be from the last one on has it as often as is asked */
    private static void p13YearStaysAtItsEnd() {
        Bounds.asks(() -> Bounds.in(99999), x -> x.ahead(0, 1, 100), Bounds.in(99999).of(0, 1));
        int place = Bounds.in(99999).of(0, 5);
        Bounds.asks(() -> Bounds.in(99999), x -> x.ahead(0, 5, 1), 1 - place);
        Bounds.asks(() -> Bounds.in(99999), x -> x.ahead(0, 5, 100), place);
    }

    // ---- 14: sum

    /** "SUM behind n (0 to 100) YEARS. BEYOND." */
    private static void p14YearsAre0To100() {
        Bounds.asks(BoundsOfLayingTest::pair, x -> x.sum(0), 0 + 0 + 1);
        // behind 99: 3 and 3 in the row 0, 1; behind 100: the row 1, 0
        Bounds.asks(BoundsOfLayingTest::pair, x -> x.sum(99), 3 + 3 + 1);
        Bounds.asks(BoundsOfLayingTest::pair, x -> x.sum(100), 3 + 2 + 0);
        for (Bounds.Made made : Bounds.SIZES) {
            Bounds.refusesOutside(made, 0, 100, (x, v) -> x.sum(v));
        }
    }

    /** "SUM .. (0 without PIECES)" */
    private static void p14NoPieces() {
        Bounds.asks(Bounds::empty, x -> x.sum(0), 0);
        Bounds.asks(Bounds::empty, x -> x.sum(100), 0);
    }

    // ---- 15: when

    /** "SUM is v (0 to 999) or less" */
    private static void p15ToldSumIs0To999() {
        Bounds.asks(() -> Bounds.county(0, 0, 0), x -> x.when(0), 0);
        Bounds.asks(Bounds::full, x -> x.when(999), 0);
        for (Bounds.Made made : Bounds.SIZES) {
            Bounds.refusesOutside(made, 0, 999, (x, v) -> x.when(v));
        }
    }

    /** "is v .. or less": as much does, one less doesn't */
    private static void p15AsMuchWillDo() {
        Bounds.asks(() -> Bounds.county(0, 7, 1), x -> x.when(9), 0);
        Bounds.asks(() -> Bounds.county(0, 7, 1), x -> x.when(8), 0);
        Bounds.asks(() -> Bounds.county(0, 7, 1), x -> x.when(7), 9);
        Bounds.asks(() -> Bounds.county(0, 7, 1), x -> x.when(1), 9);
        Bounds.refuses(() -> Bounds.county(0, 7, 1), x -> x.when(0), Bounds.NONE);
    }

    /** "(0 to 200, the fewest)": none to wait where it is so now; without PIECES, too */
    private static void p15NoYearsToWait() {
        Bounds.asks(Bounds::empty, x -> x.when(0), 0);
        Bounds.asks(Bounds::one, x -> x.when(7), 0);
    }

    /** SUM is 11 for the first time behind 201 YEARS, as the walk below tells. */
    private static CountyJigsaw late() {
        CountyJigsaw x = Bounds.county(1, 5, 0, 6, 5, 8, 4, 4, 6, 5, 4, 0, 4, 8, 5, 5, 4, 6, 3, 2, 9, 6, 9, 5);
        int[] swaps = {16, 32, 26, 54, 65, 67};
        for (int i = 0; i <= 5; i++) {
            x.list(i, swaps[i] / 10, swaps[i] % 10);
        }
        return x;
    }

    /** "(0 to 200, the fewest)"; "NONE.": behind 200 YEARS it counts, behind 201 it doesn't */
    private static void p15At200AndAt201() {
        CountyJigsaw walked = late();
        int years = 0;
        while (walked.count(2) > 11 && years < 300) {
            walked.go(1);
            years++;
        }
        Bounds.due(years, 201);
        Bounds.refuses(BoundsOfLayingTest::late, x -> x.when(11), Bounds.NONE);
        Bounds.asks(() -> {
            CountyJigsaw x = late();
            x.go(1);
            return x;
        }, x -> x.when(11), 200);
        Bounds.asks(() -> {
            CountyJigsaw x = late();
            x.go(2);
            return x;
        }, x -> x.when(11), 199);
    }

    // ---- 16: comes

    /** "a PIECE .. BEYOND." */
    private static void p16PieceIsOneThatThereIs() {
        Bounds.asks(Bounds::one, x -> x.comes(0, 0), 0);
        Bounds.asks(Bounds::full, x -> x.comes(7, 7), 0);
        Bounds.refusesNoPiece((x, v) -> x.comes(v, 0));
        Bounds.refusesNoPiece((x, v) -> x.comes(v, 7));
    }

    /** "a place (0 to 7)" */
    private static void p16PlaceIs0To7() {
        Bounds.asks(Bounds::full, x -> x.comes(0, 0), 0);
        Bounds.asks(Bounds::full, x -> x.comes(0, 7), 2);
        for (Bounds.Made made : Bounds.SIZES) {
            Bounds.refusesOutside(made, 0, 7, (x, v) -> x.comes(0, v));
        }
    }

    /** "NONE.": for a place that no SWAP brings, and for one of the eight that THE ROW hasn't */
    private static void p16NeverComes() {
        Bounds.refuses(Bounds::one, x -> x.comes(0, 1), Bounds.NONE);
        Bounds.refuses(Bounds::one, x -> x.comes(0, 7), Bounds.NONE);
        Bounds.refuses(Bounds::three, x -> x.comes(0, 0), Bounds.NONE);
        Bounds.refuses(Bounds::three, x -> x.comes(2, 3), Bounds.NONE);
        Bounds.refuses(BoundsOfLayingTest::pair, x -> x.comes(0, 2), Bounds.NONE);
    }

    private static CountyJigsaw eightWithSwaps(int... swaps) {
        CountyJigsaw x = new CountyJigsaw();
        for (int p = 0; p <= 7; p++) {
            x.piece(0, 0, 0);
        }
        for (int i = 0; i < swaps.length; i++) {
            x.list(i, swaps[i] / 10, swaps[i] % 10);
        }
        return x;
    }

    /** Behind how many YEARS a PIECE lies in a place (place 0 or more) or ahead of another at once; -1: never. */
    private static int walked(int[] swaps, int piece, int place, int want) {
        int[] row = {0, 1, 2, 3, 4, 5, 6, 7};
        for (int n = 0; n <= 200; n++) {
            int at = 0;
            while (row[at] != piece) {
                at++;
            }
            if (at == place || (place < 0 && at < 7 && row[at + 1] == want)) {
                return n;
            }
            int swap = swaps[n % 6];
            int lay = row[swap / 10];
            row[swap / 10] = row[swap % 10];
            row[swap % 10] = lay;
        }
        return -1;
    }

    /** "Behind how many YEARS (0 to 200, the fewest)": round a ring of seven places, and never in the eighth */
    private static void p16LongWays() {
        int[] ring = {1, 12, 23, 34, 45, 56};
        Bounds.due(walked(ring, 5, 6, -1), 36);
        for (int p = 0; p <= 7; p++) {
            for (int place = 0; place <= 7; place++) {
                int piece = p;
                int to = place;
                int n = walked(ring, p, place, -1);
                if (n < 0) {
                    Bounds.refuses(() -> eightWithSwaps(ring), x -> x.comes(piece, to), Bounds.NONE);
                } else {
                    Bounds.asks(() -> eightWithSwaps(ring), x -> x.comes(piece, to), n);
                }
            }
        }
    }

    // ---- 17: granted

    /** "a PIECE .. BEYOND." */
    private static void p17PieceIsOneThatThereIs() {
        Bounds.asks(Bounds::three, x -> x.granted(0), 0);
        Bounds.refuses(Bounds::three, x -> x.granted(2), Bounds.NONE);
        Bounds.refuses(Bounds::full, x -> x.granted(7), Bounds.NONE);
        Bounds.refusesNoPiece((x, v) -> x.granted(v));
    }

    /** "NONE.": without a WANT, with one that isn't there, with itself, with one that no SWAP brings */
    private static void p17NeverGranted() {
        for (int want : new int[] {-1, 0, 1, 3, 7}) {
            Bounds.refuses(() -> {
                CountyJigsaw x = Bounds.county(0, 0, 0, 0, 0, 0, 0, 0, 0);
                x.swap(0, 1);
                x.change(0, 3, want);
                return x;
            }, x -> x.granted(0), Bounds.NONE);
        }
        Bounds.refuses(Bounds::one, x -> x.granted(0), Bounds.NONE);
    }

    /** What lies last is ahead of none, also not of what lies first. */
    private static void p17LastIsAheadOfNone() {
        Bounds.refuses(() -> {
            CountyJigsaw x = eightWithSwaps(0);
            x.change(7, 3, 0);
            return x;
        }, x -> x.granted(7), Bounds.NONE);
        Bounds.asks(() -> {
            CountyJigsaw x = eightWithSwaps(0);
            x.change(6, 3, 7);
            return x;
        }, x -> x.granted(6), 0);
    }

    /** "Behind how many YEARS (0 to 200, the fewest)" */
    private static void p17LongWays() {
        int[] swaps = {35, 40, 37, 67, 52, 1};
        Bounds.due(walked(swaps, 6, -1, 4), 55);
        for (int p = 0; p <= 7; p++) {
            for (int want = 0; want <= 7; want++) {
                int piece = p;
                int told = want;
                Bounds.Made made = () -> {
                    CountyJigsaw x = eightWithSwaps(swaps);
                    x.change(piece, 3, told);
                    return x;
                };
                int n = walked(swaps, p, -1, want);
                if (n < 0) {
                    Bounds.refuses(made, x -> x.granted(piece), Bounds.NONE);
                } else {
                    Bounds.asks(made, x -> x.granted(piece), n);
                }
            }
        }
    }

    // ---- 18, 19: best, bestAt

    /** PIECES that close only in one order, told in another: order[i] is which of the chain PIECE i is. */
    private static CountyJigsaw chain(int... order) {
        CountyJigsaw x = new CountyJigsaw();
        for (int link : order) {
            x.piece(0, link, link == order.length - 1 ? 0 : link + 1);
        }
        return x;
    }

    /** "SUM of THE BEST LAYING": 0 without PIECES, EDGES alone of one, and of eight */
    private static void p18FromNoneToEight() {
        Bounds.asks(Bounds::empty, x -> x.best(), 0);
        Bounds.asks(() -> Bounds.county(0, 9, 9), x -> x.best(), 18);
        Bounds.asks(() -> Bounds.county(4, 9, 9), x -> x.best(), 10);
        Bounds.asks(() -> chain(1, 0), x -> x.best(), 0);
        Bounds.asks(() -> chain(2, 0, 1), x -> x.best(), 0);
        Bounds.asks(() -> chain(3, 7, 1, 0, 6, 2, 5, 4), x -> x.best(), 0);
        Bounds.asks(() -> chain(7, 6, 5, 4, 3, 2, 1, 0), x -> x.best(), 0);
    }

    /** None are there again when undo() took away all that were weighed. */
    private static void p18NoneBehindAnUndo() {
        Bounds.asks(() -> {
            CountyJigsaw x = Bounds.empty();
            x.image();
            x.piece(0, 9, 9);
            x.piece(0, 9, 9);
            x.best();
            x.undo();
            return x;
        }, x -> x.best(), 0);
    }

    /** THE BEST LAYING is by the GAPS of now: a HAND's with YEAR modulo 3 */
    private static void p18HandsByTheYear() {
        int[] dues = {0, 1, 2, 0};
        for (int year = 0; year <= 3; year++) {
            int years = year;
            Bounds.asks(() -> {
                CountyJigsaw x = Bounds.county(4, 5, 0, 5, 0, 9);
                for (int i = 0; i < years; i++) {
                    x.go(1);
                }
                x.change(0, 1, 0);
                return x;
            }, x -> x.best(), 1 + 0 + dues[year]);
        }
    }

    /** "BEYOND: THE ROW hasn't it." */
    private static void p19PlaceIsOneOfTheRow() {
        Bounds.asks(Bounds::one, x -> x.bestAt(0), 0);
        Bounds.asks(() -> chain(2, 0, 1), x -> x.bestAt(0), 1);
        Bounds.asks(() -> chain(2, 0, 1), x -> x.bestAt(2), 0);
        Bounds.refusesNoPiece((x, v) -> x.bestAt(v));
    }

    /** Of eight, each place. */
    private static void p19AllEightPlaces() {
        int[] lying = {3, 2, 5, 0, 7, 6, 4, 1};
        for (int place = 0; place <= 7; place++) {
            int asked = place;
            Bounds.asks(() -> chain(3, 7, 1, 0, 6, 2, 5, 4), x -> x.bestAt(asked), lying[place]);
        }
    }

    /** "of all orders": not that which begins best */
    private static void p19NotThatWhichBeginsBest() {
        // the MANOR first: 0 + 6 + 0, last: 1 + 0 + 0
        Bounds.asks(() -> Bounds.county(6, 0, 5, 0, 1, 0), x -> x.bestAt(0), 1);
        Bounds.asks(() -> Bounds.county(6, 0, 5, 0, 1, 0), x -> x.bestAt(1), 0);
    }

    /** "of several that with the least number in place 0": however THE ROW lies */
    private static void p19LeastNumberInPlace0() {
        // either way round gives 1 + 0 + 1
        Bounds.asks(() -> Bounds.county(0, 1, 1, 0, 1, 1), x -> x.bestAt(0), 0);
        Bounds.asks(() -> {
            CountyJigsaw x = Bounds.county(0, 1, 1, 0, 1, 1);
            x.swap(0, 1);
            return x;
        }, x -> x.bestAt(0), 0);
    }

    /** "then in place 1, and so on" */
    private static void p19LeastNumberInTheNextPlaces() {
        Bounds.Made alike = () -> {
            CountyJigsaw x = eightWithSwaps(0);
            for (int p = 0; p <= 3; p++) {
                x.swap(p, 7 - p);
            }
            return x;
        };
        for (int place = 0; place <= 7; place++) {
            int asked = place;
            Bounds.asks(alike, x -> x.bestAt(asked), place);
        }
        // 2 must be first (0), the others between are alike
        int[] lying = {2, 0, 1, 3};
        for (int place = 0; place <= 3; place++) {
            int asked = place;
            Bounds.asks(() -> Bounds.county(0, 5, 5, 0, 5, 5, 0, 0, 5, 0, 5, 5), x -> x.bestAt(asked), lying[place]);
        }
    }

    // ---- 20: settle

    /** "As often as any exchange .. gives a less SUM": none does without PIECES, or of one */
    private static void p20NoneToExchange() {
        Bounds.asks(Bounds::empty, x -> x.settle(), 0);
        Bounds.asks(Bounds::one, x -> x.settle(), 0);
    }

    /** "gives a less SUM": as much is not less */
    private static void p20AsMuchIsNotLess() {
        Bounds.asks(() -> Bounds.county(0, 5, 5, 0, 5, 5), x -> x.settle(), 0);
        Bounds.asks(() -> eightWithSwaps(0), x -> x.settle(), 0);
        Bounds.row(Bounds.acts(() -> Bounds.county(0, 5, 1, 0, 0, 5), x -> x.settle(), 1), 1, 0);
    }

    /** "that which gives the least": not the first that gives less */
    private static void p20TheLeastIsMade() {
        // now 18; 0 with 1: 8, 0 with 2: 2, 1 with 2: 12
        CountyJigsaw x = Bounds.acts(() -> Bounds.county(0, 6, 0, 0, 3, 5, 0, 0, 4), y -> y.settle(), 1);
        Bounds.row(x, 2, 1, 0);
        Bounds.due(x.count(2), 2);
    }

    /** "of several that of the lesser first place" */
    private static void p20LesserFirstPlace() {
        // now 12; 0 with 1: 6, 0 with 2: 12, 1 with 2: 6
        Bounds.row(Bounds.acts(() -> Bounds.county(0, 4, 4, 0, 0, 0, 0, 3, 1), x -> x.settle(), 1), 1, 0, 2);
        // now 11; 0 with 1: 11, 0 with 2: 9, 1 with 2: 9
        Bounds.row(Bounds.acts(() -> Bounds.county(0, 5, 1, 0, 5, 1, 0, 1, 2), x -> x.settle(), 1), 2, 1, 0);
    }

    /** "then of the lesser second one" */
    private static void p20LesserSecondPlace() {
        // now 11; 0 with 1: 5, 0 with 2: 5, 1 with 2: 13
        Bounds.row(Bounds.acts(() -> Bounds.county(0, 5, 2, 0, 3, 5, 0, 1, 1), x -> x.settle(), 1), 1, 0, 2);
    }

    /** Any two of eight places. */
    private static void p20AnyTwoPlaces() {
        for (int a = 0; a <= 7; a++) {
            for (int b = a + 1; b <= 7; b++) {
                int first = a;
                int second = b;
                Bounds.row(Bounds.acts(() -> {
                    CountyJigsaw x = chain(0, 1, 2, 3, 4, 5, 6, 7);
                    x.swap(first, second);
                    return x;
                }, x -> x.settle(), 1), 0, 1, 2, 3, 4, 5, 6, 7);
            }
        }
    }

    /** "how often": until none betters */
    private static void p20HowOften() {
        CountyJigsaw x = Bounds.acts(() -> Bounds.county(0, 4, 2, 0, 0, 0, 0, 3, 3), y -> y.settle(), 2);
        Bounds.row(x, 2, 0, 1);
        Bounds.due(x.now(7), 1);
        Bounds.due(x.settle(), 0);
    }

    // ---- 21, 22: edgeFor, kindFor

    /** "a PIECE .. BEYOND." */
    private static void p21PieceIsOneThatThereIs() {
        Bounds.asks(Bounds::one, x -> x.edgeFor(0), 0);
        Bounds.asks(() -> chain(0, 1, 2, 3, 4, 5, 6, 7), x -> x.edgeFor(0), 0);
        Bounds.asks(() -> chain(0, 1, 2, 3, 4, 5, 6, 7), x -> x.edgeFor(7), 7);
        Bounds.refusesNoPiece((x, v) -> x.edgeFor(v));
    }

    /** "The LEFT edge": from 0 to 9 */
    private static void p21EdgeIs0To9() {
        for (int right = 0; right <= 9; right++) {
            int told = right;
            Bounds.asks(() -> Bounds.county(0, 0, told, 0, 5, 0), x -> x.edgeFor(1), right);
        }
        Bounds.asks(() -> Bounds.county(5, 0, 0), x -> x.edgeFor(0), 9);
        Bounds.asks(() -> Bounds.county(0, 9, 9), x -> x.edgeFor(0), 0);
    }

    /** "of several that would do the least number counts" */
    private static void p21LeastOfSeveral() {
        Bounds.asks(() -> Bounds.county(6, 5, 5), x -> x.edgeFor(0), 0);
        Bounds.asks(() -> Bounds.county(2, 9, 9), x -> x.edgeFor(0), 0);
        // behind one MANOR with 3, behind the other with 7: 4 both times
        Bounds.asks(() -> Bounds.county(6, 7, 3, 6, 3, 7, 0, 0, 0), x -> x.edgeFor(2), 3);
    }

    /** "(as told)": of a TURNED one it is that which shows on the right */
    private static void p21AsToldOfATurnedOne() {
        Bounds.asks(() -> Bounds.county(0, 3, 0, 0, 6, 0), x -> x.edgeFor(0), 0);
        Bounds.asks(() -> {
            CountyJigsaw x = Bounds.county(0, 3, 0, 0, 6, 0);
            x.change(0, 4, 1);
            return x;
        }, x -> x.edgeFor(0), 6);
    }

    /** "BEYOND." */
    private static void p22PieceIsOneThatThereIs() {
        Bounds.asks(Bounds::one, x -> x.kindFor(0), 6);
        Bounds.asks(() -> chain(0, 1, 2, 3, 4, 5, 6, 7), x -> x.kindFor(0), 0);
        Bounds.asks(() -> chain(0, 1, 2, 3, 4, 5, 6, 7), x -> x.kindFor(7), 0);
        Bounds.refusesNoPiece((x, v) -> x.kindFor(v));
    }

    /** "The KIND of which it must be": from 0 to 6 (a HAND is never better than a CLOUD) */
    private static void p22KindIs0To6() {
        Bounds.asks(() -> Bounds.county(4, 0, 0), x -> x.kindFor(0), 0);
        Bounds.asks(() -> {
            CountyJigsaw x = Bounds.county(0, 0, 9, 0, 0, 0);
            x.change(0, 3, 1);
            return x;
        }, x -> x.kindFor(0), 1);
        Bounds.asks(() -> Bounds.county(0, 1, 1), x -> x.kindFor(0), 2);
        Bounds.asks(() -> Bounds.county(0, 1, 5, 0, 5, 0), x -> x.kindFor(0), 3);
        Bounds.asks(() -> Bounds.county(0, 9, 8), x -> x.kindFor(0), 6);
    }

    /** "of several that would do the least number counts" */
    private static void p22LeastOfSeveral() {
        // GRASS and MANOR give 0
        Bounds.asks(() -> Bounds.county(0, 9, 9), x -> x.kindFor(0), 5);
        // SKY, CLOUD and MANOR give 0
        Bounds.asks(() -> Bounds.county(6, 1, 0), x -> x.kindFor(0), 2);
    }

    // ---- 23: turn

    /** "SUM is v (0 to 999) or less" */
    private static void p23ToldSumIs0To999() {
        Bounds.asks(() -> Bounds.county(0, 0, 0), x -> x.turn(0), 0);
        Bounds.asks(Bounds::full, x -> x.turn(999), 0);
        for (Bounds.Made made : Bounds.SIZES) {
            Bounds.refusesOutside(made, 0, 999, (x, v) -> x.turn(v));
        }
    }

    private static CountyJigsaw turnable() {
        // by sets 0 to 7: 17, 17, 17, 11, 13, 13, 13, 7
        return Bounds.county(0, 7, 4, 0, 4, 8, 0, 2, 4);
    }

    /** "The set of fewest PIECES": none, if SUM is so now; one of a greater number before two of less */
    private static void p23FewestPieces() {
        Bounds.asks(BoundsOfLayingTest::turnable, x -> x.turn(18), 0);
        Bounds.asks(BoundsOfLayingTest::turnable, x -> x.turn(17), 0);
        Bounds.asks(BoundsOfLayingTest::turnable, x -> x.turn(16), 4);
        Bounds.asks(BoundsOfLayingTest::turnable, x -> x.turn(13), 4);
        Bounds.asks(BoundsOfLayingTest::turnable, x -> x.turn(12), 3);
        Bounds.asks(BoundsOfLayingTest::turnable, x -> x.turn(11), 3);
        Bounds.asks(BoundsOfLayingTest::turnable, x -> x.turn(10), 7);
        Bounds.asks(BoundsOfLayingTest::turnable, x -> x.turn(7), 7);
    }

    /** "NONE." */
    private static void p23NoSetGivesSoLittle() {
        Bounds.refuses(BoundsOfLayingTest::turnable, x -> x.turn(6), Bounds.NONE);
        Bounds.refuses(BoundsOfLayingTest::turnable, x -> x.turn(0), Bounds.NONE);
        Bounds.refuses(Bounds::one, x -> x.turn(6), Bounds.NONE);
    }

    /** Without PIECES SUM is 0, and there is none to turn. */
    private static void p23NoPieces() {
        Bounds.asks(Bounds::empty, x -> x.turn(0), 0);
    }

    /** "of several the least" */
    private static void p23LeastOfSeveral() {
        // to turn the first or the last gives 10, both 8
        Bounds.Made made = () -> Bounds.county(0, 2, 1, 0, 5, 5, 0, 4, 5);
        Bounds.asks(made, x -> x.turn(12), 0);
        Bounds.asks(made, x -> x.turn(11), 1);
        Bounds.asks(made, x -> x.turn(10), 1);
        Bounds.asks(made, x -> x.turn(9), 5);
    }

    /** All eight. */
    private static void p23AllEight() {
        Bounds.asks(() -> Bounds.county(0, 1, 0, 0, 2, 1, 0, 3, 2, 0, 4, 3, 0, 5, 4, 0, 6, 5, 0, 7, 6, 0, 0, 7),
            x -> x.turn(0), 255);
    }

    /** "TURNED (those that are, not any more)": the set tells which change */
    private static void p23ThoseThatAreNotAnyMore() {
        Bounds.Made made = () -> {
            CountyJigsaw x = turnable();
            x.change(0, 4, 1);
            x.change(2, 4, 1);
            return x;
        };
        Bounds.asks(made, x -> x.turn(13), 0);
        Bounds.asks(made, x -> x.turn(12), 2);
        Bounds.asks(made, x -> x.turn(10), 2);
        Bounds.refuses(made, x -> x.turn(6), Bounds.NONE);
    }

    // ---- 24, 25: fits, kinds

    private static CountyJigsaw told(int bits, int... numbers) {
        CountyJigsaw x = Bounds.one();
        Bounds.tell(x, 0, bits, numbers);
        return x;
    }

    /** "BEYOND: no such sheet." */
    private static void p24SheetIs0To3() {
        for (int s = 0; s <= 3; s++) {
            int asked = s;
            Bounds.asks(() -> {
                CountyJigsaw x = Bounds.one();
                Bounds.tell(x, asked, 8, 7);
                return x;
            }, x -> x.fits(asked, 0), 8);
        }
        for (Bounds.Made made : Bounds.SIZES) {
            Bounds.refusesOutside(made, 0, 3, (x, v) -> x.fits(v, 0));
        }
    }

    /** "MISSING." */
    private static void p24SheetIsMissing() {
        Bounds.refuses(Bounds::full, x -> x.fits(3, 0), Bounds.MISSING);
        Bounds.refuses(Bounds::one, x -> x.fits(0, 0), Bounds.MISSING);
        Bounds.refuses(() -> {
            CountyJigsaw x = told(8, 7);
            x.sheet(0, 0, 1);
            return x;
        }, x -> x.fits(0, 0), Bounds.MISSING);
    }

    /** "BEYOND: no such PIECE." */
    private static void p24PieceIsOneThatThereIs() {
        Bounds.asks(Bounds::full, x -> x.fits(2, 0), 100);
        Bounds.asks(Bounds::full, x -> x.fits(2, 7), 100);
        Bounds.refusesNoPiece(x -> x.sheet(2, 32, 0), (x, v) -> x.fits(2, v));
    }

    /** "BEYOND: no such sheet. MISSING. BEYOND: no such PIECE.": in this order */
    private static void p24MissingComesBeforeThePiece() {
        Bounds.refuses(Bounds::full, x -> x.fits(3, 8), Bounds.MISSING);
        Bounds.refuses(Bounds::full, x -> x.fits(3, -1), Bounds.MISSING);
        Bounds.refuses(Bounds::empty, x -> x.fits(0, 0), Bounds.MISSING);
        Bounds.refuses(Bounds::full, x -> x.fits(4, 8), Bounds.BEYOND);
    }

    /** "pairs of edges (LEFT, RIGHT, 0 to 9 both: 100 of them)" */
    private static void p24PairsAre0To9Both() {
        int[] sums = {0, 1, 9, 17, 18, 19};
        int[] pairs = {1, 2, 10, 2, 1, 0};
        for (int i = 0; i < sums.length; i++) {
            int sum = sums[i];
            Bounds.asks(() -> told(8, sum), x -> x.fits(0, 0), pairs[i]);
        }
        Bounds.asks(() -> told(8), x -> x.fits(0, 0), 100);
    }

    /** "(-1: any ..)": in all bits; -2 is no SUM */
    private static void p24MinusOneIsAny() {
        for (int bits : new int[] {8, 16, 32}) {
            Bounds.asks(() -> told(bits, -1), x -> x.fits(0, 0), 100);
            Bounds.asks(() -> told(bits, -2), x -> x.fits(0, 0), 0);
            Bounds.asks(() -> told(bits, -1, 18), x -> x.fits(0, 0), 1);
        }
    }

    /** "(.. the first 12 numbers alone are asked)" */
    private static void p24TwelveAreAsked() {
        int[] twelfth = new int[12];
        Arrays.fill(twelfth, -1);
        twelfth[11] = 500;
        Bounds.asks(() -> told(16, twelfth), x -> x.fits(0, 0), 0);
        int[] thirteenth = new int[40];
        Arrays.fill(thirteenth, 0, 12, -1);
        Bounds.asks(() -> told(16, thirteenth), x -> x.fits(0, 0), 100);
        thirteenth[12] = 500;
        Bounds.asks(() -> told(16, thirteenth), x -> x.fits(0, 0), 100);
    }

    /** "SUM now and behind each YEAR further on": the twelfth is behind 11 YEARS, with three cuts */
    private static void p24BehindEachYear() {
        int[] twelfth = new int[12];
        Arrays.fill(twelfth, -1);
        twelfth[0] = 9;
        twelfth[11] = 12;
        // LEFT 0 to 6 with RIGHT 9 to 3; from 7 on it wraps
        Bounds.asks(() -> told(16, twelfth), x -> x.fits(0, 0), 7);
        Bounds.asks(() -> told(8, 9, 9, 9, 10), x -> x.fits(0, 0), 9);
        Bounds.asks(() -> told(8, 9, 9, 9, 0), x -> x.fits(0, 0), 1);
        Bounds.asks(() -> told(8, 9, 9, 10), x -> x.fits(0, 0), 0);
        // in YEAR 2 the next number is behind a cut
        Bounds.asks(() -> {
            CountyJigsaw x = told(8, 9, 10);
            x.go(2);
            return x;
        }, x -> x.fits(0, 0), 9);
    }

    /** "BEYOND: no such sheet." */
    private static void p25SheetIs0To3() {
        for (int s = 0; s <= 3; s++) {
            int asked = s;
            Bounds.asks(() -> {
                CountyJigsaw x = Bounds.one();
                Bounds.tell(x, asked, 8, 7);
                return x;
            }, x -> x.kinds(asked, 0), 1 + 2);
        }
        for (Bounds.Made made : Bounds.SIZES) {
            Bounds.refusesOutside(made, 0, 3, (x, v) -> x.kinds(v, 0));
        }
    }

    /** "MISSING." */
    private static void p25SheetIsMissing() {
        Bounds.refuses(Bounds::full, x -> x.kinds(3, 0), Bounds.MISSING);
        Bounds.refuses(Bounds::one, x -> x.kinds(0, 0), Bounds.MISSING);
    }

    /** "BEYOND: no such PIECE." */
    private static void p25PieceIsOneThatThereIs() {
        Bounds.asks(Bounds::full, x -> x.kinds(2, 0), 127);
        Bounds.asks(Bounds::full, x -> x.kinds(2, 7), 127);
        Bounds.refusesNoPiece(x -> x.sheet(2, 32, 0), (x, v) -> x.kinds(2, v));
    }

    /** "BEYOND: no such sheet. MISSING. BEYOND: no such PIECE.": in this order */
    private static void p25MissingComesBeforeThePiece() {
        Bounds.refuses(Bounds::full, x -> x.kinds(3, 8), Bounds.MISSING);
        Bounds.refuses(Bounds::full, x -> x.kinds(3, -1), Bounds.MISSING);
        Bounds.refuses(Bounds::empty, x -> x.kinds(0, 0), Bounds.MISSING);
        Bounds.refuses(Bounds::full, x -> x.kinds(4, 8), Bounds.BEYOND);
    }

    /** "KINDS that it could be of, as a set": none, each, all */
    private static void p25NoneEachAndAll() {
        Bounds.asks(() -> told(8), x -> x.kinds(0, 0), 127);
        Bounds.asks(() -> told(8, 1), x -> x.kinds(0, 0), 0);
        Bounds.asks(() -> told(8, 3), x -> x.kinds(0, 0), 4 + 8);
        Bounds.asks(() -> told(8, 5), x -> x.kinds(0, 0), 16);
        Bounds.asks(() -> told(8, 11), x -> x.kinds(0, 0), 32);
        Bounds.asks(() -> told(8, 0), x -> x.kinds(0, 0), 64);
    }

    /** "likewise": -1 is any, twelve are asked */
    private static void p25Likewise() {
        int[] numbers = new int[13];
        Arrays.fill(numbers, -1);
        numbers[12] = 500;
        Bounds.asks(() -> told(8, numbers), x -> x.kinds(0, 0), 127);
        // LEFT behind three cuts: PIECE 6, FARM and MANOR 3, SKY 2, CLOUD 5, HAND 7, GRASS 3
        int[][] dues = {{10, 1}, {7, 2 + 16}, {3, 4}, {4, 8}, {11, 32}, {0, 64}};
        for (int[] due : dues) {
            int[] twelve = Arrays.copyOf(numbers, 12);
            twelve[11] = due[0];
            Bounds.asks(() -> told(8, twelve), x -> x.kinds(0, 0), due[1]);
        }
    }

    // ---- 26: tip

    private static int rest(long z) {
        return (int) ((z & 0xffffffffL) / 256 % 8);
    }

    private static long drawn(long z) {
        return z * 1103515245L + 12345L;
    }

    /** "n times (1 to 20)" */
    private static void p26TimesAre1To20() {
        Bounds.due(Bounds.acts(Bounds::empty, x -> x.tip(1), 0).count(0), 1);
        Bounds.due(Bounds.acts(Bounds::empty, x -> x.tip(20), 0).count(0), 20);
        for (Bounds.Made made : Bounds.SIZES) {
            Bounds.refusesOutside(made, 1, 20, (x, v) -> x.tip(v));
        }
        Bounds.refuses(Bounds::full, x -> x.tip(-20), Bounds.BEYOND);
    }

    /** "two draws": z wraps as an int, and a draw from one below 0 has no sign */
    private static void p26DrawsOfAnyNumber() {
        for (int z : new int[] {1, 0, -1, 2, 3, 7, 12345, -987654321, Bounds.MAX, Bounds.MIN}) {
            long first = drawn(z);
            long second = drawn((int) first);
            CountyJigsaw x = Bounds.acts(() -> {
                CountyJigsaw y = Bounds.empty();
                y.seed(z);
                return y;
            }, y -> y.tip(1), 0);
            Bounds.due(x.listed(0), 10 * rest(first) + rest(second));
            Bounds.due(x.count(6), (int) second);
        }
    }

    /** "THE LIST tells for this YEAR a SWAP": YEAR modulo 6, so the seventh comes to the first again */
    private static void p26ListIsToldRound() {
        CountyJigsaw x = Bounds.empty();
        int[] list = new int[6];
        int z = 1;
        for (int year = 0; year < 14; year++) {
            int first = (int) drawn(z);
            z = (int) drawn(first);
            list[year % 6] = 10 * rest(first) + rest(z);
            x.tip(1);
            for (int i = 0; i <= 5; i++) {
                Bounds.due(x.listed(i), list[i]);
            }
        }
        Bounds.due(Bounds.acts(Bounds::empty, y -> y.tip(14), 0).listed(1), list[1]);
    }

    /** Places of THE LIST that THE ROW hasn't are told, too, and nothing is exchanged; then a YEAR as any. */
    private static void p26PlacesThatTheRowHasNot() {
        for (Bounds.Made made : Bounds.SIZES) {
            CountyJigsaw x = made.make();
            CountyJigsaw like = made.make();
            for (int i = 0; i < 20; i++) {
                int first = (int) drawn(like.count(6));
                int second = (int) drawn(first);
                like.seed(second);
                like.list(like.count(0) % 6, rest(first), rest(second));
                Bounds.due(x.tip(1), like.go(1));
            }
            Bounds.same(x, like);
        }
    }

    /** "STATE: YEAR would be above 99999." */
    private static void p26YearIsAtMost99999() {
        Bounds.due(Bounds.acts(() -> Bounds.in(99979), x -> x.tip(20), tippedTo99999()).count(0), 99999);
        CountyJigsaw last = Bounds.in(99998);
        last.tip(1);
        Bounds.due(last.count(0), 99999);
        Bounds.due(last.status(-1), 0);
        Bounds.refuses(() -> Bounds.in(99980), x -> x.tip(20), Bounds.STATE);
        Bounds.refuses(() -> Bounds.in(99998), x -> x.tip(2), Bounds.STATE);
        Bounds.refuses(() -> Bounds.in(99999), x -> x.tip(1), Bounds.STATE);
    }

    private static int tippedTo99999() {
        CountyJigsaw x = Bounds.in(99979);
        for (int i = 0; i < 19; i++) {
            x.tip(1);
        }
        return x.tip(1);
    }

    /** "BEYOND. STATE": in this order */
    private static void p26BeyondComesBeforeState() {
        Bounds.refusesOutside(() -> Bounds.in(99999), 1, 20, (x, v) -> x.tip(v));
    }

    // ---- 27: odds

    /** "n (0 to 10) SWAPS" */
    private static void p27SwapsAre0To10() {
        Bounds.asks(() -> chain(0, 1, 2), x -> x.odds(0, 0), 1);
        Bounds.asks(() -> chain(0, 1, 2), x -> x.odds(0, 1), 1);
        Bounds.asks(() -> chain(0, 1, 2), x -> x.odds(10, 0), 420707233300201L);
        Bounds.asks(() -> chain(0, 1, 2), x -> x.odds(10, 1), 1125899906842624L);
        for (Bounds.Made made : Bounds.SIZES) {
            Bounds.refusesOutside(made, 0, 10, (x, v) -> x.odds(v, 0));
            Bounds.refusesOutside(made, 0, 10, (x, v) -> x.odds(v, 1));
        }
    }

    /** "above (what 0), below the line (1). BEYOND." */
    private static void p27WhatIs0Or1() {
        Bounds.asks(() -> chain(0, 1), x -> x.odds(1, 0), 31);
        Bounds.asks(() -> chain(0, 1), x -> x.odds(1, 1), 32);
        for (Bounds.Made made : Bounds.SIZES) {
            Bounds.refusesOutside(made, 0, 1, (x, v) -> x.odds(1, v));
            Bounds.refusesOutside(made, 0, 1, (x, v) -> x.odds(0, v));
        }
    }

    /** "(such as THE ROW hasn't both change nothing)": of all 64, from no PIECES to eight; "in lowest terms" */
    private static void p27FromNoPiecesToEight() {
        int[] above = {1, 1, 31, 29, 13, 11, 17, 11, 1};
        int[] below = {1, 1, 32, 32, 16, 16, 32, 32, 8};
        for (int pieces = 0; pieces <= 8; pieces++) {
            int[] order = new int[pieces];
            for (int i = 0; i < pieces; i++) {
                order[i] = i;
            }
            for (int n = 0; n <= 10; n++) {
                int swaps = n;
                Bounds.asks(() -> chain(order), x -> x.odds(swaps, 0), power(above[pieces], n));
                Bounds.asks(() -> chain(order), x -> x.odds(swaps, 1), power(below[pieces], n));
            }
        }
    }

    private static long power(long base, int n) {
        return n == 0 ? 1 : base * power(base, n - 1);
    }

    /** "no greater SUM than now": as much is no greater */
    private static void p27AsMuchIsNoGreater() {
        Bounds.asks(() -> eightWithSwaps(0), x -> x.odds(10, 0), 1);
        Bounds.asks(() -> eightWithSwaps(0), x -> x.odds(10, 1), 1);
        // any exchange gives less
        Bounds.asks(() -> chain(1, 0), x -> x.odds(3, 0), 1);
        Bounds.asks(() -> chain(1, 0), x -> x.odds(3, 1), 1);
    }

    // ---- 28: seed

    /** "z becomes v: what it was": any int, and none of them is a finding */
    private static void p28AnyNumber() {
        CountyJigsaw x = Bounds.empty();
        int was = 1;
        for (int v : new int[] {0, -1, Bounds.MIN, Bounds.MAX, Bounds.BEYOND, Bounds.SIZE, 1}) {
            Bounds.due(x.seed(v), was);
            Bounds.due(x.count(6), v);
            was = v;
        }
        Bounds.due(x.status(-1), 0);
    }
}
