import java.util.Arrays;

/** Promises 32 to 43, with the terms that they use: a test for each sentence that names a boundary. */
public final class BoundsOfSheetTest {

    public static void main(String[] args) throws Exception {
        Bounds.runAll(BoundsOfSheetTest.class, 32, 43);
    }

    /** Eight PIECES with LEFT 5, and one sheet. */
    private static CountyJigsaw eight(int s, int bits, int... numbers) {
        CountyJigsaw x = new CountyJigsaw();
        for (int p = 0; p <= 7; p++) {
            x.piece(0, 5, 0);
        }
        Bounds.tell(x, s, bits, numbers);
        return x;
    }

    private static void lefts(CountyJigsaw x, int... lefts) {
        for (int p = 0; p < lefts.length; p++) {
            Bounds.due(x.of(p, 1), lefts[p]);
        }
    }

    /** What a sheet of at most eight numbers, all of them 0 to 9, holds, seen as LEFT edges. */
    private static void numbers(CountyJigsaw x, int s, int... numbers) {
        Bounds.due(x.load(s), numbers.length);
        lefts(x, numbers);
        Bounds.due(x.write(s, numbers.length, 0), Bounds.BEYOND);
    }

    // ---- 32: hold

    /** "SPOTS 0 to 9"; "BEYOND." */
    private static void p32SpotIs0To9() {
        for (int spot = 0; spot <= 9; spot++) {
            int told = spot;
            CountyJigsaw x = Bounds.acts(Bounds::one, y -> y.hold(told, 0), 1);
            for (int other = 0; other <= 9; other++) {
                Bounds.due(x.as(other, 0), other == spot ? 0 : Bounds.MISSING);
            }
        }
        for (Bounds.Made made : Bounds.SIZES) {
            Bounds.refusesOutside(made, 0, 9, (x, v) -> x.hold(v, 0));
            Bounds.refusesOutside(made, 0, 9, (x, v) -> x.hold(v, -1));
        }
    }

    /** "A SPOT holds a PIECE, or nothing (-1)"; "BEYOND." */
    private static void p32PieceOrNothing() {
        Bounds.due(Bounds.acts(Bounds::full, x -> x.hold(3, 0), 1).as(3, 0), 0);
        Bounds.due(Bounds.acts(Bounds::full, x -> x.hold(3, 7), 1).as(3, 0), 7);
        Bounds.due(Bounds.acts(Bounds::full, x -> x.hold(9, -1), 1).as(9, 0), Bounds.MISSING);
        Bounds.due(Bounds.acts(Bounds::empty, x -> x.hold(9, -1), 1).as(9, 0), Bounds.MISSING);
        for (int i = 0; i < Bounds.SIZES.length; i++) {
            for (int spot : new int[] {0, 9}) {
                Bounds.refusesOutside(Bounds.SIZES[i], -1, Bounds.PIECES[i] - 1, (x, v) -> x.hold(spot, v));
            }
        }
    }

    /** One PIECE may be in several SPOTS, and a SPOT holds the latest. */
    private static void p32OneInSeveral() {
        CountyJigsaw x = Bounds.three();
        for (int spot = 0; spot <= 9; spot++) {
            Bounds.due(x.hold(spot, 1), 1);
        }
        Bounds.due(x.count(7), 10);
        Bounds.due(x.hold(9, 2), 1);
        Bounds.due(x.as(9, 0), 2);
        Bounds.due(x.as(8, 0), 1);
        Bounds.due(x.count(7), 10);
    }

    // ---- 33: as

    /** "What a SPOT holds": 0 to 9; "BEYOND." */
    private static void p33SpotIs0To9() {
        Bounds.asks(Bounds::full, x -> x.as(0, 0), 1);
        Bounds.asks(Bounds::full, x -> x.as(9, 0), 6);
        for (Bounds.Made made : Bounds.SIZES) {
            Bounds.refusesOutside(made, 0, 9, (x, v) -> x.as(v, 0));
        }
    }

    /** "one of a kind (0 to 6)"; "BEYOND." */
    private static void p33KindIs0To6() {
        Bounds.asks(Bounds::full, x -> x.as(9, 0), 6);
        Bounds.asks(Bounds::full, x -> x.as(9, 6), 6);
        Bounds.refusesOutside(Bounds::full, 0, 6, (x, v) -> x.as(0, v));
        Bounds.refusesOutside(Bounds::full, 0, 6, (x, v) -> x.as(9, v));
    }

    /** "MISSING: it holds nothing." */
    private static void p33HoldsNothing() {
        for (int kind = 0; kind <= 6; kind++) {
            int told = kind;
            Bounds.refuses(Bounds::full, x -> x.as(1, told), Bounds.MISSING);
            Bounds.refuses(Bounds::empty, x -> x.as(9, told), Bounds.MISSING);
        }
        Bounds.refuses(() -> {
            CountyJigsaw x = Bounds.full();
            x.hold(0, -1);
            return x;
        }, x -> x.as(0, 0), Bounds.MISSING);
    }

    /** "BEYOND. MISSING": in this order */
    private static void p33BeyondComesBeforeMissing() {
        Bounds.refusesOutside(Bounds::full, 0, 6, (x, v) -> x.as(1, v));
        Bounds.refusesOutside(Bounds::empty, 0, 6, (x, v) -> x.as(0, v));
    }

    /** "KIND: it isn't of that kind, nor of one under it." */
    private static void p33OfThatKindOrUnderIt() {
        int[] uppers = {1, 1 + 2, 1 + 4, 1 + 4 + 8, 1 + 4 + 8 + 16, 1 + 32, 1 + 2 + 64};
        for (int kind = 0; kind <= 6; kind++) {
            int told = kind;
            Bounds.Made made = () -> {
                CountyJigsaw x = Bounds.county(0, 0, 0, told, 0, 0);
                x.hold(4, 1);
                return x;
            };
            for (int upper = 0; upper <= 6; upper++) {
                int asked = upper;
                if ((uppers[kind] >> upper & 1) == 1) {
                    Bounds.asks(made, x -> x.as(4, asked), 1);
                } else {
                    Bounds.refuses(made, x -> x.as(4, asked), Bounds.KIND);
                }
            }
        }
    }

    // ---- 34: sheet

    /** "BEYOND: no such sheet" */
    private static void p34SheetIs0To3() {
        for (int s = 0; s <= 3; s++) {
            int told = s;
            CountyJigsaw x = Bounds.acts(Bounds::one, y -> y.sheet(told, 8, 1), 1);
            for (int other = 0; other <= 3; other++) {
                Bounds.due(x.load(other), other == s ? 1 : Bounds.MISSING);
            }
        }
        for (Bounds.Made made : Bounds.SIZES) {
            for (int bits : new int[] {0, 8, 16, 32}) {
                Bounds.refusesOutside(made, 0, 3, (x, v) -> x.sheet(v, bits, 1));
            }
        }
    }

    /** "of 8, 16 or 32 bits; bits 0: it is MISSING"; "BEYOND: .. other bits." */
    private static void p34BitsAre0Or8Or16Or32() {
        for (int bits : new int[] {8, 16, 32}) {
            Bounds.due(Bounds.acts(Bounds::empty, x -> x.sheet(2, bits, 3), 3).write(2, 2, 1), 1);
        }
        Bounds.due(Bounds.acts(Bounds::full, x -> x.sheet(0, 0, 3), 0).write(0, 0, 1), Bounds.MISSING);
        for (int bits : new int[] {Bounds.MIN, -32, -16, -8, -1, 1, 4, 7, 9, 15, 17, 24, 31, 33, 64, 128, Bounds.MAX}) {
            Bounds.refuses(Bounds::full, x -> x.sheet(0, bits, 3), Bounds.BEYOND);
            Bounds.refuses(Bounds::empty, x -> x.sheet(3, bits, 0), Bounds.BEYOND);
        }
    }

    /** "rows of at most 40 numbers"; "BEYOND: n is above 40." */
    private static void p34NumbersAreAtMost40() {
        for (int bits : new int[] {8, 16, 32}) {
            CountyJigsaw x = Bounds.acts(Bounds::empty, y -> y.sheet(1, bits, 40), 40);
            Bounds.due(x.write(1, 39, 1), 1);
            Bounds.due(x.write(1, 40, 1), Bounds.BEYOND);
            CountyJigsaw none = Bounds.acts(Bounds::full, y -> y.sheet(1, bits, 0), 0);
            Bounds.due(none.write(1, 0, 1), Bounds.BEYOND);
            Bounds.due(none.load(1), 0);
            Bounds.refuses(Bounds::full, y -> y.sheet(1, bits, 41), Bounds.BEYOND);
            Bounds.refuses(Bounds::full, y -> y.sheet(1, bits, Bounds.MAX), Bounds.BEYOND);
        }
    }

    /** "(0 if it is MISSING)"; n is asked with bits 0, too */
    private static void p34MissingAnswers0() {
        Bounds.acts(Bounds::full, x -> x.sheet(0, 0, 0), 0);
        Bounds.acts(Bounds::full, x -> x.sheet(0, 0, 40), 0);
        Bounds.asks(Bounds::full, x -> x.sheet(3, 0, 7), 0);
        Bounds.refuses(Bounds::full, x -> x.sheet(0, 0, 41), Bounds.BEYOND);
    }

    /** "SIZE: n is below 0 (also with bits 0)." */
    private static void p34BelowZeroIsSize() {
        for (int bits : new int[] {0, 8, 16, 32}) {
            for (int n : new int[] {-1, -40, Bounds.MIN}) {
                Bounds.refuses(Bounds::full, x -> x.sheet(0, bits, n), Bounds.SIZE);
                Bounds.refuses(Bounds::empty, x -> x.sheet(3, bits, n), Bounds.SIZE);
            }
        }
    }

    /** "BEYOND: no such sheet, other bits. SIZE": in this order */
    private static void p34BeyondComesBeforeSize() {
        Bounds.refusesOutside(Bounds::full, 0, 3, (x, v) -> x.sheet(v, 8, -1));
        Bounds.refuses(Bounds::full, x -> x.sheet(0, 7, -1), Bounds.BEYOND);
        Bounds.refuses(Bounds::full, x -> x.sheet(0, -1, -1), Bounds.BEYOND);
    }

    /** "A sheet has n numbers, all 0": also if it had others, and of more behind fewer */
    private static void p34AllAreZero() {
        for (int bits : new int[] {8, 16, 32}) {
            CountyJigsaw x = eight(0, 8, 1, 2, 3, 4, 5, 6, 7, 8);
            Bounds.due(x.sheet(0, 8, 3), 3);
            Bounds.due(x.sheet(0, bits, 8), 8);
            numbers(x, 0, 0, 0, 0, 0, 0, 0, 0, 0);
        }
        CountyJigsaw x = eight(0, 8, 1, 2, 3);
        x.sheet(0, 0, 0);
        x.sheet(0, 8, 3);
        numbers(x, 0, 0, 0, 0);
    }

    /** Of 40 numbers the last ones are 0, too. */
    private static void p34AllFortyAreZero() {
        int[] nines = new int[40];
        Arrays.fill(nines, 9);
        CountyJigsaw x = eight(3, 8, nines);
        x.sheet(3, 8, 40);
        for (int from = 0; from < 40; from += 8) {
            x.sheet(2, 8, 8);
            Bounds.due(x.copy(3, from, 2, 0, 8), 8);
            numbers(x, 2, 0, 0, 0, 0, 0, 0, 0, 0);
        }
    }

    // ---- 35: write

    /** "BEYOND: no such sheet." */
    private static void p35SheetIs0To3() {
        for (int s = 0; s <= 3; s++) {
            int told = s;
            numbers(Bounds.acts(() -> eight(told, 8, 1, 2), x -> x.write(told, 1, 7), 1), s, 1, 7);
        }
        for (Bounds.Made made : Bounds.SIZES) {
            Bounds.refusesOutside(made, 0, 3, (x, v) -> x.write(v, 0, 1));
        }
    }

    /** "MISSING." */
    private static void p35SheetIsMissing() {
        Bounds.refuses(Bounds::full, x -> x.write(3, 0, 1), Bounds.MISSING);
        Bounds.refuses(Bounds::empty, x -> x.write(0, 0, 1), Bounds.MISSING);
    }

    /** "BEYOND: no such number.": from 0 to one less than there are */
    private static void p35NumberIsOneThatThereIs() {
        numbers(Bounds.acts(() -> eight(0, 8, 1, 2, 3), x -> x.write(0, 0, 9), 1), 0, 9, 2, 3);
        numbers(Bounds.acts(() -> eight(0, 8, 1, 2, 3), x -> x.write(0, 2, 9), 1), 0, 1, 2, 9);
        Bounds.refusesOutside(Bounds::full, 0, 4, (x, v) -> x.write(0, v, 1));
        Bounds.refusesOutside(Bounds::full, 0, 1, (x, v) -> x.write(1, v, 1));
        Bounds.refusesOutside(Bounds::full, 0, -1, (x, v) -> x.write(2, v, 1));
        Bounds.refusesOutside(() -> eight(0, 16, new int[40]), 0, 39, (x, v) -> x.write(0, v, 1));
        Bounds.acts(() -> eight(0, 16, new int[40]), x -> x.write(0, 39, 1), 1);
    }

    /** "BEYOND: no such sheet. MISSING. BEYOND: no such number.": in this order */
    private static void p35MissingComesBeforeTheNumber() {
        Bounds.refuses(Bounds::full, x -> x.write(3, -1, 1), Bounds.MISSING);
        Bounds.refuses(Bounds::full, x -> x.write(3, 40, 1), Bounds.MISSING);
        Bounds.refuses(Bounds::full, x -> x.write(4, 40, 1), Bounds.BEYOND);
    }

    /** "becomes v (its lowest bits)": all that lies above them is cut off */
    private static void p35LowestBits() {
        int[][] rows = {
            {8, 256, 0}, {8, 256 + 9, 9}, {8, -256 + 9, 9}, {8, 65536 + 3, 3}, {8, Bounds.MIN + 4, 4}, {8, -247, 9},
            {16, 65536, 0}, {16, 65536 + 9, 9}, {16, -65536 + 9, 9}, {16, Bounds.MIN + 4, 4},
            {32, 9, 9}, {32, 0, 0}};
        for (int[] row : rows) {
            numbers(Bounds.acts(() -> eight(0, row[0], 1), x -> x.write(0, 0, row[1]), 1), 0, row[2]);
        }
        int[][] none = {{8, 10}, {8, 127}, {8, 128}, {8, 255}, {8, -1}, {8, 256 - 1}, {8, 256 + 10}, {16, 256}, {16, 256 + 9},
            {16, 65535}, {16, 32768}, {16, -1}, {32, 256}, {32, 65536}, {32, 65536 + 9}, {32, Bounds.MIN}, {32, Bounds.MIN + 4}};
        for (int[] row : none) {
            Bounds.due(Bounds.acts(() -> eight(0, row[0], 1), x -> x.write(0, 0, row[1]), 1).load(0), 0);
        }
    }

    /** The sign of 8 and of 16 bits: "-1: any" is told in all of them, by -1 or by all bits */
    private static void p35AllBitsAreMinusOne() {
        int[][] any = {{8, -1}, {8, 255}, {8, 65535}, {16, -1}, {16, 65535}, {32, -1}};
        for (int[] row : any) {
            CountyJigsaw x = eight(0, row[0], row[1]);
            Bounds.due(x.fits(0, 0), 100);
        }
        int[][] told = {{8, 127}, {8, 128}, {8, 254}, {16, 255}, {16, 32767}, {16, 32768}, {32, 255}, {32, 65535}};
        for (int[] row : told) {
            CountyJigsaw x = eight(0, row[0], row[1]);
            Bounds.due(x.fits(0, 0), 0);
        }
    }

    // ---- 36: copy

    /** Sheets 0 and 1 of 8 bits, 2 of 16, 3 MISSING. */
    private static CountyJigsaw sheets() {
        CountyJigsaw x = eight(0, 8, 1, 2, 3, 4, 5);
        Bounds.tell(x, 1, 8, 6, 7, 8);
        Bounds.tell(x, 2, 16, 9, 9, 9, 9, 9);
        return x;
    }

    /** "BEYOND: no such sheet (either)." */
    private static void p36SheetsAre0To3() {
        Bounds.refusesOutside(BoundsOfSheetTest::sheets, 0, 3, (x, v) -> x.copy(v, 0, 0, 0, 1));
        Bounds.refusesOutside(BoundsOfSheetTest::sheets, 0, 3, (x, v) -> x.copy(0, 0, v, 0, 1));
        Bounds.refusesOutside(BoundsOfSheetTest::sheets, 0, 3, (x, v) -> x.copy(v, 0, v, 0, 0));
        for (int s = 0; s <= 3; s++) {
            int told = s;
            CountyJigsaw x = Bounds.acts(() -> {
                CountyJigsaw y = eight(told, 8, 4, 2);
                Bounds.tell(y, 3 - told, 8, 0, 0);
                return y;
            }, y -> y.copy(told, 0, 3 - told, 0, 2), 2);
            numbers(x, 3 - s, 4, 2);
            numbers(x, s, 4, 2);
        }
    }

    /** "MISSING: one is." */
    private static void p36OneIsMissing() {
        Bounds.refuses(BoundsOfSheetTest::sheets, x -> x.copy(3, 0, 0, 0, 1), Bounds.MISSING);
        Bounds.refuses(BoundsOfSheetTest::sheets, x -> x.copy(0, 0, 3, 0, 1), Bounds.MISSING);
        Bounds.refuses(BoundsOfSheetTest::sheets, x -> x.copy(3, 0, 3, 0, 0), Bounds.MISSING);
    }

    /** "KIND: they are not of as many bits." */
    private static void p36NotOfAsManyBits() {
        int[] all = {8, 16, 32};
        for (int a : all) {
            for (int b : all) {
                Bounds.Made made = () -> {
                    CountyJigsaw x = eight(0, a, 3);
                    Bounds.tell(x, 1, b, 4);
                    return x;
                };
                if (a == b) {
                    numbers(Bounds.acts(made, x -> x.copy(0, 0, 1, 0, 1), 1), 1, 3);
                } else {
                    Bounds.refuses(made, x -> x.copy(0, 0, 1, 0, 1), Bounds.KIND);
                    Bounds.refuses(made, x -> x.copy(0, 0, 1, 0, 0), Bounds.KIND);
                }
            }
        }
    }

    /** "BEYOND. MISSING. KIND. BEYOND": in this order */
    private static void p36OrderOfFindings() {
        Bounds.refuses(BoundsOfSheetTest::sheets, x -> x.copy(3, 0, 4, 0, 1), Bounds.BEYOND);
        Bounds.refuses(BoundsOfSheetTest::sheets, x -> x.copy(-1, 0, 3, 0, 1), Bounds.BEYOND);
        Bounds.refuses(BoundsOfSheetTest::sheets, x -> x.copy(3, -1, 2, -1, -1), Bounds.MISSING);
        Bounds.refuses(BoundsOfSheetTest::sheets, x -> x.copy(2, 9, 3, 9, 9), Bounds.MISSING);
        Bounds.refuses(BoundsOfSheetTest::sheets, x -> x.copy(0, -1, 2, 0, 1), Bounds.KIND);
        Bounds.refuses(BoundsOfSheetTest::sheets, x -> x.copy(2, 0, 1, 0, 6), Bounds.KIND);
    }

    /** "BEYOND: one has not so many": the one that it comes from */
    private static void p36FromHasNotSoMany() {
        numbers(Bounds.acts(BoundsOfSheetTest::sheets, x -> x.copy(0, 2, 1, 0, 3), 3), 1, 3, 4, 5);
        Bounds.refuses(BoundsOfSheetTest::sheets, x -> x.copy(0, 3, 1, 0, 3), Bounds.BEYOND);
        numbers(Bounds.acts(BoundsOfSheetTest::sheets, x -> x.copy(0, 4, 1, 2, 1), 1), 1, 6, 7, 5);
        Bounds.refuses(BoundsOfSheetTest::sheets, x -> x.copy(0, 5, 1, 2, 1), Bounds.BEYOND);
        numbers(Bounds.acts(BoundsOfSheetTest::sheets, x -> x.copy(1, 0, 0, 0, 3), 3), 0, 6, 7, 8, 4, 5);
        Bounds.refuses(BoundsOfSheetTest::sheets, x -> x.copy(1, 0, 0, 0, 4), Bounds.BEYOND);
    }

    /** "BEYOND: one has not so many": the one that it comes to */
    private static void p36ToHasNotSoMany() {
        numbers(Bounds.acts(BoundsOfSheetTest::sheets, x -> x.copy(0, 0, 1, 1, 2), 2), 1, 6, 1, 2);
        Bounds.refuses(BoundsOfSheetTest::sheets, x -> x.copy(0, 0, 1, 2, 2), Bounds.BEYOND);
        Bounds.refuses(BoundsOfSheetTest::sheets, x -> x.copy(0, 0, 1, 0, 4), Bounds.BEYOND);
        numbers(Bounds.acts(BoundsOfSheetTest::sheets, x -> x.copy(1, 0, 0, 2, 3), 3), 0, 1, 2, 6, 7, 8);
        Bounds.refuses(BoundsOfSheetTest::sheets, x -> x.copy(1, 0, 0, 3, 3), Bounds.BEYOND);
    }

    /** "or from, to or n is below 0." */
    private static void p36BelowZero() {
        for (int v : new int[] {-1, Bounds.MIN}) {
            Bounds.refuses(BoundsOfSheetTest::sheets, x -> x.copy(0, v, 1, 0, 1), Bounds.BEYOND);
            Bounds.refuses(BoundsOfSheetTest::sheets, x -> x.copy(0, 0, 1, v, 1), Bounds.BEYOND);
            Bounds.refuses(BoundsOfSheetTest::sheets, x -> x.copy(0, 0, 1, 0, v), Bounds.BEYOND);
            Bounds.refuses(BoundsOfSheetTest::sheets, x -> x.copy(0, v, 1, 0, 0), Bounds.BEYOND);
            Bounds.refuses(BoundsOfSheetTest::sheets, x -> x.copy(0, 2, 1, 2, v), Bounds.BEYOND);
        }
    }

    /** Sums of from (or to) and n that are no ints wrap to nothing that is taken. */
    private static void p36FarBeyond() {
        Bounds.refuses(BoundsOfSheetTest::sheets, x -> x.copy(0, Bounds.MAX, 1, 0, 1), Bounds.BEYOND);
        Bounds.refuses(BoundsOfSheetTest::sheets, x -> x.copy(0, 0, 1, Bounds.MAX, 1), Bounds.BEYOND);
        Bounds.refuses(BoundsOfSheetTest::sheets, x -> x.copy(0, 0, 1, 0, Bounds.MAX), Bounds.BEYOND);
        Bounds.refuses(BoundsOfSheetTest::sheets, x -> x.copy(0, 1, 1, 1, Bounds.MAX), Bounds.BEYOND);
        Bounds.refuses(BoundsOfSheetTest::sheets, x -> x.copy(0, Bounds.MAX, 1, Bounds.MAX, Bounds.MAX), Bounds.BEYOND);
    }

    /** n 0 copies nothing: from the end on, too, and not from beyond it; nor of a sheet without numbers one */
    private static void p36NoNumbers() {
        Bounds.asks(BoundsOfSheetTest::sheets, x -> x.copy(0, 0, 1, 0, 0), 0);
        Bounds.asks(BoundsOfSheetTest::sheets, x -> x.copy(0, 5, 1, 3, 0), 0);
        Bounds.refuses(BoundsOfSheetTest::sheets, x -> x.copy(0, 6, 1, 3, 0), Bounds.BEYOND);
        Bounds.refuses(BoundsOfSheetTest::sheets, x -> x.copy(0, 5, 1, 4, 0), Bounds.BEYOND);
        Bounds.asks(() -> eight(0, 8), x -> x.copy(0, 0, 0, 0, 0), 0);
        Bounds.refuses(() -> eight(0, 8), x -> x.copy(0, 0, 0, 0, 1), Bounds.BEYOND);
    }

    /** "(as they all were)": within one sheet, either way */
    private static void p36AsTheyAllWere() {
        numbers(Bounds.acts(BoundsOfSheetTest::sheets, x -> x.copy(0, 0, 0, 1, 4), 4), 0, 1, 1, 2, 3, 4);
        numbers(Bounds.acts(BoundsOfSheetTest::sheets, x -> x.copy(0, 1, 0, 0, 4), 4), 0, 2, 3, 4, 5, 5);
        numbers(Bounds.acts(BoundsOfSheetTest::sheets, x -> x.copy(0, 0, 0, 2, 3), 3), 0, 1, 2, 1, 2, 3);
        Bounds.asks(BoundsOfSheetTest::sheets, x -> x.copy(0, 0, 0, 0, 5), 5);
    }

    /** All 40. */
    private static void p36AllForty() {
        int[] forty = new int[40];
        Arrays.setAll(forty, i -> i % 10);
        CountyJigsaw x = eight(0, 32, forty);
        x.sheet(1, 32, 40);
        Bounds.due(x.copy(0, 0, 1, 0, 41), Bounds.BEYOND);
        Bounds.due(x.copy(0, 0, 1, 0, 40), 40);
        Bounds.due(x.copy(1, 32, 1, 0, 8), 8);
        Bounds.due(x.load(1), 8);
        lefts(x, 2, 3, 4, 5, 6, 7, 8, 9);
    }

    // ---- 37: load

    /** "BEYOND: no such sheet." */
    private static void p37SheetIs0To3() {
        for (int s = 0; s <= 3; s++) {
            int told = s;
            lefts(Bounds.acts(() -> eight(told, 8, 7), x -> x.load(told), 1), 7, 5, 5);
        }
        for (Bounds.Made made : Bounds.SIZES) {
            Bounds.refusesOutside(made, 0, 3, (x, v) -> x.load(v));
        }
    }

    /** "MISSING." */
    private static void p37SheetIsMissing() {
        Bounds.refuses(Bounds::full, x -> x.load(3), Bounds.MISSING);
        Bounds.refuses(Bounds::empty, x -> x.load(0), Bounds.MISSING);
    }

    /** "It ends at the first that isn't 0 to 9" */
    private static void p37NumbersAre0To9() {
        for (int bits : new int[] {8, 16, 32}) {
            lefts(Bounds.acts(() -> eight(0, bits, 0, 9, 10, 1), x -> x.load(0), 2), 0, 9, 5, 5);
            lefts(Bounds.acts(() -> eight(0, bits, 9, 0, -1, 1), x -> x.load(0), 2), 9, 0, 5, 5);
            Bounds.asks(() -> eight(0, bits, 10, 1), x -> x.load(0), 0);
            Bounds.asks(() -> eight(0, bits, -1, 1), x -> x.load(0), 0);
        }
    }

    /** "or for which there is no PIECE" */
    private static void p37NoPieceForIt() {
        lefts(Bounds.acts(() -> eight(0, 8, 1, 2, 3, 4, 5, 6, 7, 8, 9), x -> x.load(0), 8), 1, 2, 3, 4, 5, 6, 7, 8);
        lefts(Bounds.acts(() -> eight(0, 8, new int[40]), x -> x.load(0), 8), 0, 0, 0, 0, 0, 0, 0, 0);
        lefts(Bounds.acts(() -> eight(0, 8, 1, 2, 3, 4, 5, 6, 7, 8), x -> x.load(0), 8), 1, 2, 3, 4, 5, 6, 7, 8);
        lefts(Bounds.acts(() -> eight(0, 8, 1, 2, 3, 4, 5, 6, 7), x -> x.load(0), 7), 1, 2, 3, 4, 5, 6, 7, 5);
        Bounds.asks(() -> {
            CountyJigsaw x = Bounds.empty();
            x.sheet(0, 8, 3);
            return x;
        }, x -> x.load(0), 0);
        lefts(Bounds.acts(() -> {
            CountyJigsaw x = Bounds.one();
            Bounds.tell(x, 0, 8, 8, 8);
            return x;
        }, x -> x.load(0), 1), 8);
    }

    /** "Numbers of a sheet, from its begin on": there may be none */
    private static void p37NoNumbers() {
        Bounds.asks(() -> eight(0, 8), x -> x.load(0), 0);
        Bounds.asks(Bounds::full, x -> x.load(2), 0);
    }

    /** "become LEFT edges": as told, of a TURNED one, too, and of PIECES, not of places */
    private static void p37LeftAsToldOfPieces() {
        CountyJigsaw x = Bounds.acts(() -> {
            CountyJigsaw y = eight(0, 8, 1, 2);
            y.change(0, 4, 1);
            y.swap(0, 1);
            return y;
        }, y -> y.load(0), 2);
        lefts(x, 1, 2, 5);
        Bounds.due(x.of(0, 2), 0);
    }

    // ---- 38: judge

    /** "BEYOND: no such sheet." */
    private static void p38SheetIs0To3() {
        for (int s = 0; s <= 3; s++) {
            int told = s;
            Bounds.asks(() -> eight(told, 8, 0, 1), x -> x.judge(told), 0);
        }
        for (Bounds.Made made : Bounds.SIZES) {
            Bounds.refusesOutside(made, 0, 3, (x, v) -> x.judge(v));
        }
    }

    /** "MISSING." */
    private static void p38SheetIsMissing() {
        Bounds.refuses(Bounds::full, x -> x.judge(3), Bounds.MISSING);
        Bounds.refuses(Bounds::empty, x -> x.judge(0), Bounds.MISSING);
    }

    /** "else 1 and the place of the first that isn't so": from 1 to 8 */
    private static void p38FirstThatIsNotSo() {
        for (int place = 0; place <= 7; place++) {
            int[] numbers = {0, 1, 2, 3, 4, 5, 6, 7};
            numbers[place] = (place + 1) % 8;
            Bounds.asks(() -> eight(0, 8, numbers), x -> x.judge(0), 1 + place);
            int[] none = {0, 1, 2, 3, 4, 5, 6, 7};
            none[place] = -1;
            none[7] = -1;
            Bounds.asks(() -> eight(0, 16, none), x -> x.judge(0), 1 + place);
        }
        Bounds.asks(() -> eight(0, 32, 0, 1, 2, 3, 4, 5, 6, 7), x -> x.judge(0), 0);
    }

    /** "the PIECES in places 0, 1, .. of THE ROW" */
    private static void p38PiecesInPlaces() {
        Bounds.Made made = () -> {
            CountyJigsaw x = eight(0, 8, 3, 0, 2, 1);
            x.swap(0, 1);
            x.swap(0, 3);
            return x;
        };
        Bounds.row(made.make(), 3, 0, 2, 1, 4);
        Bounds.asks(made, x -> x.judge(0), 0);
    }

    /** Fewer numbers than places: these alone are asked, none at all are so. */
    private static void p38FewerNumbersThanPlaces() {
        Bounds.asks(() -> eight(0, 8, 0, 1, 2, 3, 4, 5, 6), x -> x.judge(0), 0);
        Bounds.asks(() -> eight(0, 8), x -> x.judge(0), 0);
        Bounds.asks(() -> {
            CountyJigsaw x = Bounds.empty();
            x.sheet(0, 8, 0);
            return x;
        }, x -> x.judge(0), 0);
    }

    /** More numbers than places: the first that has none isn't so. */
    private static void p38MoreNumbersThanPlaces() {
        Bounds.asks(() -> eight(0, 8, 0, 1, 2, 3, 4, 5, 6, 7, 0), x -> x.judge(0), 9);
        Bounds.asks(() -> eight(0, 8, 0, 1, 2, 3, 4, 5, 6, 7, -1), x -> x.judge(0), 9);
        Bounds.asks(() -> {
            CountyJigsaw x = Bounds.empty();
            x.sheet(0, 8, 40);
            return x;
        }, x -> x.judge(0), 1);
        Bounds.asks(() -> {
            CountyJigsaw x = Bounds.one();
            x.sheet(0, 8, 2);
            return x;
        }, x -> x.judge(0), 2);
    }

    // ---- 39 to 41: image, undo, tear

    /** "All but THE TAPE and SHEETS is kept: 1." */
    private static void p39AllButTapeAndSheets() {
        CountyJigsaw x = Bounds.full();
        Bounds.due(x.image(), 1);
        change(x);
        Bounds.due(x.undo(), 4);
        // what full() has, with the TAPE and SHEETS as changed
        CountyJigsaw like = Bounds.full();
        like.image();
        like.wipe();
        like.feed(';', 1);
        Bounds.tell(like, 0, 16, 2, 2);
        like.sheet(1, 0, 0);
        Bounds.same(x, like);
    }

    private static void change(CountyJigsaw x) {
        x.go(7);
        x.tip(3);
        x.swap(0, 4);
        for (int p = 0; p <= 7; p++) {
            x.change(p, 0, 6 - x.of(p, 0));
            x.change(p, 1, 9 - x.of(p, 1));
            x.change(p, 2, 9 - x.of(p, 2));
            x.change(p, 3, 7 - Math.max(0, x.of(p, 3)));
            x.change(p, 4, 1 - x.of(p, 4));
        }
        for (int i = 0; i <= 5; i++) {
            x.list(i, 6, 6);
        }
        for (int spot = 0; spot <= 9; spot++) {
            x.hold(spot, 5);
        }
        x.wipe();
        x.feed(';', 1);
        Bounds.tell(x, 0, 16, 2, 2);
        x.sheet(1, 0, 0);
    }

    /** An empty county can be kept, and one without change. */
    private static void p39EmptyCounty() {
        CountyJigsaw x = Bounds.empty();
        Bounds.due(x.image(), 1);
        for (int p = 0; p <= 7; p++) {
            x.piece(p % 7, p, p);
        }
        x.go(60);
        Bounds.due(x.undo(), 0);
        Bounds.due(x.count(1), 0);
        Bounds.due(x.lies(0), Bounds.BEYOND);
        Bounds.due(x.piece(1, 2, 3), 0);
        Bounds.due(Bounds.acts(Bounds::full, y -> y.image(), 1).undo(), 4);
    }

    /** "It becomes what was kept latest" */
    private static void p40KeptLatest() {
        CountyJigsaw x = Bounds.one();
        for (int i = 1; i <= 4; i++) {
            x.go(i);
            x.image();
        }
        x.go(30);
        Bounds.due(x.undo(), 10);
        Bounds.due(x.count(0), 10);
    }

    /** "(which stays)": as it was, however often */
    private static void p40WhichStays() {
        CountyJigsaw x = Bounds.full();
        for (int i = 0; i < 3; i++) {
            Bounds.due(x.undo(), 2);
            Bounds.due(x.count(1), 7);
            Bounds.due(x.of(0, 1), 1);
            x.piece(1, 1, 1);
            x.change(0, 0, 5);
            x.swap(0, 7);
            x.list(0, 1, 1);
            x.hold(0, 7);
            x.go(9);
        }
        Bounds.due(x.undo(), 2);
        Bounds.row(x, 0, 1, 5, 3, 4, 2, 6);
        Bounds.due(x.listed(0), 25);
        Bounds.due(x.as(0, 0), 1);
        Bounds.due(x.of(0, 0), 0);
        Bounds.due(x.count(7), 2);
    }

    /** "YEAR." is told, the least and a greater one */
    private static void p40TellsTheYear() {
        CountyJigsaw x = Bounds.empty();
        x.image();
        Bounds.due(x.undo(), 0);
        x.go(60);
        x.image();
        Bounds.due(x.undo(), 60);
    }

    /** "NONE: nothing is kept." */
    private static void p40NothingIsKept() {
        Bounds.refuses(Bounds::empty, x -> x.undo(), Bounds.NONE);
        Bounds.refuses(Bounds::three, x -> x.undo(), Bounds.NONE);
        Bounds.refuses(() -> {
            CountyJigsaw x = Bounds.full();
            x.tear();
            return x;
        }, x -> x.undo(), Bounds.NONE);
    }

    /** "Nothing is kept: 1 if something was, else 0." */
    private static void p41OneIfSomethingWas() {
        CountyJigsaw x = Bounds.acts(Bounds::full, y -> y.tear(), 1);
        Bounds.due(x.count(0), 4);
        Bounds.due(x.tear(), 0);
        Bounds.due(x.undo(), Bounds.NONE);
        Bounds.due(x.image(), 1);
        Bounds.due(x.undo(), 4);
        Bounds.due(x.tear(), 1);
        Bounds.asks(Bounds::three, y -> y.tear(), 0);
        Bounds.asks(Bounds::empty, y -> y.tear(), 0);
    }

    /** undo() tears nothing, and neither do more images: one tear() is enough. */
    private static void p41OneTearIsEnough() {
        CountyJigsaw x = Bounds.full();
        x.image();
        x.image();
        x.undo();
        Bounds.due(x.tear(), 1);
        Bounds.due(x.tear(), 0);
        Bounds.due(x.status(-1), 0);
    }

    // ---- 42: count

    /** "0 YEAR .. 7 SPOTS that hold something. BEYOND: another what." */
    private static void p42WhatIs0To7() {
        Bounds.asks(Bounds::full, x -> x.count(0), 4);
        Bounds.asks(Bounds::full, x -> x.count(7), 3);
        for (Bounds.Made made : Bounds.SIZES) {
            Bounds.refusesOutside(made, 0, 7, (x, v) -> x.count(v));
        }
    }

    /** Each of them at the most that there can be. */
    private static void p42AsMuchAsThereCanBe() {
        CountyJigsaw x = eight(0, 8);
        for (int p = 0; p <= 7; p++) {
            x.change(p, 4, 1);
            x.change(p, 3, (p + 1) % 8);
        }
        for (int spot = 0; spot <= 9; spot++) {
            x.hold(spot, spot % 8);
        }
        for (int i = 0; i < 30; i++) {
            x.feed(0, 4);
        }
        x.seed(Bounds.MIN);
        x.go(60);
        // all are TURNED: LEFT 5 and 20 cuts, as told on the right
        int[] dues = {60, 8, 0 + 7 * 5 + 5, 8, 7, 120, Bounds.MIN, 10};
        for (int what = 0; what <= 7; what++) {
            Bounds.due(x.count(what), dues[what]);
        }
        Bounds.due(x.status(-1), 0);
    }

    /** z may be any int, below LOW, too: that is no finding. */
    private static void p42AnyZ() {
        for (int z : new int[] {Bounds.MIN, Bounds.SIZE, Bounds.BEYOND, -1, 0, Bounds.MAX}) {
            Bounds.asks(() -> {
                CountyJigsaw x = Bounds.one();
                x.seed(z);
                return x;
            }, x -> x.count(6), z);
        }
    }

    // ---- 43: status

    /** "which -1: all, 0 to 6: BEYOND to SIZE. BEYOND .. another one." */
    private static void p43WhichIsMinus1To6() {
        for (int which = -1; which <= 6; which++) {
            int asked = which;
            Bounds.asks(Bounds::full, x -> x.status(asked), 0);
        }
        for (Bounds.Made made : Bounds.SIZES) {
            Bounds.refusesOutside(made, -1, 6, (x, v) -> x.status(v));
        }
    }

    /** "(counted from then on)": the answer itself is counted, and what -1 answers not */
    private static void p43CountedFromThenOn() {
        CountyJigsaw x = Bounds.empty();
        Bounds.due(x.status(7), Bounds.BEYOND);
        Bounds.due(x.status(0), 1);
        Bounds.due(x.status(-2), Bounds.BEYOND);
        Bounds.due(x.status(0), 2);
        Bounds.due(x.status(-1), 2);
        Bounds.due(x.status(-1), 2);
    }

    /** "0 to 6: BEYOND to SIZE": each finding is counted as its own, from LOW to LOW - 6 */
    private static void p43EachFinding() {
        Bounds.Call[] calls = {x -> x.lies(99), x -> x.piece(0, 0, 0), x -> x.as(0, 2), x -> x.turn(0), null,
            x -> x.load(3), x -> x.sheet(0, 8, -1)};
        for (int which = 0; which <= 6; which++) {
            if (calls[which] != null) {
                CountyJigsaw x = Bounds.full();
                for (int times = 1; times <= 3; times++) {
                    Bounds.due(calls[which].on(x), -1000001 - which);
                    for (int other = 0; other <= 6; other++) {
                        Bounds.due(x.status(other), other == which ? times : 0);
                    }
                    Bounds.due(x.status(-1), times);
                }
            }
        }
        CountyJigsaw last = Bounds.in(99999);
        Bounds.due(last.go(1), -1000001 - 4);
        Bounds.due(last.status(4), 1);
        Bounds.due(last.status(-1), 1);
    }

    /** Findings in longs are counted, too. */
    private static void p43FindingsInLongs() {
        CountyJigsaw x = Bounds.empty();
        Bounds.due(x.odds(11, 0), -1000001L);
        Bounds.due(x.odds(0, 2), -1000001L);
        Bounds.due(x.status(0), 2);
    }

    /** "ever (undo() takes none back)" */
    private static void p43UndoTakesNoneBack() {
        CountyJigsaw x = Bounds.three();
        x.lies(9);
        x.image();
        x.lies(9);
        x.load(3);
        x.undo();
        Bounds.due(x.status(-1), 3);
        Bounds.due(x.status(0), 2);
        Bounds.due(x.status(5), 1);
        x.tear();
        x.undo();
        Bounds.due(x.status(3), 1);
        Bounds.due(x.status(-1), 4);
    }

    /** A FAULT is "no finding". */
    private static void p43FaultIsNoFinding() {
        CountyJigsaw x = Bounds.empty();
        Bounds.due(Bounds.read(x, "lay 0 0"), -5);
        Bounds.due(x.text(), -1);
        Bounds.due(x.status(-1), 0);
    }

    /** As many as an object can be asked for. */
    private static void p43FiveHundred() {
        CountyJigsaw x = Bounds.empty();
        for (int i = 0; i < 510; i++) {
            x.lies(0);
        }
        Bounds.due(x.status(0), 510);
        Bounds.due(x.status(-1), 510);
    }
}
