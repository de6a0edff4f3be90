/** Promises 1 to 12, with the terms that they use: a test for each sentence that names a boundary. */
public final class BoundsOfCountyTest {

    public static void main(String[] args) throws Exception {
        Bounds.runAll(BoundsOfCountyTest.class, 1, 12);
    }

    // ---- 1: a new object

    /** "All as at first" */
    private static void p01AllAsAtFirst() {
        int[] counts = {0, 0, 0, 0, 0, 0, 1, 0};
        for (int what = 0; what <= 7; what++) {
            int asked = what;
            Bounds.asks(Bounds::empty, x -> x.count(asked), counts[what]);
        }
        for (int which = -1; which <= 6; which++) {
            Bounds.due(Bounds.empty().status(which), 0);
        }
    }

    /** "no PIECES" */
    private static void p01NoPieces() {
        Bounds.asks(Bounds::empty, x -> x.count(1), 0);
        Bounds.refuses(Bounds::empty, x -> x.of(0, 0), Bounds.BEYOND);
        Bounds.refuses(Bounds::empty, x -> x.lies(0), Bounds.BEYOND);
        Bounds.acts(Bounds::empty, x -> x.piece(0, 0, 0), 0);
    }

    /** "THE TAPE is empty" */
    private static void p01TapeIsEmpty() {
        Bounds.asks(Bounds::empty, x -> x.count(5), 0);
        Bounds.acts(Bounds::empty, x -> x.wipe(), 0);
        Bounds.acts(Bounds::empty, x -> x.text(), -1);
    }

    /** "no image is kept" */
    private static void p01NoImageIsKept() {
        Bounds.refuses(Bounds::empty, x -> x.undo(), Bounds.NONE);
        Bounds.acts(Bounds::empty, x -> x.tear(), 0);
    }

    /** "SPOTS 0 to 9 hold a PIECE or nothing (at first)" */
    private static void p01SpotsHoldNothing() {
        Bounds.asks(Bounds::empty, x -> x.count(7), 0);
        for (int spot = 0; spot <= 9; spot++) {
            int asked = spot;
            Bounds.refuses(Bounds::empty, x -> x.as(asked, 0), Bounds.MISSING);
            Bounds.refuses(Bounds::one, x -> x.as(asked, 0), Bounds.MISSING);
        }
    }

    /** "SHEETS 0 to 3: .. or MISSING (at first)" */
    private static void p01SheetsAreMissing() {
        for (int s = 0; s <= 3; s++) {
            int asked = s;
            Bounds.refuses(Bounds::one, x -> x.load(asked), Bounds.MISSING);
            Bounds.refuses(Bounds::one, x -> x.judge(asked), Bounds.MISSING);
            Bounds.refuses(Bounds::one, x -> x.fits(asked, 0), Bounds.MISSING);
            Bounds.refuses(Bounds::one, x -> x.kinds(asked, 0), Bounds.MISSING);
            Bounds.refuses(Bounds::one, x -> x.write(asked, 0, 0), Bounds.MISSING);
            Bounds.refuses(Bounds::one, x -> x.copy(asked, 0, asked, 0, 0), Bounds.MISSING);
        }
    }

    /** "THE LIST: six SWAPS .. (0 at first)" */
    private static void p01ListTellsNothing() {
        for (int i = 0; i <= 5; i++) {
            int asked = i;
            Bounds.asks(Bounds::empty, x -> x.listed(asked), 0);
        }
    }

    /** "z is told (1 at first)" */
    private static void p01DrawIsOne() {
        Bounds.asks(Bounds::empty, x -> x.count(6), 1);
        Bounds.acts(Bounds::empty, x -> x.seed(5), 1);
    }

    /** Objects share nothing. */
    private static void p01AnotherObjectIsNew() {
        CountyJigsaw used = Bounds.full();
        used.lies(99);
        Bounds.same(Bounds.empty(), new CountyJigsaw());
        Bounds.due(new CountyJigsaw().status(-1), 0);
    }

    // ---- 2, 3: list, listed

    /** "THE LIST tells in place i (0 to 5)" */
    private static void p02PlaceOfListIs0To5() {
        Bounds.due(Bounds.acts(Bounds::empty, x -> x.list(0, 3, 4), 0).listed(0), 34);
        Bounds.due(Bounds.acts(Bounds::empty, x -> x.list(5, 3, 4), 0).listed(5), 34);
        for (Bounds.Made made : Bounds.SIZES) {
            Bounds.refusesOutside(made, 0, 5, (x, v) -> x.list(v, 0, 0));
            Bounds.refusesOutside(made, 0, 5, (x, v) -> x.list(v, 7, 7));
        }
    }

    /** "a SWAP of places a .. (0 to 7 each)", which THE ROW needn't have */
    private static void p02FirstPlaceIs0To7() {
        Bounds.due(Bounds.acts(Bounds::empty, x -> x.list(2, 0, 5), 0).listed(2), 5);
        Bounds.due(Bounds.acts(Bounds::empty, x -> x.list(2, 7, 5), 0).listed(2), 75);
        for (Bounds.Made made : Bounds.SIZES) {
            Bounds.refusesOutside(made, 0, 7, (x, v) -> x.list(0, v, 0));
            Bounds.refusesOutside(made, 0, 7, (x, v) -> x.list(5, v, 7));
        }
    }

    /** "a SWAP of places .. b (0 to 7 each)" */
    private static void p02SecondPlaceIs0To7() {
        Bounds.due(Bounds.acts(Bounds::empty, x -> x.list(3, 5, 0), 0).listed(3), 50);
        Bounds.due(Bounds.acts(Bounds::empty, x -> x.list(3, 5, 7), 0).listed(3), 57);
        for (Bounds.Made made : Bounds.SIZES) {
            Bounds.refusesOutside(made, 0, 7, (x, v) -> x.list(0, 0, v));
            Bounds.refusesOutside(made, 0, 7, (x, v) -> x.list(5, 7, v));
        }
    }

    /** "which it was (10 * a and b)" */
    private static void p02WhichItWas() {
        CountyJigsaw x = Bounds.empty();
        Bounds.due(x.list(4, 7, 7), 0);
        Bounds.due(x.list(4, 0, 0), 77);
        Bounds.due(x.list(4, 0, 7), 0);
        Bounds.due(x.list(4, 7, 0), 7);
        Bounds.due(x.list(4, 1, 1), 70);
        for (int i = 0; i <= 5; i++) {
            Bounds.due(x.listed(i), i == 4 ? 11 : 0);
        }
    }

    /** "The SWAP in a place of THE LIST. BEYOND." */
    private static void p03PlaceOfListIs0To5() {
        Bounds.asks(Bounds::full, x -> x.listed(0), 25);
        Bounds.asks(Bounds::full, x -> x.listed(5), 70);
        for (Bounds.Made made : Bounds.SIZES) {
            Bounds.refusesOutside(made, 0, 5, (x, v) -> x.listed(v));
        }
    }

    // ---- 4: piece

    /** "KINDS: 0 PIECE; 1 FARM .. 6 MANOR" */
    private static void p04KindIs0To6() {
        for (int kind = 0; kind <= 6; kind++) {
            int told = kind;
            Bounds.due(Bounds.acts(Bounds::three, x -> x.piece(told, 1, 2), 3).of(3, 0), kind);
        }
        Bounds.refusesOutside(Bounds::empty, 0, 6, (x, v) -> x.piece(v, 0, 0));
        Bounds.refusesOutside(Bounds::three, 0, 6, (x, v) -> x.piece(v, 9, 9));
    }

    /** "a LEFT .. edge (0 to 9 both)" */
    private static void p04LeftIs0To9() {
        Bounds.due(Bounds.acts(Bounds::three, x -> x.piece(1, 0, 5), 3).of(3, 1), 0);
        Bounds.due(Bounds.acts(Bounds::three, x -> x.piece(1, 9, 5), 3).of(3, 1), 9);
        Bounds.refusesOutside(Bounds::empty, 0, 9, (x, v) -> x.piece(0, v, 0));
        Bounds.refusesOutside(Bounds::three, 0, 9, (x, v) -> x.piece(6, v, 9));
    }

    /** "a RIGHT edge (0 to 9 both)" */
    private static void p04RightIs0To9() {
        Bounds.due(Bounds.acts(Bounds::three, x -> x.piece(1, 5, 0), 3).of(3, 2), 0);
        Bounds.due(Bounds.acts(Bounds::three, x -> x.piece(1, 5, 9), 3).of(3, 2), 9);
        Bounds.refusesOutside(Bounds::empty, 0, 9, (x, v) -> x.piece(0, 0, v));
        Bounds.refusesOutside(Bounds::three, 0, 9, (x, v) -> x.piece(6, 9, v));
    }

    private static CountyJigsaw seven() {
        return Bounds.county(0, 1, 1, 0, 2, 2, 0, 3, 3, 0, 4, 4, 0, 5, 5, 0, 6, 6, 0, 7, 7);
    }

    /** "PIECES 0, 1, .. (at most 8)"; "FULL." */
    private static void p04NinthPieceIsFull() {
        Bounds.due(Bounds.acts(BoundsOfCountyTest::seven, x -> x.piece(4, 9, 9), 7).count(1), 8);
        Bounds.refuses(Bounds::full, x -> x.piece(0, 0, 0), Bounds.FULL);
        Bounds.refuses(Bounds::full, x -> x.piece(6, 9, 9), Bounds.FULL);
    }

    /** "BEYOND. FULL.": in this order */
    private static void p04BeyondComesBeforeFull() {
        Bounds.refusesOutside(Bounds::full, 0, 6, (x, v) -> x.piece(v, 0, 0));
        Bounds.refusesOutside(Bounds::full, 0, 9, (x, v) -> x.piece(0, v, 0));
        Bounds.refusesOutside(Bounds::full, 0, 9, (x, v) -> x.piece(0, 0, v));
    }

    /** "a WANT (.. -1: none, at first)"; "TURNED or not (.. 0 at first)" */
    private static void p04NewOneHasNoWantAndIsNotTurned() {
        CountyJigsaw x = Bounds.acts(Bounds::empty, y -> y.piece(3, 1, 2), 0);
        Bounds.due(x.of(0, 3), -1);
        Bounds.due(x.of(0, 4), 0);
    }

    /** .. and so is one whose number another had that undo() took away. */
    private static void p04NewOneIsNewBehindAnUndo() {
        CountyJigsaw x = Bounds.one();
        x.image();
        x.piece(6, 9, 9);
        x.change(1, 3, 0);
        x.change(1, 4, 1);
        x.swap(0, 1);
        x.undo();
        Bounds.due(x.piece(2, 5, 6), 1);
        int[] due = {2, 5, 6, -1, 0, 1};
        for (int what = 0; what <= 5; what++) {
            Bounds.due(x.of(1, what), due[what]);
        }
    }

    /** "in each of which one PIECE lies .. (a new one behind all others)" */
    private static void p04NewOneLiesBehindAllOthers() {
        CountyJigsaw x = Bounds.acts(Bounds::three, y -> y.piece(5, 0, 0), 3);
        Bounds.row(x, 1, 0, 2, 3);
        x.swap(3, 0);
        x.piece(0, 0, 0);
        Bounds.row(x, 3, 0, 2, 1, 4);
    }

    // ---- 5: of

    /** "Of a PIECE .. BEYOND." */
    private static void p05PieceIsOneThatThereIs() {
        Bounds.asks(Bounds::one, x -> x.of(0, 1), 3);
        Bounds.asks(Bounds::three, x -> x.of(2, 1), 1);
        Bounds.asks(Bounds::full, x -> x.of(0, 1), 2);
        Bounds.asks(Bounds::full, x -> x.of(7, 1), 9);
        Bounds.refusesNoPiece((x, v) -> x.of(v, 0));
        Bounds.refusesNoPiece((x, v) -> x.of(v, 6));
    }

    /** "what 0 KIND .. 6 GROWS. BEYOND." */
    private static void p05WhatIs0To6() {
        Bounds.asks(Bounds::full, x -> x.of(4, 0), 4);
        Bounds.asks(Bounds::full, x -> x.of(4, 6), 8);
        Bounds.refusesOutside(Bounds::full, 0, 6, (x, v) -> x.of(0, v));
        Bounds.refusesOutside(Bounds::one, 0, 6, (x, v) -> x.of(0, v));
        Bounds.refusesOutside(Bounds::empty, 0, 6, (x, v) -> x.of(0, v));
    }

    /** "1 LEFT, 2 RIGHT (as told)": also of a TURNED one */
    private static void p05EdgesAsToldOfATurnedOne() {
        Bounds.asks(Bounds::full, x -> x.of(2, 4), 1);
        Bounds.asks(Bounds::full, x -> x.of(2, 1), 8);
        Bounds.asks(Bounds::full, x -> x.of(2, 2), 6);
    }

    /** "3 WANT (-1: none)" */
    private static void p05WantIsMinusOneForNone() {
        Bounds.asks(Bounds::full, x -> x.of(0, 3), -1);
        Bounds.asks(Bounds::full, x -> x.of(6, 3), 7);
        Bounds.asks(Bounds::three, x -> x.of(0, 3), 2);
    }

    /** "5 the place where it lies" */
    private static void p05PlaceWhereItLies() {
        Bounds.asks(Bounds::three, x -> x.of(0, 5), 1);
        Bounds.asks(Bounds::three, x -> x.of(1, 5), 0);
        Bounds.asks(Bounds::full, x -> x.of(7, 5), 7);
    }

    // ---- 6: change

    /** "of a PIECE becomes v .. BEYOND." */
    private static void p06PieceIsOneThatThereIs() {
        Bounds.due(Bounds.acts(Bounds::full, x -> x.change(0, 2, 5), 2).of(0, 2), 5);
        Bounds.due(Bounds.acts(Bounds::full, x -> x.change(7, 2, 5), 8).of(7, 2), 5);
        Bounds.due(Bounds.acts(Bounds::three, x -> x.change(2, 2, 5), 8).of(2, 2), 5);
        for (int what = 0; what <= 4; what++) {
            int told = what;
            Bounds.refusesNoPiece((x, v) -> x.change(v, told, 0));
        }
    }

    /** "KIND (what 0), LEFT (1), RIGHT (2), WANT (3: -1, too), TURNED (4)": no place, no GROWS */
    private static void p06WhatIs0To4() {
        Bounds.refusesOutside(Bounds::full, 0, 4, (x, v) -> x.change(0, v, 0));
        Bounds.refusesOutside(Bounds::full, 0, 4, (x, v) -> x.change(0, v, 1));
        Bounds.refusesOutside(Bounds::one, 0, 4, (x, v) -> x.change(0, v, -1));
        Bounds.refuses(Bounds::full, x -> x.change(0, 6, 1), Bounds.BEYOND);
    }

    private static void changesWithin(int what, int least, int most, int was) {
        for (int v = least; v <= most; v++) {
            int told = v;
            CountyJigsaw x = Bounds.acts(Bounds::full, y -> y.change(1, what, told), was);
            for (int other = 0; other <= 4; other++) {
                Bounds.due(x.of(1, other), other == what ? v : Bounds.full().of(1, other));
            }
        }
        Bounds.refusesOutside(Bounds::full, least, most, (x, v) -> x.change(1, what, v));
        Bounds.refusesOutside(Bounds::one, least, most, (x, v) -> x.change(0, what, v));
    }

    /** "KIND (what 0)": 0 to 6 */
    private static void p06KindIs0To6() {
        changesWithin(0, 0, 6, 1);
    }

    /** "LEFT (1)": 0 to 9 */
    private static void p06LeftIs0To9() {
        changesWithin(1, 0, 9, 3);
    }

    /** "RIGHT (2)": 0 to 9 */
    private static void p06RightIs0To9() {
        changesWithin(2, 0, 9, 4);
    }

    /** "WANT (3: -1, too)": -1 to 7, "there or not", and it may be the PIECE itself */
    private static void p06WantIsMinus1To7() {
        changesWithin(3, -1, 7, 3);
        Bounds.due(Bounds.acts(Bounds::one, x -> x.change(0, 3, 7), -1).of(0, 3), 7);
        Bounds.due(Bounds.acts(Bounds::one, x -> x.change(0, 3, 0), -1).of(0, 3), 0);
    }

    /** "TURNED (4)": 1, 0 */
    private static void p06TurnedIs0Or1() {
        changesWithin(4, 0, 1, 0);
        Bounds.due(Bounds.acts(Bounds::full, x -> x.change(7, 4, 0), 1).now(5), 4);
        Bounds.due(Bounds.acts(Bounds::full, x -> x.change(7, 4, 1), 1).now(5), 4 + 128);
    }

    // ---- 7: lies

    /** "BEYOND: THE ROW hasn't it." */
    private static void p07PlaceIsOneOfTheRow() {
        Bounds.asks(Bounds::one, x -> x.lies(0), 0);
        Bounds.asks(Bounds::three, x -> x.lies(0), 1);
        Bounds.asks(Bounds::three, x -> x.lies(2), 2);
        Bounds.asks(Bounds::full, x -> x.lies(1), 6);
        Bounds.asks(Bounds::full, x -> x.lies(7), 7);
        Bounds.refusesNoPiece((x, v) -> x.lies(v));
    }

    // ---- 8: gap

    /** "GAP of a PIECE to another one .. BEYOND" */
    private static void p08BothArePieces() {
        Bounds.asks(Bounds::full, x -> x.gap(0, 7), 6);
        Bounds.asks(Bounds::full, x -> x.gap(7, 0), 7);
        Bounds.asks(Bounds::three, x -> x.gap(2, 1), 3);
        Bounds.refusesNoPiece((x, v) -> x.gap(v, 0));
        Bounds.refusesNoPiece((x, v) -> x.gap(0, v));
        Bounds.refusesNoPiece((x, v) -> x.gap(v, v));
    }

    /** "BEYOND: also one and the same." */
    private static void p08OneAndTheSameIsBeyond() {
        for (int p = 0; p <= 7; p++) {
            int told = p;
            Bounds.refuses(Bounds::full, x -> x.gap(told, told), Bounds.BEYOND);
        }
        Bounds.refuses(Bounds::one, x -> x.gap(0, 0), Bounds.BEYOND);
    }

    /** The GAP of a kind with RIGHT right to a PIECE of another kind with LEFT left. */
    private static void gap(int kind, int right, int other, int left, int due) {
        Bounds.asks(() -> Bounds.county(kind, 5, right, other, left, 5), x -> x.gap(0, 1), due);
    }

    /** "PIECE: how far its RIGHT edge is from the LEFT one of b": 0 to 9, either way */
    private static void p08PieceIsHowFar() {
        gap(0, 4, 0, 4, 0);
        gap(0, 0, 0, 9, 9);
        gap(0, 9, 0, 0, 9);
        gap(0, 3, 0, 4, 1);
        gap(0, 4, 0, 3, 1);
    }

    /** "FARM: 0, if b is its WANT, else as a PIECE. MANOR: as a FARM, and 2." */
    private static void p08FarmAndManorByTheirWant() {
        int[] far = {9, 11};
        int[] wanted = {0, 2};
        for (int i = 0; i <= 1; i++) {
            int kind = i == 0 ? 1 : 6;
            for (int want = -1; want <= 7; want++) {
                int told = want;
                Bounds.asks(() -> {
                    CountyJigsaw x = Bounds.county(kind, 5, 9, 0, 0, 5, 0, 0, 5);
                    x.change(0, 3, told);
                    return x;
                }, x -> x.gap(0, 1), want == 1 ? wanted[i] : far[i]);
            }
        }
        gap(6, 4, 0, 4, 2);
        gap(1, 4, 0, 4, 0);
    }

    /** A PIECE's WANT is nothing to others than FARMS, nor is what b wants. */
    private static void p08WantIsOfFarmsAlone() {
        int[] due = {9, 0, 10, 5, 5, 1, 2};
        for (int kind = 0; kind <= 6; kind++) {
            int told = kind;
            Bounds.asks(() -> {
                CountyJigsaw x = Bounds.county(told, 5, 9, 0, 0, 5);
                x.change(0, 3, 1);
                return x;
            }, x -> x.gap(0, 1), due[kind]);
        }
        Bounds.asks(() -> {
            CountyJigsaw x = Bounds.county(0, 5, 9, 1, 0, 5);
            x.change(1, 3, 0);
            return x;
        }, x -> x.gap(0, 1), 9);
    }

    /** "SKY: 0, if b is a SKY or under it, else as a PIECE, and 1." */
    private static void p08SkyToASkyOrUnderIt() {
        int[] due = {10, 10, 0, 0, 0, 10, 10};
        for (int other = 0; other <= 6; other++) {
            gap(2, 9, other, 0, due[other]);
        }
        gap(2, 4, 0, 4, 1);
        gap(0, 4, 2, 9, 5);
    }

    /** "CLOUD: half (cut) of a SKY." */
    private static void p08CloudIsHalfCut() {
        gap(3, 4, 0, 4, 0);
        gap(3, 4, 0, 5, 1);
        gap(3, 4, 0, 6, 1);
        gap(3, 0, 0, 9, 5);
        gap(3, 0, 0, 8, 4);
        gap(3, 9, 2, 0, 0);
    }

    /** "HAND: as a CLOUD, and YEAR modulo 3": which wraps at 3 and at 6 */
    private static void p08HandHasYearModulo3() {
        int[] due = {0, 1, 2, 0, 1, 2, 0};
        for (int year = 0; year <= 6; year++) {
            int years = year;
            Bounds.asks(() -> {
                CountyJigsaw x = Bounds.county(4, 5, 9, 2, 0, 5);
                for (int i = 0; i < years; i++) {
                    x.go(1);
                }
                return x;
            }, x -> x.gap(0, 1), due[year]);
        }
        gap(4, 4, 0, 5, 1);
        gap(4, 0, 0, 9, 5);
    }

    /** "GRASS: 1, if a PIECE has any GAP there, else 0." */
    private static void p08GrassIsAtMost1() {
        gap(5, 4, 0, 4, 0);
        gap(5, 4, 0, 5, 1);
        gap(5, 4, 0, 3, 1);
        gap(5, 0, 0, 9, 1);
        gap(5, 4, 2, 4, 0);
    }

    /** "TURNED .. what is told of its LEFT edge is told of its RIGHT one, and the other way round" */
    private static void p08TurnedOnesShowTheOtherEdge() {
        int[] due = {9 - 2, 7 - 2, 9 - 6, 7 - 6};
        for (int turned = 0; turned <= 3; turned++) {
            int set = turned;
            Bounds.asks(() -> {
                CountyJigsaw x = Bounds.county(0, 7, 9, 0, 2, 6);
                x.change(0, 4, set & 1);
                x.change(1, 4, set >> 1);
                return x;
            }, x -> x.gap(0, 1), due[turned]);
        }
    }

    // ---- 9: edge

    /** "EDGE of a PIECE .. BEYOND." */
    private static void p09PieceIsOneThatThereIs() {
        Bounds.asks(Bounds::one, x -> x.edge(0, 0), 3);
        Bounds.asks(Bounds::full, x -> x.edge(0, 0), 2);
        Bounds.asks(Bounds::full, x -> x.edge(7, 0), 8);
        Bounds.refusesNoPiece((x, v) -> x.edge(v, 0));
        Bounds.refusesNoPiece((x, v) -> x.edge(v, 1));
    }

    /** "if it lay first (side 0), last (1). BEYOND." */
    private static void p09SideIs0Or1() {
        Bounds.asks(Bounds::one, x -> x.edge(0, 0), 3);
        Bounds.asks(Bounds::one, x -> x.edge(0, 1), 4);
        for (Bounds.Made made : Bounds.SIZES) {
            Bounds.refusesOutside(made, 0, 1, (x, v) -> x.edge(0, v));
        }
    }

    private static void edges(int kind, int... dues) {
        for (int e = 0; e <= 9; e++) {
            int told = e;
            Bounds.asks(() -> Bounds.county(kind, told, 5), x -> x.edge(0, 0), dues[e]);
            Bounds.asks(() -> Bounds.county(kind, 5, told), x -> x.edge(0, 1), dues[e]);
            Bounds.asks(() -> {
                CountyJigsaw x = Bounds.county(kind, 5, told);
                x.change(0, 4, 1);
                return x;
            }, x -> x.edge(0, 0), dues[e]);
        }
    }

    /** "PIECE: e. FARM: as a PIECE." */
    private static void p09EdgeOfPieceAndFarm() {
        edges(0, 0, 1, 2, 3, 4, 5, 6, 7, 8, 9);
        edges(1, 0, 1, 2, 3, 4, 5, 6, 7, 8, 9);
    }

    /** "MANOR: 0." */
    private static void p09EdgeOfManor() {
        edges(6, 0, 0, 0, 0, 0, 0, 0, 0, 0, 0);
    }

    /** "SKY: half (cut) of a PIECE. CLOUD: as a SKY. HAND: as a CLOUD, and 1." */
    private static void p09EdgeOfSkyIsHalfCut() {
        edges(2, 0, 0, 1, 1, 2, 2, 3, 3, 4, 4);
        edges(3, 0, 0, 1, 1, 2, 2, 3, 3, 4, 4);
        edges(4, 1, 1, 2, 2, 3, 3, 4, 4, 5, 5);
    }

    /** "GRASS: 9 less e." */
    private static void p09EdgeOfGrass() {
        edges(5, 9, 8, 7, 6, 5, 4, 3, 2, 1, 0);
    }

    // ---- 10: swap

    /** "BEYOND: THE ROW hasn't both." */
    private static void p10RowHasBoth() {
        Bounds.row(Bounds.acts(Bounds::full, x -> x.swap(0, 7), 8 + 5 + 7 + 1 + 3 + 2 + 0 + 2 + 2), 7, 6, 5, 3, 1, 2, 4, 0);
        Bounds.row(Bounds.acts(Bounds::three, x -> x.swap(0, 2), 1 + 5 + 1 + 2), 2, 0, 1);
        Bounds.refusesNoPiece((x, v) -> x.swap(v, 0));
        Bounds.refusesNoPiece((x, v) -> x.swap(0, v));
        Bounds.refusesNoPiece((x, v) -> x.swap(v, v));
    }

    /** "What lies in two places .. is exchanged: SUM then": a place with itself leaves all as it is */
    private static void p10PlaceWithItself() {
        Bounds.asks(Bounds::one, x -> x.swap(0, 0), 7);
        Bounds.asks(Bounds::full, x -> x.swap(7, 7), Bounds.full().count(2));
        Bounds.asks(Bounds::full, x -> x.swap(0, 0), Bounds.full().count(2));
    }

    // ---- 11: go

    /** "n YEARS (1 to 60)" */
    private static void p11YearsAre1To60() {
        Bounds.due(Bounds.acts(Bounds::one, x -> x.go(1), 7).count(0), 1);
        Bounds.due(Bounds.acts(Bounds::one, x -> x.go(60), 3 + 4).count(0), 60);
        Bounds.due(Bounds.acts(Bounds::empty, x -> x.go(60), 0).count(0), 60);
        for (Bounds.Made made : Bounds.SIZES) {
            Bounds.refusesOutside(made, 1, 60, (x, v) -> x.go(v));
        }
        Bounds.refuses(Bounds::full, x -> x.go(-60), Bounds.BEYOND);
    }

    /** "SUM .. (0 without PIECES)"; one alone has two EDGES and no GAP */
    private static void p11SumOfNoneAndOfOne() {
        Bounds.due(Bounds.empty().go(1), 0);
        Bounds.due(Bounds.county(0, 9, 9).go(1), 18);
        Bounds.due(Bounds.county(4, 9, 9).go(1), 10);
    }

    /** "the SWAP of THE LIST for YEAR modulo 6": 5 is the last one's, 6 the first one's again */
    private static void p11ListComesRoundAtSix() {
        CountyJigsaw x = Bounds.county(0, 0, 0, 0, 0, 0, 0, 0, 0);
        x.list(0, 0, 1);
        x.list(5, 1, 2);
        int[][] rows = {{1, 0, 2}, {1, 0, 2}, {1, 0, 2}, {1, 0, 2}, {1, 0, 2}, {1, 2, 0}, {2, 1, 0}, {2, 1, 0}};
        for (int[] lying : rows) {
            x.go(1);
            Bounds.row(x, lying);
        }
    }

    /** "if THE ROW has both places": else nothing is exchanged, and the YEAR goes by */
    private static void p11SwapThatTheRowHasNot() {
        int[][] swaps = {{2, 3}, {3, 2}, {3, 3}, {0, 7}, {7, 0}, {1, 2}};
        int[][] rows = {{0, 1, 2}, {0, 1, 2}, {0, 1, 2}, {0, 1, 2}, {0, 1, 2}, {0, 2, 1}};
        for (int i = 0; i < swaps.length; i++) {
            CountyJigsaw x = Bounds.county(0, 0, 0, 0, 0, 0, 0, 0, 0);
            x.list(0, swaps[i][0], swaps[i][1]);
            Bounds.due(x.go(1), 0);
            Bounds.row(x, rows[i]);
            Bounds.due(x.count(0), 1);
        }
        // the swap of places 7 and 0 in YEAR 5, of eight that are all there
        CountyJigsaw last = Bounds.full();
        last.go(1);
        Bounds.row(last, 0, 6, 5, 3, 1, 2, 4, 7);
        last.go(1);
        Bounds.row(last, 7, 6, 5, 3, 1, 2, 4, 0);
    }

    /** "If YEAR leaves 2 by 3, a cut": in YEARS 2, 5, 8, .. */
    private static void p11CutsComeEveryThreeYears() {
        int[] lefts = {0, 0, 1, 1, 1, 2, 2, 2, 3, 3};
        CountyJigsaw x = Bounds.county(0, 0, 5);
        for (int left : lefts) {
            x.go(1);
            Bounds.due(x.of(0, 1), left);
            Bounds.due(x.of(0, 2), 5);
        }
    }

    /** "LEFT .. is what it GROWS more, modulo 10": 9 and 1 are 0 */
    private static void p11LeftWrapsAtTen() {
        int[] grows = {1, 0, 3, 4, 8, 0, 0};
        for (int kind = 0; kind <= 6; kind++) {
            for (int left = 0; left <= 9; left++) {
                CountyJigsaw x = Bounds.county(kind, left, 6);
                Bounds.due(x.of(0, 6), grows[kind]);
                x.go(3);
                Bounds.due(x.of(0, 1), (left + grows[kind]) % 10);
                Bounds.due(x.of(0, 2), 6);
            }
        }
    }

    /** "LEFT of all (as told, TURNED or not)" */
    private static void p11CutOfATurnedOneIsOfItsLeft() {
        CountyJigsaw x = Bounds.county(0, 9, 5);
        x.change(0, 4, 1);
        x.go(3);
        Bounds.due(x.of(0, 1), 0);
        Bounds.due(x.of(0, 2), 5);
        Bounds.due(x.edge(0, 1), 0);
    }

    /** "STATE: YEAR would be above 99999." */
    private static void p11YearIsAtMost99999() {
        Bounds.due(Bounds.acts(() -> Bounds.in(99939), x -> x.go(60), Bounds.in(99999).count(2)).count(0), 99999);
        Bounds.due(Bounds.acts(() -> Bounds.in(99998), x -> x.go(1), Bounds.in(99999).count(2)).count(0), 99999);
        Bounds.refuses(() -> Bounds.in(99940), x -> x.go(60), Bounds.STATE);
        Bounds.refuses(() -> Bounds.in(99998), x -> x.go(2), Bounds.STATE);
        Bounds.refuses(() -> Bounds.in(99999), x -> x.go(1), Bounds.STATE);
        Bounds.refuses(() -> Bounds.in(99999), x -> x.go(60), Bounds.STATE);
    }

    /** "BEYOND. STATE": in this order */
    private static void p11BeyondComesBeforeState() {
        Bounds.refusesOutside(() -> Bounds.in(99999), 1, 60, (x, v) -> x.go(v));
    }

    // ---- 12: now

    /** "What 0 YEAR .. 7 whether ..(1, 0). BEYOND." */
    private static void p12WhatIs0To7() {
        Bounds.asks(Bounds::full, x -> x.now(0), 4);
        Bounds.asks(Bounds::one, x -> x.now(7), 1);
        for (Bounds.Made made : Bounds.SIZES) {
            Bounds.refusesOutside(made, 0, 7, (x, v) -> x.now(v));
        }
    }

    private static void now(Bounds.Made made, int... dues) {
        for (int what = 0; what <= 7; what++) {
            int asked = what;
            Bounds.asks(made, x -> x.now(asked), dues[what]);
        }
    }

    /** Without PIECES there is no SUM, no place, no GAP, and nothing to exchange. */
    private static void p12OfNoPieces() {
        now(Bounds::empty, 0, 0, 0, 0, 0, 0, 0, 1);
    }

    /** "(the last one left out)"; "the greatest GAP in THE ROW (0, if there is none)": one alone is the last one */
    private static void p12OfOnePiece() {
        now(Bounds::one, 0, 7, 0, 0, 0, 0, 0, 1);
        now(() -> Bounds.county(0, 0, 0), 0, 0, 0, 0, 0, 0, 0, 1);
    }

    /** "2 places whose PIECE has no GAP to the next one (the last one left out), as a set" */
    private static void p12ClosedPlacesWithoutTheLast() {
        Bounds.Made closed = () -> Bounds.county(0, 0, 0, 0, 0, 0, 0, 0, 0, 0, 0, 0, 0, 0, 0, 0, 0, 0, 0, 0, 0, 0, 0, 0);
        Bounds.asks(closed, x -> x.now(2), 127);
        Bounds.asks(() -> {
            CountyJigsaw x = closed.make();
            x.change(7, 1, 1);
            return x;
        }, x -> x.now(2), 63);
        Bounds.asks(() -> {
            CountyJigsaw x = closed.make();
            x.change(0, 2, 1);
            return x;
        }, x -> x.now(2), 126);
        // places, not PIECES
        Bounds.asks(() -> {
            CountyJigsaw x = Bounds.county(0, 1, 2, 0, 2, 9, 0, 5, 1);
            x.swap(0, 2);
            x.swap(1, 2);
            return x;
        }, x -> x.now(2), 1 + 2);
    }

    /** "3 PIECES that lie ahead of their WANT at once, as a set": not two ahead, not behind, not the last one */
    private static void p12AheadOfTheirWantAtOnce() {
        Bounds.Made ring = () -> {
            CountyJigsaw x = seven();
            x.piece(6, 0, 0);
            for (int p = 0; p <= 7; p++) {
                x.change(p, 3, (p + 1) % 8);
            }
            return x;
        };
        Bounds.asks(ring, x -> x.now(3), 127);
        Bounds.asks(() -> {
            CountyJigsaw x = ring.make();
            x.swap(0, 7);
            return x;
        }, x -> x.now(3), 2 + 4 + 8 + 16 + 32);
        Bounds.asks(() -> {
            CountyJigsaw x = Bounds.county(0, 0, 0, 0, 0, 0, 0, 0, 0);
            x.change(0, 3, 2);
            x.change(1, 3, 0);
            x.change(2, 3, 7);
            return x;
        }, x -> x.now(3), 0);
        // of any kind, and by numbers of PIECES
        Bounds.asks(() -> {
            CountyJigsaw x = Bounds.county(0, 0, 9, 5, 0, 0, 2, 0, 0);
            x.change(2, 3, 0);
            x.swap(0, 2);
            x.swap(1, 2);
            return x;
        }, x -> x.now(3), 4);
    }

    /** "4 the greatest GAP in THE ROW": the first, one between, the last; EDGES are none */
    private static void p12GreatestGap() {
        Bounds.asks(() -> Bounds.county(0, 9, 8, 0, 0, 0, 0, 3, 3, 0, 1, 9), x -> x.now(4), 8);
        Bounds.asks(() -> Bounds.county(0, 9, 1, 0, 0, 0, 0, 7, 3, 0, 1, 9), x -> x.now(4), 7);
        Bounds.asks(() -> Bounds.county(0, 9, 1, 0, 0, 0, 0, 3, 9, 0, 3, 9), x -> x.now(4), 6);
        Bounds.asks(() -> Bounds.county(0, 9, 4, 0, 4, 9), x -> x.now(4), 0);
        Bounds.asks(() -> Bounds.county(6, 0, 0, 0, 9, 9), x -> x.now(4), 11);
    }

    /** "5 which are TURNED, as a set" */
    private static void p12WhichAreTurned() {
        Bounds.asks(Bounds::full, x -> x.now(5), 4 + 128);
        Bounds.asks(() -> {
            CountyJigsaw x = Bounds.full();
            for (int p = 0; p <= 7; p++) {
                x.change(p, 4, 1);
            }
            return x;
        }, x -> x.now(5), 255);
    }

    /** "6 how much more SUM is than that of THE BEST LAYING": 0 if it lies best */
    private static void p12HowMuchMoreThanTheBest() {
        Bounds.asks(() -> Bounds.county(0, 0, 5, 0, 5, 0), x -> x.now(6), 0);
        Bounds.asks(() -> Bounds.county(0, 5, 0, 0, 0, 5), x -> x.now(6), 10);
        Bounds.asks(() -> Bounds.county(0, 5, 0, 0, 1, 5), x -> x.now(6), 11 - 1);
    }

    /** "7 whether no exchange of two places gives a less SUM (1, 0)": as much is not less */
    private static void p12NoExchangeGivesLess() {
        Bounds.asks(() -> Bounds.county(0, 5, 5, 0, 5, 5), x -> x.now(7), 1);
        Bounds.asks(() -> Bounds.county(0, 0, 5, 0, 5, 0), x -> x.now(7), 1);
        Bounds.asks(() -> Bounds.county(0, 5, 1, 0, 0, 5), x -> x.now(7), 0);
        // the last two places alone
        Bounds.asks(() -> Bounds.county(6, 0, 0, 0, 5, 1, 0, 0, 5), x -> x.now(7), 0);
        // the first and the last place alone
        Bounds.asks(() -> Bounds.county(0, 9, 0, 0, 5, 5, 0, 0, 9), x -> x.now(7), 0);
    }
}
