/** Promises 29 to 31, with the terms that they use: a test for each sentence that names a boundary. */
public final class BoundsOfTextTest {

    public static void main(String[] args) throws Exception {
        Bounds.runAll(BoundsOfTextTest.class, 29, 31);
    }

    private static CountyJigsaw fed(int bytes) {
        CountyJigsaw x = Bounds.one();
        for (int i = 0; i < bytes; i++) {
            x.feed(' ', 1);
        }
        return x;
    }

    private static CountyJigsaw typed(String text) {
        CountyJigsaw x = Bounds.three();
        Bounds.type(x, text);
        return x;
    }

    // ---- 29: feed

    /** "(n 1 to 4)"; "BEYOND: n." */
    private static void p29BytesAre1To4() {
        for (int n = 1; n <= 4; n++) {
            int told = n;
            Bounds.due(Bounds.acts(Bounds::empty, x -> x.feed(-1, told), n).count(5), n);
        }
        for (Bounds.Made made : Bounds.SIZES) {
            Bounds.refusesOutside(made, 1, 4, (x, v) -> x.feed(0x20202020, v));
        }
        Bounds.refuses(Bounds::full, x -> x.feed(0, -4), Bounds.BEYOND);
    }

    /** "bytes, at most 120"; "FULL.": what would be the 121st isn't taken, and nothing of that call */
    private static void p29TapeHas120() {
        for (int n = 1; n <= 4; n++) {
            int told = n;
            Bounds.due(Bounds.acts(() -> fed(120 - told), x -> x.feed(0, told), 120).count(5), 120);
            for (int more = 1; more <= n; more++) {
                int bytes = 120 - n + more;
                Bounds.refuses(() -> fed(bytes), x -> x.feed(0x3b3b3b3b, told), Bounds.FULL);
            }
        }
    }

    /** "BEYOND: n. FULL.": in this order */
    private static void p29BeyondComesBeforeFull() {
        Bounds.refusesOutside(() -> fed(120), 1, 4, (x, v) -> x.feed(0, v));
    }

    /** Behind a wipe() or a text() there is room again. */
    private static void p29RoomAgain() {
        CountyJigsaw x = fed(120);
        x.wipe();
        Bounds.due(x.feed(0x736b7920, 4), 4);
        Bounds.due(x.feed(0x32203320, 4), 8);
        Bounds.due(x.text(), 1);
        Bounds.due(x.feed(0, 4), 4);
    }

    /** "the n lowest bytes of a number behind it, the highest of these first" */
    private static void p29LowestBytesTheHighestFirst() {
        int number = 0x3b3b3220;
        CountyJigsaw x = Bounds.empty();
        x.feed(0x736b7920, 4);
        x.feed(number, 2);
        x.feed(0xffffff33, 1);
        x.feed(0x3b3b616c, 1);
        Bounds.due(x.text(), -1 - 7);
        x.feed(0x736b7920, 4);
        x.feed(number, 2);
        x.feed(0xffffff33, 1);
        Bounds.due(x.text(), 1);
        Bounds.due(x.of(0, 1), 2);
        Bounds.due(x.of(0, 2), 3);
        x.feed(0xff6c6179, 3);
        x.feed(0x7f203020, 3);
        x.feed(0x80000030, 1);
        Bounds.due(x.text(), 1);
    }

    // ---- 30: wipe

    /** "THE TAPE is empty: how many it had": from 0 to 120 */
    private static void p30From0To120() {
        for (int bytes : new int[] {0, 1, 119, 120}) {
            CountyJigsaw x = Bounds.acts(() -> fed(bytes), y -> y.wipe(), bytes);
            Bounds.due(x.count(5), 0);
            Bounds.due(x.wipe(), 0);
            Bounds.same(x, fed(0));
        }
    }

    // ---- 31: text

    /** What the text makes of three PIECES in the row 1, 0, 2. */
    private static CountyJigsaw reads(String text, int items) {
        CountyJigsaw x = Bounds.acts(() -> typed(text), y -> y.text(), items);
        Bounds.due(x.count(5), 0);
        return x;
    }

    /** "With a FAULT: -1 less the FAULT (nothing changes but that THE TAPE is empty; no finding)" */
    private static void faulty(String text, int fault) {
        CountyJigsaw x = Bounds.acts(() -> typed(text), y -> y.text(), -1 - fault);
        Bounds.due(x.count(5), 0);
        Bounds.same(x, Bounds.three());
    }

    /** The same text with one word of the last kind of figure, right and then wrong. */
    private static void lastAndFirst(String before, String last, String first, String after) {
        reads(before + last + after, (int) (before + after).chars().filter(c -> c == ';').count() + 1);
        faulty(before + first + after, before.length());
    }

    /** "or how many bytes there are if it ends too early": also with none, and with blanks alone */
    private static void p31Empty() {
        faulty("", 0);
        faulty(" ", 1);
        faulty("     ", 5);
    }

    /** "how many bytes there are if it ends too early": wherever an ITEM may break off */
    private static void p31EndsTooEarly() {
        String whole = "farm 1 2 wants 3 turned;swap 4 5 6;lay 0 1";
        int[] ends = {4, 5, 6, 7, 14, 15, 24, 28, 29, 30, 31, 32, 33, 35, 38, 39, 40, 41};
        for (int end : ends) {
            faulty(whole.substring(0, end), end);
        }
        int[] wholes = {8, 9, 16, 17, 23, 34, 42};
        int[] items = {1, 1, 1, 1, 1, 2, 3};
        for (int i = 0; i < wholes.length; i++) {
            reads(whole.substring(0, wholes[i]), items[i]);
        }
    }

    /** A full TAPE: read to its end, and a FAULT there and at its last byte. */
    private static void p31FullTape() {
        reads("sky 1 1" + " ".repeat(113), 1);
        reads(" ".repeat(113) + "sky 1 1", 1);
        faulty(" ".repeat(120), 120);
        faulty("sky 1 1" + " ".repeat(112) + ";", 120);
        faulty("sky 1 1" + " ".repeat(112) + "?", 119);
        faulty("sky 1 1;" + "z".repeat(112), 8);
        faulty("sky 1 " + "9".repeat(114), 6);
        CountyJigsaw x = reads("sky 1 " + "0".repeat(113) + "9", 1);
        Bounds.due(x.of(3, 2), 9);
    }

    /** "how many ITEMS": as many as a TAPE can hold */
    private static void p31ManyItems() {
        Bounds.row(reads("lay0 1;".repeat(16) + "lay0 1", 17), 0, 1, 2);
        Bounds.row(reads("lay0 1;".repeat(15) + "lay0 1", 16), 1, 0, 2);
    }

    /** "ITEM: piece, farm, sky, cloud, hand, grass or manor" */
    private static void p31WordsOfKinds() {
        String[] words = {"piece", "farm", "sky", "cloud", "hand", "grass", "manor"};
        for (int kind = 0; kind <= 6; kind++) {
            CountyJigsaw x = reads(words[kind] + " 2 7", 1);
            int[] dues = {kind, 2, 7, -1, 0, 3};
            for (int what = 0; what <= 5; what++) {
                Bounds.due(x.of(3, what), dues[what]);
            }
            faulty(words[kind] + "s 2 7", 0);
            faulty(words[kind].substring(1) + " 2 7", 0);
            faulty(words[kind].substring(0, words[kind].length() - 1) + " 2 7", 0);
            faulty("sky 0 0;" + words[kind].toUpperCase() + " 2 7", 8);
        }
    }

    /** "another WORD": one that differs in a single letter, or has one more, or one less */
    private static void p31AnotherWord() {
        String[] words = {"piece", "farm", "sky", "cloud", "hand", "grass", "manor", "swap", "lay", "wants", "turned"};
        for (String word : words) {
            boolean isBehind = word.equals("wants") || word.equals("turned");
            String before = isBehind ? "sky 1 1 " : "lay 0 0;";
            String after = word.equals("turned") ? "" : word.equals("swap") ? " 1 1 1" : word.equals("wants") ? " 1" : " 1 1";
            reads(before + word + after, isBehind ? 1 : 2);
            for (int i = 0; i < word.length(); i++) {
                char other = word.charAt(i) == 'z' ? 'a' : (char) (word.charAt(i) + 1);
                faulty(before + word.substring(0, i) + other + word.substring(i + 1) + after, 8);
                faulty(before + word.substring(0, i) + word.substring(i + 1) + after, 8);
                faulty(before + word.substring(0, i) + word.charAt(i) + word.substring(i) + after, 8);
            }
        }
    }

    /** "two NUMBERS (LEFT, RIGHT)": 0 to 9 */
    private static void p31EdgesAre0To9() {
        lastAndFirst("sky ", "0", "-1", " 5");
        lastAndFirst("sky ", "9", "10", " 5");
        lastAndFirst("sky 5 ", "0", "-1", "");
        lastAndFirst("sky 5 ", "9", "10", "");
        lastAndFirst("sky 5 ", "9", "99", " turned");
        faulty("sky 5", 5);
        faulty("sky 5 5 5", 8);
        faulty("sky five 5", 4);
        CountyJigsaw x = reads("piece 0 9;piece 9 0", 2);
        Bounds.due(x.of(3, 1), 0);
        Bounds.due(x.of(3, 2), 9);
        Bounds.due(x.of(4, 1), 9);
        Bounds.due(x.of(4, 2), 0);
    }

    /** "perhaps wants and a NUMBER (0 to 7)": there or not */
    private static void p31WantIs0To7() {
        lastAndFirst("farm 1 2 wants ", "0", "-1", "");
        lastAndFirst("farm 1 2 wants ", "7", "8", "");
        lastAndFirst("farm 1 2 wants ", "7", "9999", " turned;lay 0 0");
        for (int want = 0; want <= 7; want++) {
            Bounds.due(reads("farm 1 2 wants " + want, 1).of(3, 3), want);
        }
        Bounds.due(reads("farm 1 2", 1).of(3, 3), -1);
        faulty("farm 1 2 wants turned", 15);
        faulty("farm 1 2 wants ;sky 1 1", 15);
        faulty("farm 1 wants 2", 7);
        faulty("wants 2", 0);
    }

    /** "perhaps turned": behind wants, once */
    private static void p31TurnedComesLast() {
        Bounds.due(reads("farm 1 2 turned", 1).of(3, 4), 1);
        Bounds.due(reads("farm 1 2 wants 1 turned", 1).of(3, 4), 1);
        faulty("farm 1 2 turned wants 1", 16);
        faulty("farm 1 2 turned turned", 16);
        faulty("farm 1 2 wants 1 wants 1", 17);
        faulty("farm turned 1 2", 5);
        faulty("turned", 0);
    }

    /** "swap, three NUMBERS (a place of THE LIST, 0 to 5 ..": */
    private static void p31PlaceOfListIs0To5() {
        lastAndFirst("swap ", "0", "-1", " 3 4");
        lastAndFirst("swap ", "5", "6", " 3 4");
        Bounds.due(reads("swap 0 3 4", 1).listed(0), 34);
        Bounds.due(reads("swap 5 3 4", 1).listed(5), 34);
    }

    /** ".. two places, 0 to 7 each)", which THE ROW needn't have */
    private static void p31PlacesOfASwapAre0To7() {
        lastAndFirst("swap 1 ", "0", "-1", " 4");
        lastAndFirst("swap 1 ", "7", "8", " 4");
        lastAndFirst("swap 1 4 ", "0", "-1", "");
        lastAndFirst("swap 1 4 ", "7", "8", "");
        Bounds.due(reads("swap 1 7 0", 1).listed(1), 70);
        Bounds.due(reads("swap 1 0 7", 1).listed(1), 7);
        faulty("swap 1 2", 8);
        faulty("swap 1 2 3 4", 11);
        faulty("swap 1 2 3 turned", 11);
        faulty("swap 1 2 3 wants 4", 11);
    }

    /** "lay, two NUMBERS (places that THE ROW has by then)" */
    private static void p31PlacesOfALayAreOfTheRow() {
        lastAndFirst("lay ", "0", "-1", " 1");
        lastAndFirst("lay ", "2", "3", " 1");
        lastAndFirst("lay 1 ", "0", "-1", "");
        lastAndFirst("lay 1 ", "2", "3", "");
        Bounds.row(reads("lay 0 2", 1), 2, 0, 1);
        Bounds.row(reads("lay 2 2", 1), 1, 0, 2);
        Bounds.row(reads("lay 2 1;lay 1 0", 2), 2, 1, 0);
        faulty("lay 0", 5);
        faulty("lay 0 1 2", 8);
        faulty("lay 0 1 turned", 8);
    }

    /** "by then": with those that ITEMS before it made, not those behind it */
    private static void p31PlacesByThen() {
        Bounds.row(reads("sky 1 1;lay 3 0", 2), 3, 0, 2, 1);
        faulty("sky 1 1;lay 4 0", 12);
        faulty("lay 3 0;sky 1 1", 4);
        Bounds.due(Bounds.read(Bounds.empty(), "lay 0 0"), -1 - 4);
        Bounds.due(Bounds.read(Bounds.empty(), "sky 1 1;lay 0 0"), 2);
        Bounds.due(Bounds.read(Bounds.empty(), "sky 1 1;lay 0 1"), -1 - 14);
    }

    /** "the WORD of a 9th PIECE: its own": the 8th is taken, also behind ones that were there */
    private static void p31NinthPiece() {
        String five = "sky 0 0;farm 0 0;hand 0 0;cloud 0 0;manor 9 9";
        Bounds.due(reads(five, 5).count(1), 8);
        faulty(five + ";grass 1 1", 46);
        faulty(five + "; piece", 47);
        faulty(five + ";sky 10 10", 46);
        Bounds.due(reads(five + ";lay 7 0;swap 0 1 2", 7).lies(0), 7);
        CountyJigsaw full = Bounds.full();
        full.wipe();
        Bounds.due(Bounds.read(full, " sky 1 1"), -1 - 1);
        Bounds.due(full.status(-1), 0);
        Bounds.due(Bounds.read(Bounds.empty(), "sky1 1;sky1 1;sky1 1;sky1 1;sky1 1;sky1 1;sky1 1;sky1 1"), 8);
        Bounds.due(Bounds.read(Bounds.empty(), "sky1 1;sky1 1;sky1 1;sky1 1;sky1 1;sky1 1;sky1 1;sky1 1;sky1 1"), -1 - 56);
    }

    /** "TOKENS, each as long as can be" */
    private static void p31TokensAsLongAsCanBe() {
        faulty("lay 01", 6);
        reads("lay 0 1", 1);
        faulty("skysky 1 1", 0);
        faulty("sky 12", 4);
        faulty("sky 1 2wantsturned 1", 7);
        reads("sky 1 2wants3turned", 1);
        faulty("sky 1 1;lay0 1swap", 14);
    }

    /** "WORDS (letters a to z)" */
    private static void p31LettersAreAToZ() {
        faulty("skya 1 1", 0);
        faulty("skyz 1 1", 0);
        faulty("sky` 1 1", 3);
        faulty("sky{ 1 1", 3);
        faulty("skyA 1 1", 3);
        faulty("skyZ 1 1", 3);
        faulty("Sky 1 1", 0);
        faulty("sky 1 1;lay\u00e1 0 1", 11);
    }

    /** "NUMBERS (digits, 9999 at most)": 0 and 9 are digits, what lies next to them is none */
    private static void p31DigitsAre0To9() {
        reads("sky 0 9", 1);
        faulty("sky / 9", 4);
        faulty("sky : 9", 4);
        faulty("sky 1/ 9", 5);
        faulty("sky 1: 9", 5);
        faulty("sky 1 9999", 6);
        faulty("sky 1 10000", 6);
        faulty("sky 4294967297 1", 4);
        faulty("sky 1 18446744073709551617", 6);
        Bounds.due(reads("sky 0009 00000", 1).of(3, 1), 9);
    }

    /** "SIGN ;": nothing else stands between ITEMS */
    private static void p31SignIsASemicolon() {
        reads("lay 0 1;lay 0 1", 2);
        faulty("lay 0 1:lay 0 1", 7);
        faulty("lay 0 1<lay 0 1", 7);
        faulty("lay 0 1,lay 0 1", 7);
        faulty("lay 0 1 lay 0 1", 8);
        faulty("sky 0 1 sky 0 1", 8);
    }

    /** "TEXT: ITEM { ; ITEM }": no ITEM is empty */
    private static void p31NoItemIsEmpty() {
        faulty(";", 0);
        faulty(";lay 0 1", 0);
        faulty("lay 0 1;", 8);
        faulty("lay 0 1; ", 9);
        faulty("lay 0 1;;lay 0 1", 8);
        faulty("lay 0 1; ;lay 0 1", 9);
    }

    /** "blanks may stand between": none, one, many, ahead of all and behind all */
    private static void p31BlanksMayStandBetween() {
        reads("lay0 1;sky1 1turned", 2);
        reads("  lay   0   1  ;  sky  1  1  turned  ", 2);
        for (int b : new int[] {0, 9, 10, 13, 31, 33, 95, 127, 128, 160, 255}) {
            faulty("lay" + (char) b + "0 1", 3);
            faulty((char) b + "lay 0 1", 0);
            faulty("lay 0 1" + (char) b, 7);
        }
    }

    /** "a byte that begins no TOKEN": of all bytes, where a SIGN or the end is due */
    private static void p31EveryByte() {
        for (int b = 0; b <= 255; b++) {
            String text = "lay 0 1 " + (char) b;
            if (b == ' ') {
                reads(text, 1);
            } else {
                faulty(text, b == ';' ? 9 : 8);
            }
        }
    }

    /** "the first TOKEN that can't stand there": what is wrong behind it is nothing to it */
    private static void p31FirstOfSeveral() {
        faulty("sky 10 10 ?", 4);
        faulty("sky 1 10;sky 1 1;;", 6);
        faulty("lay 3 ?", 4);
        faulty("lay ? 3", 4);
    }

    /** "all that it tells is so, item by item": a later one of the same place counts */
    private static void p31ItemByItem() {
        Bounds.due(reads("swap 2 1 1;swap 2 3 3", 2).listed(2), 33);
        CountyJigsaw x = reads("farm 1 2 wants 4;farm 3 4 wants 3 turned;lay 3 4", 3);
        Bounds.row(x, 1, 0, 2, 4, 3);
        Bounds.due(x.of(3, 3), 4);
        Bounds.due(x.of(4, 3), 3);
        Bounds.due(x.now(5), 16);
        Bounds.due(x.now(3), 1 + 16);
    }

    /** "nothing changes but that THE TAPE is empty": what good ITEMS before the FAULT told isn't so */
    private static void p31NothingOfAFaultyText() {
        faulty("farm 1 1 wants 0 turned;swap 1 2 3;lay 0 1;lay 0 4", 49);
        faulty("swap 0 7 7;sky 1 1;sky 1 1 wants 8", 33);
        faulty("lay 0 1;", 8);
    }
}
