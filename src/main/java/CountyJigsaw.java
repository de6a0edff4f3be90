/** A jigsaw of the county: pieces in a row, years that swap and cut them, and how best to lay them. */
public final class CountyJigsaw {

    private static final int LOW = -1000001;
    private static final int BEYOND = 0;
    private static final int FULL = 1;
    private static final int KIND = 2;
    private static final int NONE = 3;
    private static final int STATE = 4;
    private static final int MISSING = 5;
    private static final int SIZE = 6;
    private static final int FINDINGS = 7;

    private static final int PIECE = 0;
    private static final int FARM = 1;
    private static final int SKY = 2;
    private static final int CLOUD = 3;
    private static final int HAND = 4;
    private static final int GRASS = 5;
    private static final int MANOR = 6;
    private static final int KINDS = 7;

    private static final int MOST_PIECES = 8;
    private static final int MOST_EDGE = 9;
    private static final int LIST_PLACES = 6;
    private static final int SPOTS = 10;
    private static final int LAST_YEAR = 99999;
    private static final int MOST_GO = 60;
    private static final int MOST_TIP = 20;
    private static final int MOST_ODDS = 10;
    private static final int MOST_AHEAD = 100;
    private static final int MOST_WAIT = 200;
    private static final int MOST_TOLD_SUM = 999;
    private static final int MOST_BYTES = 120;
    private static final int SHEETS = 4;
    private static final int MOST_NUMBERS = 40;
    private static final int ASKED_NUMBERS = 12;

    /** Far above any SUM, and far enough from the greatest int to be added to. */
    private static final int FAR = 1000000;

    private final County county = new County();
    private final County kept = new County();
    /** Made once and used by every call that tries something out, so that no call makes objects. */
    private final County trial = new County();
    private final BestLaying laying = new BestLaying();
    private final Tape tape = new Tape();
    private final Sheet[] sheets = new Sheet[SHEETS];
    private final int[] findings = new int[FINDINGS];
    private boolean isKept;

    public CountyJigsaw() {
        for (int s = 0; s < SHEETS; s++) {
            sheets[s] = new Sheet();
        }
    }

    // ---- county, pieces

    public int list(int i, int a, int b) {
        if (!isListPlace(i) || !isPlace(a) || !isPlace(b)) {
            return found(BEYOND);
        }
        int was = county.swaps[i];
        county.swaps[i] = 10 * a + b;
        return was;
    }

    public int listed(int i) {
        return isListPlace(i) ? county.swaps[i] : found(BEYOND);
    }

    public int piece(int kind, int left, int right) {
        if (!isKind(kind) || !isEdge(left) || !isEdge(right)) {
            return found(BEYOND);
        }
        if (county.pieces >= MOST_PIECES) {
            return found(FULL);
        }
        return county.addPiece(kind, left, right);
    }

    public int of(int piece, int what) {
        if (!county.has(piece) || what < 0 || what > 6) {
            return found(BEYOND);
        }
        return county.told(piece, what);
    }

    public int change(int piece, int what, int v) {
        if (!county.has(piece) || !couldBe(what, v)) {
            return found(BEYOND);
        }
        int was = county.told(piece, what);
        county.become(piece, what, v);
        return was;
    }

    public int lies(int place) {
        return county.has(place) ? county.row[place] : found(BEYOND);
    }

    public int gap(int a, int b) {
        if (!county.has(a) || !county.has(b) || a == b) {
            return found(BEYOND);
        }
        return county.gapOf(a, b);
    }

    public int edge(int piece, int side) {
        if (!county.has(piece) || side < 0 || side > 1) {
            return found(BEYOND);
        }
        return county.edgeOf(piece, side);
    }

    public int swap(int a, int b) {
        if (!county.has(a) || !county.has(b)) {
            return found(BEYOND);
        }
        county.exchange(a, b);
        return county.sumOfRow();
    }

    // ---- years

    public int go(int n) {
        if (n < 1 || n > MOST_GO) {
            return found(BEYOND);
        }
        if (county.year + n > LAST_YEAR) {
            return found(STATE);
        }
        county.passYears(n);
        return county.sumOfRow();
    }

    public int now(int what) {
        switch (what) {
            case 0: return county.year;
            case 1: return county.sumOfRow();
            case 2: return county.closedPlaces();
            case 3: return county.grantedPieces();
            case 4: return county.greatestGap();
            case 5: return county.turned;
            case 6: return county.sumOfRow() - laying.leastSum(county);
            case 7: return leastExchange() < 0 ? 1 : 0;
            default: return found(BEYOND);
        }
    }

    // ---- what will be (nothing changes)

    public int ahead(int piece, int what, int n) {
        boolean isAsked = what == 1 || what == 5;
        if (!county.has(piece) || !isAsked || n < 0 || n > MOST_AHEAD) {
            return found(BEYOND);
        }
        trial.takeFrom(county);
        trial.passYears(n);
        return trial.told(piece, what);
    }

    public int sum(int n) {
        if (n < 0 || n > MOST_AHEAD) {
            return found(BEYOND);
        }
        trial.takeFrom(county);
        trial.passYears(n);
        return trial.sumOfRow();
    }

    public int when(int v) {
        if (!isToldSum(v)) {
            return found(BEYOND);
        }
        trial.takeFrom(county);
        for (int n = 0; n <= MOST_WAIT; n++) {
            if (trial.sumOfRow() <= v) {
                return n;
            }
            trial.passYear();
        }
        return found(NONE);
    }

    public int comes(int piece, int place) {
        if (!county.has(piece) || !isPlace(place)) {
            return found(BEYOND);
        }
        trial.takeFrom(county);
        for (int n = 0; n <= MOST_WAIT; n++) {
            if (trial.placeOf(piece) == place) {
                return n;
            }
            trial.passYear();
        }
        return found(NONE);
    }

    public int granted(int piece) {
        if (!county.has(piece)) {
            return found(BEYOND);
        }
        trial.takeFrom(county);
        for (int n = 0; n <= MOST_WAIT; n++) {
            if (trial.isGranted(piece)) {
                return n;
            }
            trial.passYear();
        }
        return found(NONE);
    }

    // ---- how to lay

    public int best() {
        return laying.leastSum(county);
    }

    public int bestAt(int place) {
        return county.has(place) ? laying.pieceAt(county, place) : found(BEYOND);
    }

    public int settle() {
        int times = 0;
        // Each exchange lessens SUM, which is never below 0, so the bound is never reached.
        for (int n = 0; n < FAR; n++) {
            int places = leastExchange();
            if (places < 0) {
                break;
            }
            county.exchange(places / 10, places % 10);
            times++;
        }
        return times;
    }

    public int edgeFor(int piece) {
        return county.has(piece) ? bestValueFor(piece, 1, MOST_EDGE) : found(BEYOND);
    }

    public int kindFor(int piece) {
        return county.has(piece) ? bestValueFor(piece, 0, KINDS - 1) : found(BEYOND);
    }

    public int turn(int v) {
        if (!isToldSum(v)) {
            return found(BEYOND);
        }
        trial.takeFrom(county);
        int fewest = MOST_PIECES + 1;
        int chosen = 0;
        for (int set = 0; set < 1 << county.pieces; set++) {
            int size = Integer.bitCount(set);
            if (size < fewest) {
                trial.turned = county.turned ^ set;
                if (trial.sumOfRow() <= v) {
                    fewest = size;
                    chosen = set;
                }
            }
        }
        return fewest <= MOST_PIECES ? chosen : found(NONE);
    }

    // ---- told sums

    public int fits(int s, int piece) {
        int wrong = wrongSheet(s);
        if (wrong >= 0) {
            return found(wrong);
        }
        if (!county.has(piece)) {
            return found(BEYOND);
        }
        int pairs = 0;
        for (int left = 0; left <= MOST_EDGE; left++) {
            for (int right = 0; right <= MOST_EDGE; right++) {
                trial.takeFrom(county);
                trial.left[piece] = left;
                trial.right[piece] = right;
                if (trialGoesAs(sheets[s])) {
                    pairs++;
                }
            }
        }
        return pairs;
    }

    public int kinds(int s, int piece) {
        int wrong = wrongSheet(s);
        if (wrong >= 0) {
            return found(wrong);
        }
        if (!county.has(piece)) {
            return found(BEYOND);
        }
        int set = 0;
        for (int kind = 0; kind < KINDS; kind++) {
            trial.takeFrom(county);
            trial.kind[piece] = kind;
            if (trialGoesAs(sheets[s])) {
                set |= 1 << kind;
            }
        }
        return set;
    }

    // ---- tippings

    public int tip(int n) {
        if (n < 1 || n > MOST_TIP) {
            return found(BEYOND);
        }
        if (county.year + n > LAST_YEAR) {
            return found(STATE);
        }
        for (int i = 0; i < n; i++) {
            int a = county.draw() % MOST_PIECES;
            int b = county.draw() % MOST_PIECES;
            county.swaps[county.year % LIST_PLACES] = 10 * a + b;
            county.passYear();
        }
        return county.sumOfRow();
    }

    public long odds(int n, int what) {
        if (n < 0 || n > MOST_ODDS || what < 0 || what > 1) {
            return found(BEYOND);
        }
        int above = harmlessSwaps();
        int below = MOST_PIECES * MOST_PIECES;
        // The line stands over a power of 2, so halving alone brings the lowest terms.
        while (below > 1 && above % 2 == 0) {
            above /= 2;
            below /= 2;
        }
        return power(what == 0 ? above : below, n);
    }

    public int seed(int v) {
        int was = county.z;
        county.z = v;
        return was;
    }

    // ---- texts

    public int feed(int bytes, int n) {
        if (n < 1 || n > 4) {
            return found(BEYOND);
        }
        if (tape.length + n > MOST_BYTES) {
            return found(FULL);
        }
        tape.append(bytes, n);
        return tape.length;
    }

    public int wipe() {
        int had = tape.length;
        tape.length = 0;
        return had;
    }

    public int text() {
        trial.takeFrom(county);
        int items = tape.readInto(trial);
        tape.length = 0;
        if (items >= 0) {
            county.takeFrom(trial);
        }
        return items;
    }

    // ---- spots, sheets

    public int hold(int spot, int piece) {
        if (!isSpot(spot) || (piece != -1 && !county.has(piece))) {
            return found(BEYOND);
        }
        county.spots[spot] = piece;
        return 1;
    }

    public int as(int spot, int kind) {
        if (!isSpot(spot) || !isKind(kind)) {
            return found(BEYOND);
        }
        int piece = county.spots[spot];
        if (piece < 0) {
            return found(MISSING);
        }
        return isOrUnder(county.kind[piece], kind) ? piece : found(KIND);
    }

    public int sheet(int s, int bits, int n) {
        boolean areBits = bits == 0 || bits == 8 || bits == 16 || bits == 32;
        if (!isSheet(s) || !areBits) {
            return found(BEYOND);
        }
        if (n < 0) {
            return found(SIZE);
        }
        if (n > MOST_NUMBERS) {
            return found(BEYOND);
        }
        sheets[s].begin(bits, n);
        return sheets[s].size;
    }

    public int write(int s, int i, int v) {
        int wrong = wrongSheet(s);
        if (wrong >= 0) {
            return found(wrong);
        }
        if (i < 0 || i >= sheets[s].size) {
            return found(BEYOND);
        }
        sheets[s].put(i, v);
        return 1;
    }

    public int copy(int s, int from, int t, int to, int n) {
        if (!isSheet(s) || !isSheet(t)) {
            return found(BEYOND);
        }
        if (sheets[s].bits == 0 || sheets[t].bits == 0) {
            return found(MISSING);
        }
        if (sheets[s].bits != sheets[t].bits) {
            return found(KIND);
        }
        if (!sheets[s].hasRun(from, n) || !sheets[t].hasRun(to, n)) {
            return found(BEYOND);
        }
        // arraycopy takes all as it was, where the two runs overlap, too.
        System.arraycopy(sheets[s].numbers, from, sheets[t].numbers, to, n);
        return n;
    }

    public int load(int s) {
        int wrong = wrongSheet(s);
        if (wrong >= 0) {
            return found(wrong);
        }
        int came = 0;
        while (came < sheets[s].size && county.has(came) && isEdge(sheets[s].numbers[came])) {
            county.left[came] = sheets[s].numbers[came];
            came++;
        }
        return came;
    }

    public int judge(int s) {
        int wrong = wrongSheet(s);
        if (wrong >= 0) {
            return found(wrong);
        }
        for (int place = 0; place < sheets[s].size; place++) {
            if (!county.has(place) || county.row[place] != sheets[s].numbers[place]) {
                return 1 + place;
            }
        }
        return 0;
    }

    // ---- images

    public int image() {
        kept.takeFrom(county);
        isKept = true;
        return 1;
    }

    public int undo() {
        if (!isKept) {
            return found(NONE);
        }
        county.takeFrom(kept);
        return county.year;
    }

    public int tear() {
        int was = isKept ? 1 : 0;
        isKept = false;
        return was;
    }

    public int count(int what) {
        switch (what) {
            case 0: return county.year;
            case 1: return county.pieces;
            case 2: return county.sumOfRow();
            case 3: return Integer.bitCount(county.turned);
            case 4: return Integer.bitCount(county.grantedPieces());
            case 5: return tape.length;
            case 6: return county.z;
            case 7: return county.filledSpots();
            default: return found(BEYOND);
        }
    }

    public int status(int which) {
        if (which == -1) {
            return allFindings();
        }
        return which >= 0 && which < FINDINGS ? findings[which] : found(BEYOND);
    }

    // ---- what the calls share

    private int found(int finding) {
        findings[finding]++;
        return LOW - finding;
    }

    private int allFindings() {
        int all = 0;
        for (int finding = 0; finding < FINDINGS; finding++) {
            all += findings[finding];
        }
        return all;
    }

    /** The finding that stands against the use of a sheet, or -1. */
    private int wrongSheet(int s) {
        if (!isSheet(s)) {
            return BEYOND;
        }
        return sheets[s].bits == 0 ? MISSING : -1;
    }

    /** The exchange (10 times the lesser place and the greater one) that lessens SUM most, or -1. */
    private int leastExchange() {
        int least = county.sumOfRow();
        int places = -1;
        for (int a = 0; a < county.pieces; a++) {
            for (int b = a + 1; b < county.pieces; b++) {
                int sum = sumExchanged(a, b);
                if (sum < least) {
                    least = sum;
                    places = 10 * a + b;
                }
            }
        }
        return places;
    }

    private int sumExchanged(int a, int b) {
        county.exchange(a, b);
        int sum = county.sumOfRow();
        county.exchange(a, b);
        return sum;
    }

    /** How many of the 64 pairs of places give no greater SUM when exchanged now. */
    private int harmlessSwaps() {
        int sum = county.sumOfRow();
        int harmless = 0;
        for (int a = 0; a < MOST_PIECES; a++) {
            for (int b = 0; b < MOST_PIECES; b++) {
                if (sumExchanged(a, b) <= sum) {
                    harmless++;
                }
            }
        }
        return harmless;
    }

    /** The least value of 0 to most that, as what of a PIECE, makes THE BEST LAYING's SUM least. */
    private int bestValueFor(int piece, int what, int most) {
        trial.takeFrom(county);
        int least = FAR;
        int value = 0;
        for (int v = 0; v <= most; v++) {
            trial.become(piece, what, v);
            int sum = laying.leastSum(trial);
            if (sum < least) {
                least = sum;
                value = v;
            }
        }
        return value;
    }

    /** Whether SUM of the trial, now and year by year, is as a sheet tells; the trial's years go by. */
    private boolean trialGoesAs(Sheet told) {
        int asked = Math.min(told.size, ASKED_NUMBERS);
        for (int n = 0; n < asked; n++) {
            if (told.numbers[n] != -1 && told.numbers[n] != trial.sumOfRow()) {
                return false;
            }
            trial.passYear();
        }
        return true;
    }

    private static long power(int base, int n) {
        long product = 1;
        for (int i = 0; i < n; i++) {
            product *= base;
        }
        return product;
    }

    private static boolean couldBe(int what, int v) {
        switch (what) {
            case 0: return isKind(v);
            case 1:
            case 2: return isEdge(v);
            case 3: return v >= -1 && v < MOST_PIECES;
            case 4: return v == 0 || v == 1;
            default: return false;
        }
    }

    private static boolean isKind(int kind) {
        return kind >= 0 && kind < KINDS;
    }

    private static boolean isEdge(int v) {
        return v >= 0 && v <= MOST_EDGE;
    }

    private static boolean isPlace(int place) {
        return place >= 0 && place < MOST_PIECES;
    }

    private static boolean isListPlace(int i) {
        return i >= 0 && i < LIST_PLACES;
    }

    private static boolean isSpot(int spot) {
        return spot >= 0 && spot < SPOTS;
    }

    private static boolean isSheet(int s) {
        return s >= 0 && s < SHEETS;
    }

    private static boolean isToldSum(int v) {
        return v >= 0 && v <= MOST_TOLD_SUM;
    }

    private static boolean isOrUnder(int kind, int upper) {
        switch (upper) {
            case PIECE: return true;
            case FARM: return kind == FARM || kind == MANOR;
            case SKY: return kind == SKY || kind == CLOUD || kind == HAND;
            case CLOUD: return kind == CLOUD || kind == HAND;
            default: return kind == upper;
        }
    }

    /** All that an image keeps: PIECES, THE ROW, THE LIST, SPOTS, YEAR and z. */
    private static final class County {
        final int[] kind = new int[MOST_PIECES];
        final int[] left = new int[MOST_PIECES];
        final int[] right = new int[MOST_PIECES];
        final int[] want = new int[MOST_PIECES];
        final int[] row = new int[MOST_PIECES];
        final int[] swaps = new int[LIST_PLACES];
        final int[] spots = new int[SPOTS];
        /** The set of TURNED PIECES. */
        int turned;
        int pieces;
        int year;
        int z = 1;

        County() {
            for (int spot = 0; spot < SPOTS; spot++) {
                spots[spot] = -1;
            }
        }

        void takeFrom(County other) {
            System.arraycopy(other.kind, 0, kind, 0, MOST_PIECES);
            System.arraycopy(other.left, 0, left, 0, MOST_PIECES);
            System.arraycopy(other.right, 0, right, 0, MOST_PIECES);
            System.arraycopy(other.want, 0, want, 0, MOST_PIECES);
            System.arraycopy(other.row, 0, row, 0, MOST_PIECES);
            System.arraycopy(other.swaps, 0, swaps, 0, LIST_PLACES);
            System.arraycopy(other.spots, 0, spots, 0, SPOTS);
            turned = other.turned;
            pieces = other.pieces;
            year = other.year;
            z = other.z;
        }

        /** Whether there is such a PIECE, and so such a place of THE ROW, which has as many. */
        boolean has(int number) {
            return number >= 0 && number < pieces;
        }

        /** A new PIECE behind all others; the caller has seen that there is room. */
        int addPiece(int newKind, int newLeft, int newRight) {
            int piece = pieces;
            kind[piece] = newKind;
            left[piece] = newLeft;
            right[piece] = newRight;
            want[piece] = -1;
            row[piece] = piece;
            pieces++;
            return piece;
        }

        int told(int piece, int what) {
            switch (what) {
                case 0: return kind[piece];
                case 1: return left[piece];
                case 2: return right[piece];
                case 3: return want[piece];
                case 4: return turned >> piece & 1;
                case 5: return placeOf(piece);
                default: return growsOf(piece);
            }
        }

        void become(int piece, int what, int v) {
            switch (what) {
                case 0: kind[piece] = v; break;
                case 1: left[piece] = v; break;
                case 2: right[piece] = v; break;
                case 3: want[piece] = v; break;
                default: turned = turned & ~(1 << piece) | v << piece; break;
            }
        }

        int placeOf(int piece) {
            int place = 0;
            while (place < pieces && row[place] != piece) {
                place++;
            }
            return place;
        }

        /** The edge that shows on the left, which for a TURNED PIECE is its RIGHT one. */
        int shownLeft(int piece) {
            return (turned >> piece & 1) == 0 ? left[piece] : right[piece];
        }

        int shownRight(int piece) {
            return (turned >> piece & 1) == 0 ? right[piece] : left[piece];
        }

        int gapOf(int a, int b) {
            int asPiece = Math.abs(shownRight(a) - shownLeft(b));
            int asFarm = b == want[a] ? 0 : asPiece;
            int asSky = isOrUnder(kind[b], SKY) ? 0 : asPiece + 1;
            int asCloud = asSky / 2;
            switch (kind[a]) {
                case FARM: return asFarm;
                case MANOR: return asFarm + 2;
                case SKY: return asSky;
                case CLOUD: return asCloud;
                case HAND: return asCloud + year % 3;
                case GRASS: return asPiece > 0 ? 1 : 0;
                default: return asPiece;
            }
        }

        int edgeOf(int piece, int side) {
            int e = side == 0 ? shownLeft(piece) : shownRight(piece);
            switch (kind[piece]) {
                case MANOR: return 0;
                case SKY:
                case CLOUD: return e / 2;
                case HAND: return e / 2 + 1;
                case GRASS: return 9 - e;
                default: return e;
            }
        }

        int growsOf(int piece) {
            int asPiece = 1;
            int asSky = asPiece + 2;
            int asCloud = asSky + 1;
            switch (kind[piece]) {
                case FARM:
                case MANOR: return asPiece - 1;
                case SKY: return asSky;
                case CLOUD: return asCloud;
                case HAND: return 2 * asCloud;
                case GRASS: return 0;
                default: return asPiece;
            }
        }

        int gapBehind(int place) {
            return gapOf(row[place], row[place + 1]);
        }

        int sumOfRow() {
            if (pieces == 0) {
                return 0;
            }
            int sum = edgeOf(row[0], 0) + edgeOf(row[pieces - 1], 1);
            for (int place = 0; place + 1 < pieces; place++) {
                sum += gapBehind(place);
            }
            return sum;
        }

        /** Does nothing where THE ROW hasn't both places. */
        void exchange(int a, int b) {
            if (has(a) && has(b)) {
                int lay = row[a];
                row[a] = row[b];
                row[b] = lay;
            }
        }

        void passYears(int n) {
            for (int i = 0; i < n; i++) {
                passYear();
            }
        }

        void passYear() {
            int places = swaps[year % LIST_PLACES];
            exchange(places / 10, places % 10);
            if (year % 3 == 2) {
                cut();
            }
            if (year < LAST_YEAR) {
                year++;
            }
        }

        void cut() {
            for (int piece = 0; piece < pieces; piece++) {
                left[piece] = (left[piece] + growsOf(piece)) % 10;
            }
        }

        int draw() {
            z = z * 1103515245 + 12345;
            return z >>> 8;
        }

        /** Whether a PIECE lies ahead of its WANT at once. */
        boolean isGranted(int piece) {
            int next = placeOf(piece) + 1;
            return next < pieces && row[next] == want[piece];
        }

        int grantedPieces() {
            int set = 0;
            for (int piece = 0; piece < pieces; piece++) {
                if (isGranted(piece)) {
                    set |= 1 << piece;
                }
            }
            return set;
        }

        /** The set of places whose PIECE has no GAP to the next one. */
        int closedPlaces() {
            int set = 0;
            for (int place = 0; place + 1 < pieces; place++) {
                if (gapBehind(place) == 0) {
                    set |= 1 << place;
                }
            }
            return set;
        }

        int greatestGap() {
            int greatest = 0;
            for (int place = 0; place + 1 < pieces; place++) {
                greatest = Math.max(greatest, gapBehind(place));
            }
            return greatest;
        }

        int filledSpots() {
            int filled = 0;
            for (int spot = 0; spot < SPOTS; spot++) {
                if (spots[spot] >= 0) {
                    filled++;
                }
            }
            return filled;
        }
    }

    /** THE BEST LAYING, by the least rest for each set of PIECES laid and each last one of them. */
    private static final class BestLaying {
        private final int[] gaps = new int[MOST_PIECES * MOST_PIECES];
        private final int[] firstEdges = new int[MOST_PIECES];
        private final int[] lastEdges = new int[MOST_PIECES];
        /** At 8 times the set laid and its last PIECE: what the GAPS and the EDGE behind it add at least. */
        private final int[] rests = new int[(1 << MOST_PIECES) * MOST_PIECES];

        int leastSum(County county) {
            if (county.pieces == 0) {
                return 0;
            }
            weigh(county);
            fillRests(county.pieces);
            int first = bestNext(county.pieces, 0, -1);
            return costOfNext(0, -1, first);
        }

        int pieceAt(County county, int place) {
            weigh(county);
            fillRests(county.pieces);
            int laid = 0;
            int last = -1;
            for (int i = 0; i <= place; i++) {
                last = bestNext(county.pieces, laid, last);
                laid |= 1 << last;
            }
            return last;
        }

        private void weigh(County county) {
            for (int a = 0; a < county.pieces; a++) {
                firstEdges[a] = county.edgeOf(a, 0);
                lastEdges[a] = county.edgeOf(a, 1);
                for (int b = 0; b < county.pieces; b++) {
                    gaps[a * MOST_PIECES + b] = county.gapOf(a, b);
                }
            }
        }

        private void fillRests(int pieces) {
            int all = (1 << pieces) - 1;
            // A set's rest asks those of greater sets alone, so these come first.
            for (int laid = all; laid > 0; laid--) {
                for (int last = 0; last < pieces; last++) {
                    if ((laid >> last & 1) == 1) {
                        rests[laid * MOST_PIECES + last] =
                                laid == all ? lastEdges[last] : leastRest(pieces, laid, last);
                    }
                }
            }
        }

        private int leastRest(int pieces, int laid, int last) {
            int least = FAR;
            for (int next = 0; next < pieces; next++) {
                if ((laid >> next & 1) == 0) {
                    least = Math.min(least, costOfNext(laid, last, next));
                }
            }
            return least;
        }

        /** The least number of those with which the rest is least; 0 if all are laid. */
        private int bestNext(int pieces, int laid, int last) {
            int least = FAR;
            int best = 0;
            for (int next = 0; next < pieces; next++) {
                if ((laid >> next & 1) == 0) {
                    int cost = costOfNext(laid, last, next);
                    if (cost < least) {
                        least = cost;
                        best = next;
                    }
                }
            }
            return best;
        }

        /** What next and all behind it add, if it comes behind last (-1: it lies first). */
        private int costOfNext(int laid, int last, int next) {
            int step = last < 0 ? firstEdges[next] : gaps[last * MOST_PIECES + next];
            return step + rests[(laid | 1 << next) * MOST_PIECES + next];
        }
    }

    /** THE TAPE, and the reading of a TEXT from it. */
    private static final class Tape {
        private static final int END = 0;
        private static final int WORD = 1;
        private static final int NUMBER = 2;
        private static final int SIGN = 3;
        private static final int OTHER = 4;
        private static final int ABOVE_NUMBERS = 10000;

        private final int[] bytes = new int[MOST_BYTES];
        int length;
        /** The TOKEN that stands next: its sort, its first byte, and the byte behind it. */
        private int sort;
        private int begin;
        private int end;

        /** The caller has seen that there is room. */
        void append(int number, int n) {
            for (int i = n - 1; i >= 0; i--) {
                bytes[length] = number >>> 8 * i & 255;
                length++;
            }
        }

        /** Makes all so in a county: how many ITEMS; or -1 less the FAULT, with the county half made. */
        int readInto(County county) {
            end = 0;
            step();
            for (int items = 1; items <= length; items++) {
                if (!readItem(county)) {
                    return -1 - begin;
                }
                if (sort == END) {
                    return items;
                }
                if (sort != SIGN) {
                    return -1 - begin;
                }
                step();
            }
            return -1 - begin;
        }

        /** False, with the faulty TOKEN standing next, if it can't be read; so the others below. */
        private boolean readItem(County county) {
            int kind = kindNamed();
            if (kind >= 0) {
                return readPiece(county, kind);
            }
            if (isWord("swap")) {
                return readSwap(county);
            }
            return isWord("lay") && readLay(county);
        }

        private boolean readPiece(County county, int kind) {
            if (county.pieces >= MOST_PIECES) {
                return false;
            }
            step();
            int left = readNumber(MOST_EDGE);
            int right = left < 0 ? -1 : readNumber(MOST_EDGE);
            if (right < 0) {
                return false;
            }
            int piece = county.addPiece(kind, left, right);
            if (isWord("wants")) {
                step();
                int want = readNumber(MOST_PIECES - 1);
                if (want < 0) {
                    return false;
                }
                county.want[piece] = want;
            }
            if (isWord("turned")) {
                step();
                county.turned |= 1 << piece;
            }
            return true;
        }

        private boolean readSwap(County county) {
            step();
            int i = readNumber(LIST_PLACES - 1);
            int a = i < 0 ? -1 : readNumber(MOST_PIECES - 1);
            int b = a < 0 ? -1 : readNumber(MOST_PIECES - 1);
            if (b < 0) {
                return false;
            }
            county.swaps[i] = 10 * a + b;
            return true;
        }

        private boolean readLay(County county) {
            step();
            int a = readNumber(county.pieces - 1);
            int b = a < 0 ? -1 : readNumber(county.pieces - 1);
            if (b < 0) {
                return false;
            }
            county.exchange(a, b);
            return true;
        }

        /** The NUMBER that stands next, which is passed; or -1, if none of 0 to most does. */
        private int readNumber(int most) {
            int value = sort == NUMBER ? valueOfDigits() : ABOVE_NUMBERS;
            if (value > most) {
                return -1;
            }
            step();
            return value;
        }

        private int kindNamed() {
            for (int kind = 0; kind < KINDS; kind++) {
                if (isWord(nameOf(kind))) {
                    return kind;
                }
            }
            return -1;
        }

        private static String nameOf(int kind) {
            switch (kind) {
                case FARM: return "farm";
                case SKY: return "sky";
                case CLOUD: return "cloud";
                case HAND: return "hand";
                case GRASS: return "grass";
                case MANOR: return "manor";
                default: return "piece";
            }
        }

        private boolean isWord(String word) {
            if (sort != WORD || end - begin != word.length()) {
                return false;
            }
            for (int i = 0; i < word.length(); i++) {
                if (bytes[begin + i] != word.charAt(i)) {
                    return false;
                }
            }
            return true;
        }

        /** Passes the TOKEN that stands next, and blanks, to the one behind it. */
        private void step() {
            begin = end;
            while (begin < length && bytes[begin] == ' ') {
                begin++;
            }
            sort = sortAt(begin);
            end = sort == END ? begin : begin + 1;
            boolean isLong = sort == WORD || sort == NUMBER;
            while (isLong && end < length && sortAt(end) == sort) {
                end++;
            }
        }

        /** The sort of TOKEN of which a byte is. */
        private int sortAt(int i) {
            if (i >= length) {
                return END;
            }
            if (bytes[i] >= 'a' && bytes[i] <= 'z') {
                return WORD;
            }
            if (bytes[i] >= '0' && bytes[i] <= '9') {
                return NUMBER;
            }
            return bytes[i] == ';' ? SIGN : OTHER;
        }

        /** What the digits of the TOKEN that stands next tell, cut where it is too much for any NUMBER. */
        private int valueOfDigits() {
            int value = 0;
            for (int i = begin; i < end; i++) {
                value = Math.min(10 * value + bytes[i] - '0', ABOVE_NUMBERS);
            }
            return value;
        }
    }

    /** A sheet of numbers; of 0 bits it is MISSING. */
    private static final class Sheet {
        final int[] numbers = new int[MOST_NUMBERS];
        int bits;
        int size;

        void begin(int newBits, int newSize) {
            bits = newBits;
            size = newBits == 0 ? 0 : newSize;
            for (int i = 0; i < MOST_NUMBERS; i++) {
                numbers[i] = 0;
            }
        }

        /** Kept with a sign, as -1 must be told in any number of bits. */
        void put(int i, int v) {
            if (bits == 8) {
                numbers[i] = (byte) v;
            } else if (bits == 16) {
                numbers[i] = (short) v;
            } else {
                numbers[i] = v;
            }
        }

        /** Whether there are n numbers from one on; the difference can't overflow as both are 0 or more. */
        boolean hasRun(int from, int n) {
            return from >= 0 && n >= 0 && from <= size && n <= size - from;
        }
    }
}
