/** Whispers that roll downhill in a steep town. ../shared/DOC.md says what each call answers. */
public final class DownhillWhispers {
    private static final int BEYOND = -1000001;
    private static final int FULL = -1000002;
    private static final int KIND_FINDING = -1000003;
    private static final int NONE = -1000004;
    private static final int STATE = -1000005;
    private static final int MISSING = -1000006;
    private static final int SIZE = -1000007;
    private static final int FINDINGS = 7;

    private static final int CORNERS = 16;
    private static final int HARBOUR = 15;
    private static final int ALL_CORNERS = 65535;
    private static final int SANDED_CORNERS = 8;

    private static final int HEIGHT = 0;
    private static final int GUTTER = 1;
    private static final int SAND = 2;
    private static final int COST = 3;
    private static final int EARS = 4;
    private static final int TRAITS = 5;
    private static final int[] MOST_OF_TRAIT = {99, 15, 9, 99, 99};

    private static final int WHISPERS = 8;
    private static final int KIND = 0;
    private static final int AT = 1;
    private static final int WEIGHT = 2;
    private static final int QUALITIES = 3;
    private static final int[] LEAST_OF_QUALITY = {0, 0, 1};
    private static final int[] MOST_OF_QUALITY = {6, 15, 999};
    private static final int MOST_WEIGHT = 999;

    private static final int WHISPER = 0;
    private static final int LIE = 1;
    private static final int RUMOUR = 2;
    private static final int SLANDER = 3;
    private static final int SCANDAL = 4;
    private static final int SECRET = 5;
    private static final int FIB = 6;
    private static final int KINDS = 7;
    /** The kind that each kind is under; -1: none. */
    private static final int[] KIND_ABOVE = {-1, WHISPER, WHISPER, RUMOUR, SLANDER, WHISPER, LIE};

    private static final int MOST_MINUTE = 99999;
    private static final int FAR_AHEAD = 100;
    private static final int NEAR_AHEAD = 40;
    private static final int MOST_LOUD_ASKED = 9999;
    private static final int QUIET = 50;
    private static final int SPOTS = 10;
    private static final int SHEETS = 4;
    private static final int SHEET_NUMBERS = 40;
    private static final int TAPE_BYTES = 120;
    /** Above every LOUD and every sum of COSTS. */
    private static final int ABOVE_ALL = 1000000;

    private final Town town;
    private final Town kept;
    /** Where it is tried what will be, so that nothing changes in the town. */
    private final Town trial;
    private boolean isKept;
    private final Tape tape;
    private final Sheet[] sheets;
    private final int[] findings;

    public DownhillWhispers() {
        town = new Town();
        kept = new Town();
        trial = new Town();
        tape = new Tape();
        sheets = new Sheet[SHEETS];
        for (int s = 0; s < sheets.length; s++) {
            sheets[s] = new Sheet();
        }
        findings = new int[FINDINGS];
    }

    // ---- corners, whispers

    public int corner(int corner, int what) {
        if (!isCorner(corner) || !isWithin(what, 0, 8)) {
            return finding(BEYOND);
        }
        switch (what) {
            case 5:
                return town.steepAt(corner);
            case 6:
                return town.loudAt(corner);
            case 7:
                return town.isHeardAt(corner) ? 1 : 0;
            case 8:
                return town.rentOf(corner);
            default:
                return town.trait(corner, what);
        }
    }

    public int build(int corner, int what, int v) {
        if (!isCorner(corner) || !isTrait(what, v)) {
            return finding(BEYOND);
        }
        int was = town.trait(corner, what);
        town.setTrait(corner, what, v);
        return was;
    }

    public int says(int kind, int corner) {
        if (!isKind(kind) || !isCorner(corner)) {
            return finding(BEYOND);
        }
        if (town.isFull()) {
            return finding(FULL);
        }
        return town.addWhisper(kind, corner, 1);
    }

    public int of(int whisper, int what) {
        if (!town.hasWhisper(whisper) || !isWithin(what, 0, 4)) {
            return finding(BEYOND);
        }
        switch (what) {
            case 3:
                return town.speedOf(whisper);
            case 4:
                return town.gathersOf(whisper);
            default:
                return town.quality(whisper, what);
        }
    }

    public int change(int whisper, int what, int v) {
        if (!town.hasWhisper(whisper) || !isQuality(what, v)) {
            return finding(BEYOND);
        }
        int was = town.quality(whisper, what);
        town.setQuality(whisper, what, v);
        return was;
    }

    public int aunts(int set) {
        if (!isSet(set)) {
            return finding(BEYOND);
        }
        int were = town.aunts;
        town.aunts = set;
        return were;
    }

    public int frost(int v) {
        if (!isWithin(v, 0, 1)) {
            return finding(BEYOND);
        }
        int was = town.frost;
        town.frost = v;
        return was;
    }

    // ---- minutes

    public int go(int n) {
        if (!isWithin(n, 1, 60)) {
            return finding(BEYOND);
        }
        if (town.minute + n > MOST_MINUTE) {
            return finding(STATE);
        }
        town.pass(n);
        return town.loudAt(HARBOUR);
    }

    public int now(int what) {
        switch (what) {
            case 0:
                return town.minute;
            case 1:
                return town.heardCorners();
            case 2:
                return town.weightOfAll();
            case 3:
                return town.frost;
            case 4:
                return town.aunts;
            case 5:
                return town.runningCorners();
            default:
                return finding(BEYOND);
        }
    }

    public int merge(int corner) {
        if (!isCorner(corner)) {
            return finding(BEYOND);
        }
        int there = town.whispersAt(corner);
        if (there == 0) {
            return finding(NONE);
        }
        town.mergeAt(corner);
        return there;
    }

    // ---- what will be (nothing changes)

    public int ahead(int whisper, int n) {
        if (!town.hasWhisper(whisper) || !isWithin(n, 0, FAR_AHEAD)) {
            return finding(BEYOND);
        }
        trial.become(town);
        trial.pass(n);
        return trial.quality(whisper, AT);
    }

    public int loud(int corner, int n) {
        if (!isCorner(corner) || !isWithin(n, 0, FAR_AHEAD)) {
            return finding(BEYOND);
        }
        trial.become(town);
        trial.pass(n);
        return trial.loudAt(corner);
    }

    public int heard(int corner) {
        if (!isCorner(corner)) {
            return finding(BEYOND);
        }
        trial.become(town);
        for (int n = 0; n <= FAR_AHEAD; n++) {
            if (trial.isHeardAt(corner)) {
                return n;
            }
            trial.pass(1);
        }
        return finding(NONE);
    }

    public int still() {
        trial.become(town);
        int moving = trial.pass(FAR_AHEAD + 1);
        return moving > FAR_AHEAD ? finding(NONE) : moving;
    }

    public int harbour(int whisper) {
        if (!town.hasWhisper(whisper)) {
            return finding(BEYOND);
        }
        trial.become(town);
        int minutes = trial.minutesToHarbour(whisper);
        return minutes > FAR_AHEAD ? finding(NONE) : minutes;
    }

    public int loudest(int corner, int n) {
        if (!isCorner(corner) || !isWithin(n, 0, FAR_AHEAD)) {
            return finding(BEYOND);
        }
        trial.become(town);
        int most = trial.loudAt(corner);
        for (int i = 0; i < n; i++) {
            trial.pass(1);
            most = Math.max(most, trial.loudAt(corner));
        }
        return most;
    }

    public int overtakes(int a, int b) {
        if (!town.hasWhisper(a) || !town.hasWhisper(b) || a == b) {
            return finding(BEYOND);
        }
        trial.become(town);
        for (int n = 0; n <= FAR_AHEAD; n++) {
            if (trial.heightOf(a) < trial.heightOf(b)) {
                return n;
            }
            trial.pass(1);
        }
        return finding(NONE);
    }

    public int kindFor(int whisper) {
        if (!town.hasWhisper(whisper)) {
            return finding(BEYOND);
        }
        int best = NONE;
        int fewest = FAR_AHEAD + 1;
        for (int kind = 0; kind < KINDS; kind++) {
            trial.become(town);
            trial.setQuality(whisper, KIND, kind);
            int minutes = trial.minutesToHarbour(whisper);
            if (minutes < fewest) {
                fewest = minutes;
                best = kind;
            }
        }
        return best == NONE ? finding(NONE) : best;
    }

    // ---- where to say it

    public int goesBy(int whisper) {
        if (!town.hasWhisper(whisper)) {
            return finding(BEYOND);
        }
        trial.become(town);
        return trial.wayOf(whisper, FAR_AHEAD);
    }

    public int where(int whisper, int by, int not) {
        if (!town.hasWhisper(whisper) || !isSet(by) || !isSet(not)) {
            return finding(BEYOND);
        }
        int good = goodPlaces(whisper, by, not);
        int best = NONE;
        int highest = -1;
        for (int c = 0; c < CORNERS; c++) {
            if (isIn(good, c) && town.trait(c, HEIGHT) > highest) {
                highest = town.trait(c, HEIGHT);
                best = c;
            }
        }
        return best == NONE ? finding(NONE) : best;
    }

    public int places(int whisper, int by, int not) {
        if (!town.hasWhisper(whisper) || !isSet(by) || !isSet(not)) {
            return finding(BEYOND);
        }
        return Integer.bitCount(goodPlaces(whisper, by, not));
    }

    /** The CORNERS such that a WHISPER, AT one now, goes by all of a set and by none of another. */
    private int goodPlaces(int whisper, int by, int not) {
        int good = 0;
        for (int c = 0; c < CORNERS; c++) {
            trial.become(town);
            trial.setQuality(whisper, AT, c);
            int way = trial.wayOf(whisper, FAR_AHEAD);
            if ((way & by) == by && (way & not) == 0) {
                good |= 1 << c;
            }
        }
        return good;
    }

    public int weightFor(int whisper, int corner, int n) {
        if (!town.hasWhisper(whisper) || !isCorner(corner) || !isWithin(n, 0, NEAR_AHEAD)) {
            return finding(BEYOND);
        }
        trial.become(town);
        trial.pass(n);
        // What the others do doesn't hang on this WHISPER: they are rolled once for all WEIGHTS.
        int others = trial.loudAt(corner) - trial.weightAt(whisper, corner);
        int wanted = town.trait(corner, EARS) - others;
        for (int weight = 1; weight <= MOST_WEIGHT; weight++) {
            trial.setQuality(whisper, AT, town.quality(whisper, AT));
            trial.setQuality(whisper, WEIGHT, weight);
            trial.wayOf(whisper, n);
            if (trial.weightAt(whisper, corner) >= wanted) {
                return weight;
            }
        }
        return finding(NONE);
    }

    // ---- sand, aunts

    public int sand(int corner, int v, int n) {
        if (!isCorner(corner) || !isWithin(v, 0, MOST_LOUD_ASKED) || !isWithin(n, 0, NEAR_AHEAD)) {
            return finding(BEYOND);
        }
        int set = cheapestSand(corner, v, n);
        return set < 0 ? finding(NONE) : set;
    }

    public int costs(int corner, int v, int n) {
        if (!isCorner(corner) || !isWithin(v, 0, MOST_LOUD_ASKED) || !isWithin(n, 0, NEAR_AHEAD)) {
            return finding(BEYOND);
        }
        int set = cheapestSand(corner, v, n);
        return set < 0 ? finding(NONE) : town.costOf(set);
    }

    /** The set to sand, so that LOUD at the CORNER is v at most behind n MINUTES; -1: none. */
    private int cheapestSand(int corner, int v, int n) {
        int best = -1;
        int least = ABOVE_ALL;
        for (int set = 0; set < 1 << SANDED_CORNERS; set++) {
            int cost = town.costOf(set);
            if (cost >= least) {
                continue;
            }
            trial.become(town);
            trial.sandAll(set);
            trial.pass(n);
            if (trial.loudAt(corner) <= v) {
                best = set;
                least = cost;
            }
        }
        return best;
    }

    public int aunt(int n) {
        if (!isWithin(n, 0, NEAR_AHEAD)) {
            return finding(BEYOND);
        }
        int best = 0;
        int least = ABOVE_ALL;
        for (int c = 0; c < CORNERS; c++) {
            trial.become(town);
            trial.aunts |= 1 << c;
            trial.pass(n);
            int loudness = trial.loudAt(HARBOUR);
            if (loudness < least) {
                least = loudness;
                best = c;
            }
        }
        return best;
    }

    // ---- what was heard

    public int fits(int s, int v) {
        int wrong = whyNotHeard(s, v);
        if (wrong != 0) {
            return finding(wrong);
        }
        int fitting = 0;
        for (int pair = 0; pair < KINDS * CORNERS; pair++) {
            if (pairFits(s, pair, v)) {
                fitting++;
            }
        }
        return fitting;
    }

    public int said(int s, int v) {
        int wrong = whyNotHeard(s, v);
        if (wrong != 0) {
            return finding(wrong);
        }
        for (int pair = 0; pair < KINDS * CORNERS; pair++) {
            if (pairFits(s, pair, v)) {
                return pair;
            }
        }
        return finding(NONE);
    }

    /** The finding that fits and said answer, ahead of any trial; 0: none. */
    private int whyNotHeard(int s, int v) {
        Sheet sheet = sheetAt(s);
        if (sheet == null) {
            return BEYOND;
        }
        if (sheet.isMissing()) {
            return MISSING;
        }
        if (!isWithin(v, 1, MOST_WEIGHT)) {
            return BEYOND;
        }
        return town.isFull() ? STATE : 0;
    }

    /** A pair is 16 times a KIND, and a CORNER. */
    private boolean pairFits(int s, int pair, int v) {
        Sheet sheet = sheetAt(s);
        if (sheet == null) {
            return false;
        }
        trial.become(town);
        trial.addWhisper(pair / CORNERS, pair % CORNERS, v);
        for (int i = 0; i < sheet.length; i++) {
            trial.pass(1);
            int told = sheet.number(i);
            if (told != -1 && told != trial.loudAt(HARBOUR)) {
                return false;
            }
        }
        return true;
    }

    // ---- rents, frosts

    public int dearest() {
        int best = 0;
        for (int c = 1; c < CORNERS; c++) {
            if (town.rentOf(c) > town.rentOf(best)) {
                best = c;
            }
        }
        return best;
    }

    public int rents() {
        int sum = 0;
        for (int c = 0; c < CORNERS; c++) {
            sum += town.rentOf(c);
        }
        return sum;
    }

    public int frosts(int n) {
        if (!isWithin(n, 1, 20)) {
            return finding(BEYOND);
        }
        if (town.minute + n > MOST_MINUTE) {
            return finding(STATE);
        }
        int shouts = 0;
        for (int i = 0; i < n; i++) {
            town.frost = town.draw() % 2;
            town.pass(1);
            if (town.isHeardAt(HARBOUR)) {
                shouts++;
            }
        }
        return shouts;
    }

    public long odds(int n, int m, int what) {
        if (!isWithin(n, 0, 18) || !isWithin(m, 0, 10) || !isWithin(what, 0, 1)) {
            return finding(BEYOND);
        }
        // Powers of a fraction in lowest terms are in lowest terms, too.
        int tenths = what == 0 ? 10 - m : 10;
        int common = commonWithTen(10 - m);
        int base = common > 1 ? tenths / common : tenths;
        long power = 1;
        for (int i = 0; i < n; i++) {
            power *= base;
        }
        return power;
    }

    /** The greatest number, from 1 to 10, that divides both a number and 10. */
    private static int commonWithTen(int number) {
        for (int d = 10; d > 1; d--) {
            if (number % d == 0 && 10 % d == 0) {
                return d;
            }
        }
        return 1;
    }

    public int seed(int v) {
        int was = town.z;
        town.z = v;
        return was;
    }

    // ---- texts

    public int feed(int bytes, int n) {
        if (!isWithin(n, 1, 4)) {
            return finding(BEYOND);
        }
        if (tape.length + n > TAPE_BYTES) {
            return finding(FULL);
        }
        for (int i = n - 1; i >= 0; i--) {
            tape.append(bytes >>> 8 * i & 255);
        }
        return tape.length;
    }

    public int wipe() {
        int had = tape.length;
        tape.clear();
        return had;
    }

    public int text() {
        trial.become(town);
        int items = tape.readItems(trial);
        tape.clear();
        if (items >= 0) {
            town.become(trial);
        }
        return items;
    }

    // ---- spots, sheets

    public int hold(int spot, int whisper) {
        if (!isWithin(spot, 0, SPOTS - 1) || whisper != -1 && !town.hasWhisper(whisper)) {
            return finding(BEYOND);
        }
        town.setSpot(spot, whisper);
        return 1;
    }

    public int as(int spot, int kind) {
        if (!isWithin(spot, 0, SPOTS - 1) || !isKind(kind)) {
            return finding(BEYOND);
        }
        int whisper = town.heldIn(spot);
        if (whisper < 0) {
            return finding(MISSING);
        }
        return isUnder(town.quality(whisper, KIND), kind) ? whisper : finding(KIND_FINDING);
    }

    public int sheet(int s, int bits, int n) {
        Sheet sheet = sheetAt(s);
        if (sheet == null || bits != 0 && bits != 8 && bits != 16 && bits != 32) {
            return finding(BEYOND);
        }
        if (n < 0) {
            return finding(SIZE);
        }
        if (n > SHEET_NUMBERS) {
            return finding(BEYOND);
        }
        sheet.begin(bits, bits == 0 ? 0 : n);
        return sheet.length;
    }

    public int write(int s, int i, int v) {
        Sheet sheet = sheetAt(s);
        if (sheet == null) {
            return finding(BEYOND);
        }
        if (sheet.isMissing()) {
            return finding(MISSING);
        }
        if (!isWithin(i, 0, sheet.length - 1)) {
            return finding(BEYOND);
        }
        sheet.setNumber(i, v);
        return 1;
    }

    public int copy(int s, int from, int t, int to, int n) {
        Sheet source = sheetAt(s);
        Sheet target = sheetAt(t);
        if (source == null || target == null) {
            return finding(BEYOND);
        }
        if (source.isMissing() || target.isMissing()) {
            return finding(MISSING);
        }
        if (source.bits != target.bits) {
            return finding(KIND_FINDING);
        }
        if (!source.hasNumbers(from, n) || !target.hasNumbers(to, n)) {
            return finding(BEYOND);
        }
        System.arraycopy(source.numbers, from, target.numbers, to, n);
        return n;
    }

    public int load(int s) {
        Sheet sheet = sheetAt(s);
        if (sheet == null) {
            return finding(BEYOND);
        }
        if (sheet.isMissing()) {
            return finding(MISSING);
        }
        int came = 0;
        for (int i = 0; i < sheet.length && isCorner(i) && isTrait(HEIGHT, sheet.number(i)); i++) {
            town.setTrait(i, HEIGHT, sheet.number(i));
            came++;
        }
        return came;
    }

    public int judge(int s) {
        Sheet sheet = sheetAt(s);
        if (sheet == null) {
            return finding(BEYOND);
        }
        if (sheet.isMissing()) {
            return finding(MISSING);
        }
        for (int i = 0; i < sheet.length; i++) {
            if (!isCorner(i) || sheet.number(i) != town.loudAt(i)) {
                return 1 + i;
            }
        }
        return 0;
    }

    // ---- images

    public int image() {
        kept.become(town);
        isKept = true;
        return 1;
    }

    public int undo() {
        if (!isKept) {
            return finding(NONE);
        }
        town.become(kept);
        return town.minute;
    }

    public int tear() {
        int was = isKept ? 1 : 0;
        isKept = false;
        return was;
    }

    public int count(int what) {
        switch (what) {
            case 0:
                return town.minute;
            case 1:
                return town.whispers;
            case 2:
                return town.whispersAt(HARBOUR);
            case 3:
                return town.weightOfAll();
            case 4:
                return town.sandOfAll();
            case 5:
                return tape.length;
            case 6:
                return town.z;
            case 7:
                return town.spotsInUse();
            default:
                return finding(BEYOND);
        }
    }

    public int status(int which) {
        if (!isWithin(which, -1, findings.length - 1)) {
            return finding(BEYOND);
        }
        int sum = 0;
        for (int f = 0; f < findings.length; f++) {
            if (which == -1 || which == f) {
                sum += findings[f];
            }
        }
        return sum;
    }

    // ---- what may be asked

    /** Counts a finding, and is the answer of the act that tells it. */
    private int finding(int answer) {
        int which = BEYOND - answer;
        if (which >= 0 && which < findings.length) {
            findings[which]++;
        }
        return answer;
    }

    private Sheet sheetAt(int s) {
        return s >= 0 && s < sheets.length ? sheets[s] : null;
    }

    private static boolean isWithin(int v, int least, int most) {
        return v >= least && v <= most;
    }

    private static boolean isCorner(int corner) {
        return isWithin(corner, 0, CORNERS - 1);
    }

    private static boolean isKind(int kind) {
        return isWithin(kind, 0, KINDS - 1);
    }

    private static boolean isSet(int set) {
        return isWithin(set, 0, ALL_CORNERS);
    }

    private static boolean isIn(int set, int corner) {
        return (set >> corner & 1) != 0;
    }

    private static boolean isTrait(int what, int v) {
        return what >= 0 && what < MOST_OF_TRAIT.length && isWithin(v, 0, MOST_OF_TRAIT[what]);
    }

    private static boolean isQuality(int what, int v) {
        return what >= 0 && what < LEAST_OF_QUALITY.length && what < MOST_OF_QUALITY.length
                && isWithin(v, LEAST_OF_QUALITY[what], MOST_OF_QUALITY[what]);
    }

    /** Whether a kind is another one, or under it. */
    private static boolean isUnder(int kind, int other) {
        int above = kind;
        for (int i = 0; i < KINDS && above >= 0 && above < KIND_ABOVE.length; i++) {
            if (above == other) {
                return true;
            }
            above = KIND_ABOVE[above];
        }
        return false;
    }

    /** Nothing comes of it where the row has no such number. */
    private static void put(int[] row, int i, int v) {
        if (i >= 0 && i < row.length) {
            row[i] = v;
        }
    }

    private static void copyRow(int[] from, int[] to) {
        System.arraycopy(from, 0, to, 0, Math.min(from.length, to.length));
    }

    /** All that an image keeps: corners, whispers, spots, and what hangs on none of them. */
    private static final class Town {
        /** Each CORNER's HEIGHT, GUTTER, SAND, COST and EARS. */
        private final int[] traits;
        /** Each WHISPER's KIND, AT and WEIGHT. */
        private final int[] qualities;
        private final int[] spots;
        private int whispers;
        private int aunts;
        private int frost;
        private int minute;
        private int z;

        Town() {
            traits = new int[CORNERS * TRAITS];
            qualities = new int[WHISPERS * QUALITIES];
            spots = new int[SPOTS];
            z = 1;
            for (int c = 0; c < CORNERS; c++) {
                setTrait(c, HEIGHT, 90 - 6 * c);
                setTrait(c, GUTTER, Math.min(c + 1, HARBOUR));
                setTrait(c, COST, 1);
                setTrait(c, EARS, 50);
            }
            for (int i = 0; i < spots.length; i++) {
                spots[i] = -1;
            }
        }

        void become(Town other) {
            copyRow(other.traits, traits);
            copyRow(other.qualities, qualities);
            copyRow(other.spots, spots);
            whispers = other.whispers;
            aunts = other.aunts;
            frost = other.frost;
            minute = other.minute;
            z = other.z;
        }

        int trait(int corner, int what) {
            int i = TRAITS * corner + what;
            return i >= 0 && i < traits.length ? traits[i] : 0;
        }

        void setTrait(int corner, int what, int v) {
            put(traits, TRAITS * corner + what, v);
        }

        int quality(int whisper, int what) {
            int i = QUALITIES * whisper + what;
            return i >= 0 && i < qualities.length ? qualities[i] : 0;
        }

        void setQuality(int whisper, int what, int v) {
            put(qualities, QUALITIES * whisper + what, v);
        }

        int heldIn(int spot) {
            return spot >= 0 && spot < spots.length ? spots[spot] : -1;
        }

        void setSpot(int spot, int whisper) {
            put(spots, spot, whisper);
        }

        int spotsInUse() {
            int used = 0;
            for (int i = 0; i < spots.length; i++) {
                if (spots[i] >= 0) {
                    used++;
                }
            }
            return used;
        }

        boolean hasWhisper(int whisper) {
            return whisper >= 0 && whisper < whispers;
        }

        boolean isFull() {
            return whispers >= WHISPERS;
        }

        /** Its number; -1 if there is no room. */
        int addWhisper(int kind, int corner, int weight) {
            if (isFull()) {
                return -1;
            }
            int whisper = whispers;
            whispers++;
            setQuality(whisper, KIND, kind);
            setQuality(whisper, AT, corner);
            setQuality(whisper, WEIGHT, weight);
            return whisper;
        }

        /** How much lesser the HEIGHT is to which the GUTTER leads; 0 if it doesn't run. */
        int steepAt(int corner) {
            return Math.max(0, trait(corner, HEIGHT) - trait(trait(corner, GUTTER), HEIGHT));
        }

        int runningCorners() {
            int set = 0;
            for (int c = 0; c < CORNERS; c++) {
                if (steepAt(c) > 0) {
                    set |= 1 << c;
                }
            }
            return set;
        }

        int weightAt(int whisper, int corner) {
            return quality(whisper, AT) == corner ? quality(whisper, WEIGHT) : 0;
        }

        int loudAt(int corner) {
            int sum = 0;
            for (int w = 0; w < whispers; w++) {
                sum += weightAt(w, corner);
            }
            return sum;
        }

        boolean isHeardAt(int corner) {
            return loudAt(corner) >= trait(corner, EARS);
        }

        int heardCorners() {
            int set = 0;
            for (int c = 0; c < CORNERS; c++) {
                if (isHeardAt(c)) {
                    set |= 1 << c;
                }
            }
            return set;
        }

        int rentOf(int corner) {
            return trait(corner, HEIGHT) + Math.max(0, QUIET - loudAt(corner));
        }

        int heightOf(int whisper) {
            return trait(quality(whisper, AT), HEIGHT);
        }

        int whispersAt(int corner) {
            int there = 0;
            for (int w = 0; w < whispers; w++) {
                if (quality(w, AT) == corner) {
                    there++;
                }
            }
            return there;
        }

        int weightOfAll() {
            int sum = 0;
            for (int w = 0; w < whispers; w++) {
                sum += quality(w, WEIGHT);
            }
            return sum;
        }

        int sandOfAll() {
            int sum = 0;
            for (int c = 0; c < CORNERS; c++) {
                sum += trait(c, SAND);
            }
            return sum;
        }

        int costOf(int set) {
            int sum = 0;
            for (int c = 0; c < CORNERS; c++) {
                if (isIn(set, c)) {
                    sum += trait(c, COST);
                }
            }
            return sum;
        }

        void sandAll(int set) {
            for (int c = 0; c < CORNERS; c++) {
                if (isIn(set, c)) {
                    setTrait(c, SAND, 9);
                }
            }
        }

        int speedOf(int whisper) {
            int corner = quality(whisper, AT);
            int sanded = trait(corner, SAND);
            int plain = Math.min(3, steepAt(corner) / 10) + 1;
            int slowed = Math.max(0, plain - sanded);
            int hurry = quality(whisper, WEIGHT) / 100;
            int speed;
            switch (quality(whisper, KIND)) {
                case LIE:
                    speed = plain + 1;
                    break;
                case RUMOUR:
                    speed = slowed;
                    break;
                case SLANDER:
                    speed = slowed + hurry;
                    break;
                case SCANDAL:
                    speed = slowed + hurry + 2;
                    break;
                case SECRET:
                    speed = sanded > 0 ? 0 : plain;
                    break;
                case FIB:
                    speed = 2 * (plain + 1);
                    break;
                default:
                    speed = plain;
                    break;
            }
            return frost == 1 ? 2 * speed : speed;
        }

        int gathersOf(int whisper) {
            switch (quality(whisper, KIND)) {
                case WHISPER:
                    return 1;
                case RUMOUR:
                    return 2;
                case SLANDER:
                    return 4;
                case SCANDAL:
                    return 4 + steepAt(quality(whisper, AT)) / 5;
                default:
                    return 0;
            }
        }

        /** A MINUTE of one WHISPER: the CORNERS to which it comes, as a set. */
        int roll(int whisper) {
            int speed = speedOf(whisper);
            int way = 0;
            for (int i = 0; i < speed; i++) {
                int corner = quality(whisper, AT);
                if (steepAt(corner) == 0) {
                    break;
                }
                int heavier = quality(whisper, WEIGHT) + gathersOf(whisper);
                setQuality(whisper, WEIGHT, Math.min(heavier, MOST_WEIGHT));
                int next = trait(corner, GUTTER);
                setQuality(whisper, AT, next);
                way |= 1 << next;
                if (isIn(aunts, next)) {
                    break;
                }
            }
            return way;
        }

        /** MINUTES of one WHISPER: its CORNER and those to which it comes, as a set. */
        int wayOf(int whisper, int minutes) {
            int way = 1 << quality(whisper, AT);
            for (int i = 0; i < minutes; i++) {
                int came = roll(whisper);
                if (came == 0) {
                    break;
                }
                way |= came;
            }
            return way;
        }

        /** Behind how many MINUTES a WHISPER is AT THE HARBOUR; more than FAR_AHEAD: not by then. */
        int minutesToHarbour(int whisper) {
            for (int n = 0; n <= FAR_AHEAD; n++) {
                if (quality(whisper, AT) == HARBOUR) {
                    return n;
                }
                roll(whisper);
            }
            return FAR_AHEAD + 1;
        }

        /**
         * MINUTES go by; tells in how many of them a WHISPER moves. These are the first ones: where
         * nothing moves once, nothing does later, so that the rest need not be gone through.
         */
        int pass(int minutes) {
            minute = Math.min(minute + minutes, MOST_MINUTE);
            for (int i = 0; i < minutes; i++) {
                int moved = 0;
                for (int w = 0; w < whispers; w++) {
                    moved |= roll(w);
                }
                if (moved == 0) {
                    return i;
                }
            }
            return minutes;
        }

        void mergeAt(int corner) {
            int weight = Math.min(loudAt(corner), MOST_WEIGHT);
            boolean isFirst = true;
            for (int w = 0; w < whispers; w++) {
                if (quality(w, AT) != corner) {
                    continue;
                }
                if (isFirst) {
                    setQuality(w, WEIGHT, weight);
                } else {
                    setQuality(w, AT, HARBOUR);
                    setQuality(w, WEIGHT, 1);
                }
                isFirst = false;
            }
        }

        int draw() {
            z = z * 1103515245 + 12345;
            return z >>> 8;
        }
    }

    /** A row of numbers that have so many bits; bits 0: it is MISSING. */
    private static final class Sheet {
        private final int[] numbers;
        private int bits;
        private int length;

        Sheet() {
            numbers = new int[SHEET_NUMBERS];
        }

        boolean isMissing() {
            return bits == 0;
        }

        void begin(int newBits, int newLength) {
            bits = newBits;
            length = newLength;
            for (int i = 0; i < numbers.length; i++) {
                numbers[i] = 0;
            }
        }

        int number(int i) {
            return i >= 0 && i < numbers.length ? numbers[i] : 0;
        }

        void setNumber(int i, int v) {
            put(numbers, i, bits == 8 ? (byte) v : bits == 16 ? (short) v : v);
        }

        boolean hasNumbers(int from, int n) {
            int has = Math.min(length, numbers.length);
            return from >= 0 && n >= 0 && from <= has && n <= has - from;
        }
    }

    /** THE TAPE, and how a TEXT is read from it, one TOKEN looked at at a time. */
    private static final class Tape {
        private static final int END = 0;
        private static final int WORD = 1;
        private static final int NUMBER = 2;
        private static final int SIGN = 3;
        private static final int NO_TOKEN = 4;
        private static final int MOST_NUMBER = 99999;

        private final int[] bytes;
        private int length;
        /** The TOKEN that is looked at: its sort, where it starts and stops, a NUMBER's value. */
        private int token;
        private int start;
        private int stop;
        private int value;

        Tape() {
            bytes = new int[TAPE_BYTES];
        }

        /** Nothing comes of it when there is no room. */
        void append(int b) {
            if (length < bytes.length) {
                bytes[length] = b;
                length++;
            }
        }

        void clear() {
            length = 0;
        }

        /** How many ITEMS were told to the town; or -1 less the FAULT, the town half told then. */
        int readItems(Town told) {
            stop = 0;
            step();
            for (int items = 1; items <= TAPE_BYTES; items++) {
                if (!readItem(told)) {
                    break;
                }
                if (token == END) {
                    return items;
                }
                if (token != SIGN) {
                    break;
                }
                step();
            }
            return -1 - start;
        }

        private boolean readItem(Town told) {
            for (int kind = 0; kind < KINDS; kind++) {
                if (isWord(kindName(kind))) {
                    return readWhisper(told, kind);
                }
            }
            if (isWord("corner")) {
                return readCorner(told);
            }
            if (isWord("aunts")) {
                step();
                if (!isNumber(0, ALL_CORNERS)) {
                    return false;
                }
                told.aunts = value;
                step();
                return true;
            }
            if (isWord("frost") || isWord("thaw")) {
                told.frost = isWord("frost") ? 1 : 0;
                step();
                return true;
            }
            return false;
        }

        private boolean readWhisper(Town told, int kind) {
            if (told.isFull()) {
                return false;
            }
            int whisper = told.addWhisper(kind, 0, 1);
            step();
            return readQuality(told, whisper, AT, "at") && readQuality(told, whisper, WEIGHT, "weight");
        }

        /** A word and a NUMBER, or nothing of them: false only where the word stands without it. */
        private boolean readQuality(Town told, int whisper, int what, String word) {
            if (!isWord(word)) {
                return true;
            }
            step();
            if (token != NUMBER || !isQuality(what, value)) {
                return false;
            }
            told.setQuality(whisper, what, value);
            step();
            return true;
        }

        private boolean readCorner(Town told) {
            step();
            if (!isNumber(0, CORNERS - 1)) {
                return false;
            }
            int corner = value;
            step();
            return readTrait(told, corner, HEIGHT, "height") && readTrait(told, corner, GUTTER, "gutter")
                    && readTrait(told, corner, SAND, "sand") && readTrait(told, corner, EARS, "ears");
        }

        private boolean readTrait(Town told, int corner, int what, String word) {
            if (!isWord(word)) {
                return true;
            }
            step();
            if (token != NUMBER || !isTrait(what, value)) {
                return false;
            }
            told.setTrait(corner, what, value);
            step();
            return true;
        }

        private boolean isNumber(int least, int most) {
            return token == NUMBER && isWithin(value, least, most);
        }

        private boolean isWord(String word) {
            if (token != WORD || stop - start != word.length()) {
                return false;
            }
            for (int i = 0; i < word.length(); i++) {
                if (byteAt(start + i) != word.charAt(i)) {
                    return false;
                }
            }
            return true;
        }

        private static String kindName(int kind) {
            switch (kind) {
                case LIE:
                    return "lie";
                case RUMOUR:
                    return "rumour";
                case SLANDER:
                    return "slander";
                case SCANDAL:
                    return "scandal";
                case SECRET:
                    return "secret";
                case FIB:
                    return "fib";
                default:
                    return "whisper";
            }
        }

        /** The byte at a place; -1 behind the last one. */
        private int byteAt(int place) {
            return place >= 0 && place < length && place < bytes.length ? bytes[place] : -1;
        }

        /** The next TOKEN is looked at; a value above the most stays just above it. */
        private void step() {
            start = stop;
            for (int i = 0; i < TAPE_BYTES && byteAt(start) == ' '; i++) {
                start++;
            }
            stop = start;
            value = 0;
            token = sortOf(byteAt(start));
            int longest = token == WORD || token == NUMBER ? TAPE_BYTES : token == END ? 0 : 1;
            for (int i = 0; i < longest && sortOf(byteAt(stop)) == token; i++) {
                if (token == NUMBER) {
                    value = Math.min(10 * value + byteAt(stop) - '0', MOST_NUMBER + 1);
                }
                stop++;
            }
        }

        private static int sortOf(int b) {
            if (b < 0) {
                return END;
            }
            if (b >= 'a' && b <= 'z') {
                return WORD;
            }
            if (b >= '0' && b <= '9') {
                return NUMBER;
            }
            return b == ';' ? SIGN : NO_TOKEN;
        }
    }
}
