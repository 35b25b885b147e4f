/** The sentences of 'Terms' that name a boundary case, ahead of its points 1 to 3 and in points 1 and 2. */
public final class TermsEdgesTest extends Edges {
    public static void main(String[] args) {
        findings();
        order();
        numbers();
        ties();
        gutters();
        whispers();
        speeds();
        sandAndFrost();
        gathering();
        minutes();
        aunts();
        loudness();
        draws();
        end();
    }

    // ---- ahead of the points

    private static void findings() {
        test("Terms: BEYOND is LOW, -1000001", x -> due("corner(16, 0)", x.corner(16, 0), -1000001));
        test("Terms: FULL is LOW - 1, -1000002", x -> {
            EIGHT_WHISPERS.on(x);
            due("a 9th", x.says(0, 0), -1000002);
        });
        test("Terms: KIND is LOW - 2, -1000003", x -> {
            x.says(LIE, 0);
            x.hold(0, 0);
            due("a LIE as a FIB", x.as(0, FIB), -1000003);
        });
        test("Terms: NONE is LOW - 3, -1000004", x -> due("undo()", x.undo(), -1000004));
        test("Terms: STATE is LOW - 4, -1000005", x -> {
            EIGHT_WHISPERS.on(x);
            x.sheet(0, 8, 0);
            due("fits(0, 1)", x.fits(0, 1), -1000005);
        });
        test("Terms: MISSING is LOW - 5, -1000006", x -> due("judge(0)", x.judge(0), -1000006));
        test("Terms: SIZE is LOW - 6, -1000007", x -> due("sheet(0, 8, -1)", x.sheet(0, 8, -1), -1000007));
        test("Terms: in longs, too", x -> due("odds(19, 0, 0)", x.odds(19, 0, 0), -1000001L));
        test("Terms: z may be any int, what seed() tells of it is no finding", x -> {
            int was = 1;
            for (int z = -1000000; z >= -1000008; z--) {
                due("seed(" + z + ")", x.seed(z), was);
                was = z;
            }
            due("status(-1)", x.status(-1), 0);
        });
        test("Terms: z may be any int, what count(6) tells of it is no finding", x -> {
            for (int z = -1000000; z >= -1000008; z--) {
                x.seed(z);
                due("count(6)", x.count(6), z);
            }
            due("status(-1)", x.status(-1), 0);
        });
    }

    private static void order() {
        test("Terms: the order of says, BEYOND ahead of FULL", x -> {
            refused(BEYOND, EIGHT_WHISPERS, y -> y.says(7, 0));
            refused(BEYOND, EIGHT_WHISPERS, y -> y.says(0, 16));
        });
        test("Terms: the order of fits, no such sheet ahead of STATE", x ->
                refused(BEYOND, EIGHT_WHISPERS, y -> y.fits(4, 1)));
        test("Terms: the order of fits, MISSING ahead of BEYOND of v", x -> refused(MISSING, y -> y.fits(3, 0)));
        test("Terms: the order of fits, MISSING ahead of STATE", x ->
                refused(MISSING, EIGHT_WHISPERS, y -> y.fits(3, 1)));
        test("Terms: the order of fits, BEYOND of v ahead of STATE", x ->
                refused(BEYOND, EIGHT_WHISPERS, y -> y.fits(0, 1000)));
        test("Terms: the order of said, no such sheet ahead of STATE", x ->
                refused(BEYOND, EIGHT_WHISPERS, y -> y.said(-1, 1)));
        test("Terms: the order of said, MISSING ahead of BEYOND of v", x -> refused(MISSING, y -> y.said(3, 1000)));
        test("Terms: the order of said, MISSING ahead of STATE", x ->
                refused(MISSING, EIGHT_WHISPERS, y -> y.said(3, 1)));
        test("Terms: the order of said, BEYOND of v ahead of STATE", x ->
                refused(BEYOND, EIGHT_WHISPERS, y -> y.said(0, 0)));
        test("Terms: the order of said, STATE ahead of NONE", x ->
                refused(STATE, EIGHT_WHISPERS, y -> y.said(0, 1)));
        test("Terms: the order of feed, BEYOND ahead of FULL", x -> {
            Step full = y -> feed(y, ";".repeat(112));
            refused(BEYOND, full, y -> y.feed(59, 5));
            refused(BEYOND, full, y -> y.feed(59, 0));
        });
        test("Terms: the order of as, BEYOND ahead of MISSING", x -> refused(BEYOND, y -> y.as(5, 7)));
        test("Terms: the order of as, BEYOND ahead of KIND", x -> refused(BEYOND, y -> y.as(0, -1)));
        test("Terms: the order of as, MISSING ahead of KIND", x -> refused(MISSING, y -> y.as(5, FIB)));
        test("Terms: the order of sheet, no such sheet ahead of SIZE", x -> {
            refused(BEYOND, y -> y.sheet(4, 8, -1));
            refused(BEYOND, y -> y.sheet(-1, 8, -1));
        });
        test("Terms: the order of sheet, other bits ahead of SIZE", x -> refused(BEYOND, y -> y.sheet(0, 9, -1)));
        test("Terms: the order of write, no such sheet ahead of MISSING", x ->
                refused(BEYOND, y -> y.write(4, 0, 0)));
        test("Terms: the order of write, MISSING ahead of no such number", x -> {
            refused(MISSING, y -> y.write(3, -1, 0));
            refused(MISSING, y -> y.write(3, 40, 0));
        });
        test("Terms: the order of copy, no such sheet ahead of MISSING", x -> {
            refused(BEYOND, y -> y.copy(3, 0, 4, 0, 0));
            refused(BEYOND, y -> y.copy(-1, 0, 3, 0, 0));
        });
        test("Terms: the order of copy, MISSING ahead of KIND and of BEYOND of the numbers", x -> {
            refused(MISSING, y -> y.copy(3, -1, 0, -1, -1));
            refused(MISSING, y -> y.copy(0, 9, 3, 9, 9));
        });
        test("Terms: the order of copy, KIND ahead of BEYOND of the numbers", x -> {
            refused(KIND, y -> y.copy(0, -1, 1, 0, 1));
            refused(KIND, y -> y.copy(0, 0, 2, 0, 40));
        });
        test("Terms: the order of load, no such sheet ahead of MISSING", x -> refused(BEYOND, y -> y.load(4)));
        test("Terms: the order of judge, no such sheet ahead of MISSING", x -> refused(BEYOND, y -> y.judge(4)));
        test("Terms: the order of merge, BEYOND ahead of NONE", x -> {
            refused(BEYOND, y -> y.merge(16));
            refused(BEYOND, y -> y.merge(-1));
        });
        test("Terms: the order of heard, BEYOND ahead of NONE", x -> refused(BEYOND, y -> y.heard(16)));
        test("Terms: the order of overtakes, BEYOND ahead of NONE", x -> refused(BEYOND, y -> y.overtakes(1, 1)));
        test("Terms: the order of where, BEYOND ahead of NONE", x -> {
            refused(BEYOND, y -> y.where(3, 1, 1));
            refused(BEYOND, y -> y.where(0, 65535, 65536));
        });
        test("Terms: the order of weightFor, BEYOND ahead of NONE", x ->
                refused(BEYOND, y -> y.weightFor(0, 0, 41)));
        test("Terms: the order of sand and costs, BEYOND ahead of NONE", x -> {
            refused(BEYOND, y -> y.sand(10, 0, -1));
            refused(BEYOND, y -> y.costs(10, 0, 41));
        });
    }

    private static void numbers() {
        test("Terms: quotients are cut, STEEP by 10", x -> {
            x.build(0, GUTTER, 15);
            x.build(0, HEIGHT, 19);
            x.says(WHISPER, 0);
            due("speed at steep 19", x.of(0, SPEED), 2);
        });
        test("Terms: quotients are cut, WEIGHT by 100", x -> {
            put(x, SLANDER, 0, 199);
            due("speed at weight 199", x.of(0, SPEED), 2);
        });
        test("Terms: quotients are cut, STEEP by 5", x -> {
            x.build(0, GUTTER, 15);
            x.build(0, HEIGHT, 9);
            x.says(SCANDAL, 0);
            due("gathers at steep 9", x.of(0, GATHERS), 5);
        });
        test("Terms: sets are told as bits, from corner 0 to corner 15", x -> {
            x.build(0, EARS, 0);
            x.build(15, EARS, 0);
            due("heard corners", x.now(1), 32769);
        });
    }

    private static void ties() {
        test("Terms: the least number counts, of kinds", x -> {
            x.says(FIB, 15);
            due("kindFor at the harbour", x.kindFor(0), WHISPER);
            x.change(0, AT, 13);
            due("LIE and SCANDAL and FIB are there in one", x.kindFor(0), LIE);
        });
        test("Terms: the least number counts, of corners for an aunt", x -> {
            put(x, LIE, 12, 10);
            due("none is there in one", x.aunt(1), 0);
            due("it is there in two anyhow", x.aunt(2), 0);
            put(x, FIB, 11, 10);
            due("at 12, 13 or 14 she holds the FIB", x.aunt(1), 12);
        });
        test("Terms: the least number counts, of dearest corners", x -> {
            x.build(3, HEIGHT, 99);
            x.build(12, HEIGHT, 99);
            due("dearest", x.dearest(), 3);
        });
        test("Terms: the least number counts, of WEIGHTS", x -> {
            put(x, WHISPER, 0, 50);
            due("any is enough behind a minute at 3", x.weightFor(0, 3, 1), NONE);
            x.build(3, EARS, 0);
            due("any is enough", x.weightFor(0, 3, 1), 1);
        });
    }

    // ---- point 1

    private static void gutters() {
        test("Terms 1: a GUTTER runs to a lesser HEIGHT, by 1", x -> {
            x.build(4, HEIGHT, 61);
            due("steep", x.corner(4, STEEP), 1);
            due("runs", x.now(5) >> 4 & 1, 1);
            x.says(LIE, 4);
            x.go(1);
            due("it goes", x.of(0, AT), 6);
        });
        test("Terms 1: a GUTTER doesn't run to the same HEIGHT", x -> {
            x.build(4, HEIGHT, 60);
            due("steep", x.corner(4, STEEP), 0);
            due("runs", x.now(5) >> 4 & 1, 0);
            x.says(WHISPER, 4);
            x.go(1);
            due("it stays", x.of(0, AT), 4);
            due("and gathers nothing", x.of(0, WEIGHT), 1);
        });
        test("Terms 1: a GUTTER doesn't run to a greater HEIGHT, STEEP is 0 then", x -> {
            x.build(4, HEIGHT, 59);
            due("steep", x.corner(4, STEEP), 0);
            due("runs", x.now(5) >> 4 & 1, 0);
            x.says(RUMOUR, 4);
            due("speed", x.of(0, SPEED), 1);
            x.go(1);
            due("it stays", x.of(0, AT), 4);
            due("and gathers nothing", x.of(0, WEIGHT), 1);
        });
        test("Terms 1: a GUTTER from 0 to 99 has STEEP 0, from 99 to 0 STEEP 99", x -> {
            x.build(0, HEIGHT, 0);
            x.build(1, HEIGHT, 99);
            x.build(1, GUTTER, 0);
            due("up", x.corner(0, STEEP), 0);
            due("down", x.corner(1, STEEP), 99);
        });
        test("Terms 1: a GUTTER may lead to any CORNER, to its own it doesn't run", x -> {
            x.build(0, GUTTER, 0);
            x.build(3, GUTTER, 12);
            due("steep to itself", x.corner(0, STEEP), 0);
            due("steep to 12", x.corner(3, STEEP), 54);
            x.says(SECRET, 0);
            x.says(SECRET, 3);
            x.go(1);
            due("it stays", x.of(0, AT), 0);
            due("it goes far", x.of(1, AT), 15);
        });
        test("Terms 1: THE HARBOUR is corner 15, and its GUTTER may run, too", x -> {
            x.build(15, HEIGHT, 50);
            x.build(15, GUTTER, 14);
            put(x, WHISPER, 15, 60);
            due("heard there", x.corner(15, HEARD), 1);
            due("go(1)", x.go(1), 0);
            due("it left", x.of(0, AT), 14);
        });
        test("Terms 1: 15's GUTTER is itself at first", x -> due("gutter", x.corner(15, GUTTER), 15));
    }

    private static void whispers() {
        test("Terms 1: WHISPERS 0, 1, .., at most 8", x -> {
            for (int w = 0; w < 8; w++) {
                due("says", x.says(0, 0), w);
            }
            due("a 9th", x.says(0, 0), FULL);
            due("whispers", x.count(1), 8);
        });
        test("Terms 1: WEIGHT is 1 at first", x -> {
            x.says(SCANDAL, 2);
            due("weight", x.of(0, WEIGHT), 1);
        });
        test("Terms 1: FROST is 0 at first", x -> due("frost", x.now(3), 0));
        test("Terms 1: AUNTS are none at first", x -> due("aunts", x.now(4), 0));
        test("Terms 1: a FIB is under LIE, under WHISPER, and under none else", x -> kinds(x, FIB, 0b0000011));
        test("Terms 1: a SCANDAL is under SLANDER, under RUMOUR", x -> kinds(x, SCANDAL, 0b0001101));
        test("Terms 1: a SLANDER is under RUMOUR", x -> kinds(x, SLANDER, 0b0000101));
        test("Terms 1: a RUMOUR is under WHISPER alone", x -> kinds(x, RUMOUR, 0b0000001));
        test("Terms 1: a LIE is under WHISPER alone", x -> kinds(x, LIE, 0b0000001));
        test("Terms 1: a SECRET is under WHISPER alone", x -> kinds(x, SECRET, 0b0000001));
        test("Terms 1: a WHISPER is under none", x -> kinds(x, WHISPER, 0));
    }

    /** It is of its own kind and of those above it, and of no other. */
    private static void kinds(DownhillWhispers x, int kind, int above) {
        x.says(kind, 0);
        x.hold(0, 0);
        for (int as = 0; as < 7; as++) {
            boolean is = as == kind || (above >> as & 1) != 0;
            due("as(0, " + as + ")", x.as(0, as), is ? 0 : KIND);
        }
    }

    /** The SPEED of one of a kind at a corner with this STEEP, SAND, WEIGHT, FROST. */
    private static long speed(int kind, int steep, int sand, int weight, int frost) {
        DownhillWhispers x = new DownhillWhispers();
        x.build(15, HEIGHT, 0);
        x.build(3, GUTTER, 15);
        x.build(3, HEIGHT, steep);
        x.build(3, SAND, sand);
        x.frost(frost);
        put(x, kind, 3, weight);
        return x.of(0, SPEED);
    }

    private static void speeds() {
        test("Terms 1: SPEED of a WHISPER is STEEP by 10, and 1", x -> {
            due("steep 0", speed(WHISPER, 0, 0, 1, 0), 1);
            due("steep 9", speed(WHISPER, 9, 0, 1, 0), 1);
            due("steep 10", speed(WHISPER, 10, 0, 1, 0), 2);
            due("steep 19", speed(WHISPER, 19, 0, 1, 0), 2);
            due("steep 20", speed(WHISPER, 20, 0, 1, 0), 3);
        });
        test("Terms 1: STEEP by 10 is 3 at most, 1 comes behind", x -> {
            due("steep 29", speed(WHISPER, 29, 0, 1, 0), 3);
            due("steep 30", speed(WHISPER, 30, 0, 1, 0), 4);
            due("steep 39", speed(WHISPER, 39, 0, 1, 0), 4);
            due("steep 40", speed(WHISPER, 40, 0, 1, 0), 4);
            due("steep 99", speed(WHISPER, 99, 0, 1, 0), 4);
        });
        test("Terms 1: where the GUTTER leads up, STEEP is 0, and SPEED 1", x -> {
            x.build(0, HEIGHT, 0);
            x.says(WHISPER, 0);
            due("speed", x.of(0, SPEED), 1);
        });
        test("Terms 1: SPEED of a LIE is 1 more", x -> {
            due("steep 0", speed(LIE, 0, 0, 1, 0), 2);
            due("steep 99", speed(LIE, 99, 0, 1, 0), 5);
        });
        test("Terms 1: SPEED of a FIB is twice that of a LIE", x -> {
            due("steep 0", speed(FIB, 0, 0, 1, 0), 4);
            due("steep 99", speed(FIB, 99, 0, 1, 0), 10);
        });
        test("Terms 1: SPEED of a SLANDER is WEIGHT by 100 more", x -> {
            due("weight 99", speed(SLANDER, 0, 0, 99, 0), 1);
            due("weight 100", speed(SLANDER, 0, 0, 100, 0), 2);
            due("weight 199", speed(SLANDER, 0, 0, 199, 0), 2);
            due("weight 899", speed(SLANDER, 0, 0, 899, 0), 9);
            due("weight 900", speed(SLANDER, 0, 0, 900, 0), 10);
            due("weight 999", speed(SLANDER, 99, 0, 999, 0), 13);
        });
        test("Terms 1: SPEED of a SCANDAL is 2 more than that of a SLANDER", x -> {
            due("weight 99", speed(SCANDAL, 0, 0, 99, 0), 3);
            due("weight 100", speed(SCANDAL, 0, 0, 100, 0), 4);
            due("weight 999", speed(SCANDAL, 99, 0, 999, 0), 15);
        });
        test("Terms 1: WEIGHT doesn't hasten the others", x -> {
            int[] due = {1, 2, 1, 0, 0, 1, 4};
            for (int kind : new int[] {WHISPER, LIE, RUMOUR, SECRET, FIB}) {
                due("kind " + kind, speed(kind, 0, 0, 999, 0), due[kind]);
            }
        });
    }

    private static void sandAndFrost() {
        test("Terms 1: SPEED of a RUMOUR is SAND less, 0 at least", x -> {
            due("1 less 1", speed(RUMOUR, 0, 1, 1, 0), 0);
            due("1 less 2", speed(RUMOUR, 0, 2, 1, 0), 0);
            due("1 less 9", speed(RUMOUR, 0, 9, 1, 0), 0);
            due("4 less 3", speed(RUMOUR, 30, 3, 1, 0), 1);
            due("4 less 4", speed(RUMOUR, 30, 4, 1, 0), 0);
            due("4 less 5", speed(RUMOUR, 30, 5, 1, 0), 0);
        });
        test("Terms 1: SPEED of a SLANDER, as a RUMOUR 0 at least, then WEIGHT by 100", x -> {
            due("sand 9, weight 99", speed(SLANDER, 0, 9, 99, 0), 0);
            due("sand 9, weight 100", speed(SLANDER, 0, 9, 100, 0), 1);
            due("sand 9, weight 999", speed(SLANDER, 0, 9, 999, 0), 9);
        });
        test("Terms 1: SPEED of a SCANDAL, as a SLANDER in SAND, then 2", x -> {
            due("sand 9, weight 1", speed(SCANDAL, 0, 9, 1, 0), 2);
            due("sand 9, weight 100", speed(SCANDAL, 0, 9, 100, 0), 3);
        });
        test("Terms 1: SPEED of a SECRET is 0 at CORNERS with SAND, else as a WHISPER", x -> {
            due("sand 0", speed(SECRET, 30, 0, 1, 0), 4);
            due("sand 1", speed(SECRET, 30, 1, 1, 0), 0);
            due("sand 9", speed(SECRET, 30, 9, 1, 0), 0);
        });
        test("Terms 1: SAND doesn't slow WHISPERS, LIES, FIBS", x -> {
            due("whisper", speed(WHISPER, 30, 9, 1, 0), 4);
            due("lie", speed(LIE, 30, 9, 1, 0), 5);
            due("fib", speed(FIB, 30, 9, 1, 0), 10);
        });
        test("Terms 1: of each KIND twice that in FROST", x -> {
            int[] due = {8, 10, 6, 12, 16, 0, 20};
            for (int kind = 0; kind < 7; kind++) {
                due("kind " + kind, speed(kind, 30, 1, 399, 1), due[kind]);
            }
            due("secret without sand", speed(SECRET, 30, 0, 399, 1), 8);
        });
        test("Terms 1: twice in FROST comes behind SAND and 0 at least", x -> {
            due("4 less 3, twice", speed(RUMOUR, 30, 3, 1, 1), 2);
            due("0, twice", speed(RUMOUR, 0, 1, 1, 1), 0);
            due("0 and 1, twice", speed(SLANDER, 0, 9, 100, 1), 2);
        });
        test("Terms 1: SAND of another CORNER doesn't slow", x -> {
            x.build(1, SAND, 9);
            x.says(RUMOUR, 0);
            x.says(SECRET, 0);
            due("rumour", x.of(0, SPEED), 1);
            due("secret", x.of(1, SPEED), 1);
        });
    }

    private static long gathers(int kind, int steep) {
        DownhillWhispers x = new DownhillWhispers();
        x.build(3, GUTTER, 15);
        x.build(15, HEIGHT, 0);
        x.build(3, HEIGHT, steep);
        x.says(kind, 3);
        return x.of(0, GATHERS);
    }

    private static void gathering() {
        test("Terms 1: a WHISPER GATHERS 1", x -> due("gathers", gathers(WHISPER, 99), 1));
        test("Terms 1: a LIE GATHERS 0", x -> due("gathers", gathers(LIE, 99), 0));
        test("Terms 1: a RUMOUR GATHERS 2", x -> due("gathers", gathers(RUMOUR, 99), 2));
        test("Terms 1: a SLANDER GATHERS twice as a RUMOUR", x -> due("gathers", gathers(SLANDER, 99), 4));
        test("Terms 1: a SECRET GATHERS 0", x -> due("gathers", gathers(SECRET, 99), 0));
        test("Terms 1: a FIB GATHERS as a LIE", x -> due("gathers", gathers(FIB, 99), 0));
        test("Terms 1: a SCANDAL GATHERS as a SLANDER, and STEEP by 5", x -> {
            due("steep 1", gathers(SCANDAL, 1), 4);
            due("steep 4", gathers(SCANDAL, 4), 4);
            due("steep 5", gathers(SCANDAL, 5), 5);
            due("steep 9", gathers(SCANDAL, 9), 5);
            due("steep 10", gathers(SCANDAL, 10), 6);
            due("steep 99", gathers(SCANDAL, 99), 23);
        });
        test("Terms 1: 999 at most", x -> {
            int[] kinds = {WHISPER, WHISPER, RUMOUR, RUMOUR, SLANDER, SCANDAL, LIE, WHISPER};
            int[] weights = {998, 999, 997, 998, 996, 995, 999, 997};
            int[] due = {999, 999, 999, 999, 999, 999, 999, 998};
            for (int w = 0; w < 8; w++) {
                x.says(kinds[w], 14);
                x.change(w, WEIGHT, weights[w]);
            }
            x.go(1);
            for (int w = 0; w < 8; w++) {
                due("weight " + weights[w] + " of kind " + kinds[w], x.of(w, WEIGHT), due[w]);
            }
        });
        test("Terms 1: 999 at most, for each gutter of many", x -> {
            put(x, WHISPER, 0, 990);
            x.go(9);
            due("nine gutters", x.of(0, WEIGHT), 999);
            x.go(6);
            due("fifteen gutters", x.of(0, WEIGHT), 999);
        });
    }

    // ---- point 2

    private static void minutes() {
        test("Terms 2: as many GUTTERS as its SPEED was ahead of them, STEEP on the way doesn't hasten", x -> {
            x.build(1, HEIGHT, 89);
            x.build(2, HEIGHT, 30);
            x.build(0, HEIGHT, 98);
            x.says(WHISPER, 0);
            x.go(1);
            due("from steep 9 one gutter", x.of(0, AT), 1);
        });
        test("Terms 2: as many GUTTERS as its SPEED was ahead of them, flat ways don't slow it", x -> {
            x.build(0, HEIGHT, 99);
            x.build(0, GUTTER, 8);
            x.says(WHISPER, 0);
            x.go(1);
            due("from steep 57 four gutters", x.of(0, AT), 11);
        });
        test("Terms 2: as many GUTTERS as its SPEED was ahead of them, WEIGHT gathered doesn't hasten", x -> {
            put(x, SLANDER, 0, 196);
            x.go(1);
            due("from weight 196 two gutters", x.of(0, AT), 2);
            due("weight", x.of(0, WEIGHT), 204);
        });
        test("Terms 2: as many GUTTERS as its SPEED was ahead of them, SAND on the way doesn't slow", x -> {
            x.build(0, HEIGHT, 99);
            x.build(1, SAND, 9);
            x.build(2, SAND, 9);
            x.says(RUMOUR, 0);
            x.says(SECRET, 0);
            x.build(0, HEIGHT, 99);
            x.build(1, HEIGHT, 79);
            x.go(1);
            due("rumour", x.of(0, AT), 3);
            due("secret", x.of(1, AT), 3);
        });
        test("Terms 2: with SPEED 0 it goes none", x -> {
            x.build(0, SAND, 1);
            x.says(SECRET, 0);
            x.says(RUMOUR, 0);
            x.go(60);
            due("secret", x.of(0, AT), 0);
            due("rumour", x.of(1, AT), 0);
            due("weight", x.of(1, WEIGHT), 1);
        });
        test("Terms 2: as long as they run, and what doesn't run isn't gathered for", x -> {
            x.build(12, GUTTER, 12);
            put(x, SCANDAL, 10, 1);
            x.go(1);
            due("at", x.of(0, AT), 12);
            due("weight", x.of(0, WEIGHT), 1 + 5 + 5);
            x.go(60);
            due("at then", x.of(0, AT), 12);
            due("weight then", x.of(0, WEIGHT), 11);
        });
        test("Terms 2: it GATHERS ahead of going: by STEEP of the CORNER that it leaves", x -> {
            x.build(0, HEIGHT, 99);
            x.build(1, HEIGHT, 20);
            x.build(1, GUTTER, 14);
            x.build(14, GUTTER, 14);
            x.says(SCANDAL, 0);
            x.go(1);
            due("at", x.of(0, AT), 14);
            due("weight", x.of(0, WEIGHT), 1 + (4 + 79 / 5) + (4 + 14 / 5));
        });
        test("Terms 2: each WHISPER goes, from the first to the last", x -> {
            for (int w = 0; w < 8; w++) {
                x.says(WHISPER, w);
            }
            x.go(1);
            for (int w = 0; w < 8; w++) {
                due("at of " + w, x.of(w, AT), w + 1);
            }
        });
        test("Terms 2: MINUTE is one more", x -> {
            x.go(1);
            due("minute", x.now(0), 1);
        });
    }

    private static void aunts() {
        test("Terms 2: no further from a CORNER in AUNTS to which it came", x -> {
            x.aunts(1 << 2);
            put(x, FIB, 0, 7);
            put(x, WHISPER, 0, 7);
            x.frost(1);
            x.go(1);
            due("fib", x.of(0, AT), 2);
            due("whisper", x.of(1, AT), 2);
            due("it gathered for both gutters", x.of(1, WEIGHT), 9);
        });
        test("Terms 2: in this MINUTE alone: from the AUNT it goes on in the next", x -> {
            x.aunts(1 << 2);
            x.says(FIB, 0);
            x.go(2);
            due("at", x.of(0, AT), 6);
        });
        test("Terms 2: an AUNT where it was ahead doesn't hold it", x -> {
            x.aunts(1);
            x.says(FIB, 0);
            x.go(1);
            due("at", x.of(0, AT), 4);
        });
        test("Terms 2: AUNTS at all CORNERS: one gutter a minute", x -> {
            x.aunts(65535);
            x.frost(1);
            put(x, SCANDAL, 0, 900);
            x.go(14);
            due("at", x.of(0, AT), 14);
            x.go(1);
            due("at then", x.of(0, AT), 15);
        });
        test("Terms 2: an AUNT at THE HARBOUR holds it where its GUTTER runs", x -> {
            x.build(14, HEIGHT, 60);
            x.build(15, HEIGHT, 50);
            x.build(15, GUTTER, 0);
            x.build(0, HEIGHT, 10);
            x.says(FIB, 14);
            x.aunts(1 << 15);
            x.go(1);
            due("held", x.of(0, AT), 15);
            x.go(1);
            due("gone on", x.of(0, AT), 0);
            x.change(0, AT, 14);
            x.aunts(0);
            x.go(1);
            due("not held", x.of(0, AT), 0);
        });
    }

    private static void loudness() {
        test("Terms 2: LOUD is 0 where no WHISPER is", x -> {
            put(x, LIE, 3, 999);
            due("loud at 2", x.corner(2, LOUD), 0);
            due("loud at 4", x.corner(4, LOUD), 0);
        });
        test("Terms 2: LOUD is the WEIGHTS of all, of 8 of 999 as well", x -> {
            for (int w = 0; w < 8; w++) {
                put(x, LIE, 3, 999);
            }
            due("loud", x.corner(3, LOUD), 7992);
        });
        test("Terms 2: HEARD, if LOUD is EARS or more", x -> {
            put(x, LIE, 3, 49);
            due("49 of 50", x.corner(3, HEARD), 0);
            x.change(0, WEIGHT, 50);
            due("50 of 50", x.corner(3, HEARD), 1);
            x.change(0, WEIGHT, 51);
            due("51 of 50", x.corner(3, HEARD), 1);
            x.build(3, EARS, 99);
            x.change(0, WEIGHT, 98);
            due("98 of 99", x.corner(3, HEARD), 0);
            x.change(0, WEIGHT, 99);
            due("99 of 99", x.corner(3, HEARD), 1);
        });
        test("Terms 2: HEARD with EARS 0 where nothing is said, with EARS 1 not", x -> {
            x.build(3, EARS, 0);
            due("ears 0", x.corner(3, HEARD), 1);
            x.build(3, EARS, 1);
            due("ears 1", x.corner(3, HEARD), 0);
        });
        test("Terms 2: RENT is HEIGHT, and as much more as LOUD is below 50", x -> {
            due("nothing loud", x.corner(3, RENT), 72 + 50);
            put(x, LIE, 3, 1);
            due("loud 1", x.corner(3, RENT), 72 + 49);
            x.change(0, WEIGHT, 49);
            due("loud 49", x.corner(3, RENT), 72 + 1);
            x.change(0, WEIGHT, 50);
            due("loud 50", x.corner(3, RENT), 72);
            x.change(0, WEIGHT, 51);
            due("loud 51", x.corner(3, RENT), 72);
            x.change(0, WEIGHT, 999);
            due("loud 999", x.corner(3, RENT), 72);
        });
    }

    private static void draws() {
        test("Terms 2: z is 1 at first", x -> due("count(6)", x.count(6), 1));
        test("Terms 2: a draw makes z an int, it wraps around", x -> {
            x.frosts(1);
            due("z of 1", x.count(6), 1103527590);
            x.frosts(1);
            due("z then", x.count(6), (int) (1103527590L * 1103515245L + 12345L));
            x.seed(Integer.MAX_VALUE);
            x.frosts(1);
            due("z of the greatest", x.count(6), (int) (2147483647L * 1103515245L + 12345L));
            x.seed(Integer.MIN_VALUE);
            x.frosts(1);
            due("z of the least", x.count(6), (int) (-2147483648L * 1103515245L + 12345L));
        });
        test("Terms 2: a draw gives z >>> 8, never below 0", x -> {
            int negative = 0;
            for (int z = 0; z < 20; z++) {
                x.seed(z);
                x.frosts(1);
                int drawn = x.count(6);
                negative += drawn < 0 && (drawn >> 8 & 1) == 1 ? 1 : 0;
                due("frost by z " + drawn, x.now(3), drawn >> 8 & 1);
            }
            due("some are negative and odd", negative > 0 ? 1 : 0, 1);
        });
    }
}
