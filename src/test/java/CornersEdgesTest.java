/** The sentences of promises 1 to 8 that name a boundary case: a new object, corners, whispers. */
public final class CornersEdgesTest extends Edges {
    private static final int[] MOST = {99, 15, 9, 99, 99};

    public static void main(String[] args) {
        newObject();
        corner();
        build();
        says();
        of();
        change();
        auntsAndFrost();
        end();
    }

    private static void newObject() {
        test("1 a new object: HEIGHT is 90 less 6 times the number", x -> {
            for (int c = 0; c < 16; c++) {
                due("height of " + c, x.corner(c, HEIGHT), 90 - 6 * c);
            }
        });
        test("1 a new object: GUTTER leads to the next one, 15's to itself", x -> {
            for (int c = 0; c < 15; c++) {
                due("gutter of " + c, x.corner(c, GUTTER), c + 1);
            }
            due("gutter of 15", x.corner(15, GUTTER), 15);
        });
        test("1 a new object: SAND 0, COST 1, EARS 50", x -> {
            for (int c = 0; c < 16; c++) {
                due("sand of " + c, x.corner(c, SAND), 0);
                due("cost of " + c, x.corner(c, COST), 1);
                due("ears of " + c, x.corner(c, EARS), 50);
            }
        });
        test("1 a new object: no WHISPERS", x -> {
            due("count(1)", x.count(1), 0);
            due("of(0, 0)", x.of(0, 0), BEYOND);
            due("weight of all", x.now(2), 0);
            due("go(1)", x.go(1), 0);
        });
        test("1 a new object: FROST, AUNTS, MINUTE are 0, z is 1", x -> {
            due("frost", x.now(3), 0);
            due("aunts", x.now(4), 0);
            due("minute", x.now(0), 0);
            due("z", x.seed(1), 1);
        });
        test("1 a new object: THE TAPE is empty", x -> {
            due("count(5)", x.count(5), 0);
            due("wipe()", x.wipe(), 0);
            due("text()", x.text(), -1);
        });
        test("1 a new object: no image is kept", x -> {
            due("tear()", x.tear(), 0);
            due("undo()", x.undo(), NONE);
        });
        test("1 a new object: SPOTS hold nothing", x -> {
            for (int i = 0; i < 10; i++) {
                due("as(" + i + ", 0)", x.as(i, 0), MISSING);
            }
            due("count(7)", x.count(7), 0);
        });
        test("1 a new object: SHEETS are MISSING", x -> {
            for (int s = 0; s < 4; s++) {
                due("judge(" + s + ")", x.judge(s), MISSING);
            }
        });
        test("1 a new object: no act has answered a finding", x -> {
            for (int which = -1; which < 7; which++) {
                due("status(" + which + ")", x.status(which), 0);
            }
        });
        test("1 a new object: another one is its own", x -> {
            DownhillWhispers y = busyTown();
            y.undo();
            due("height", x.corner(5, HEIGHT), 60);
            due("whispers", x.count(1), 0);
            due("tear()", x.tear(), 0);
            due("judge(0)", x.judge(0), MISSING);
            due("tape", x.count(5), 0);
        });
    }

    private static void corner() {
        test("2 corner: CORNERS 0 to 15", x -> {
            for (int what = 0; what < 9; what++) {
                int w = what;
                bounds(0, 15, (y, v) -> y.corner(v, w));
            }
        });
        test("2 corner: what 0 to 8", x -> {
            bounds(0, 8, (y, v) -> y.corner(0, v));
            bounds(0, 8, (y, v) -> y.corner(15, v));
        });
        test("2 corner: of the first and the last CORNER", x -> {
            int[] first = {90, 1, 0, 1, 50, 6, 0, 0, 140};
            int[] last = {0, 15, 0, 1, 50, 0, 0, 0, 50};
            for (int what = 0; what < 9; what++) {
                due("corner(0, " + what + ")", x.corner(0, what), first[what]);
                due("corner(15, " + what + ")", x.corner(15, what), last[what]);
            }
        });
        test("2 corner: 1 if HEARD, else 0", x -> {
            changesNothing(1, y -> y.corner(10, HEARD));
            changesNothing(0, y -> y.corner(9, HEARD));
            put(x, LIE, 2, 50);
            due("just heard", x.corner(2, HEARD), 1);
            x.change(0, WEIGHT, 49);
            due("just not", x.corner(2, HEARD), 0);
        });
        test("2 corner: nothing changes", x -> {
            int[] due = {30, 11, 0, 1, 50, 6, 285, 1, 30};
            for (int what = 0; what < 9; what++) {
                int w = what;
                changesNothing(due[what], y -> y.corner(10, w));
            }
        });
    }

    private static void build() {
        test("3 build: a CORNER, 0 to 15", x -> {
            for (int what = 0; what < 5; what++) {
                int w = what;
                bounds(0, 15, (y, v) -> y.build(v, w, 0));
            }
        });
        test("3 build: what 0 to 4", x -> {
            bounds(0, 4, (y, v) -> y.build(0, v, 0));
            bounds(0, 4, (y, v) -> y.build(15, v, 1));
        });
        test("3 build: HEIGHT 0 to 99", x -> bounds(0, 99, (y, v) -> y.build(9, HEIGHT, v)));
        test("3 build: GUTTER 0 to 15", x -> bounds(0, 15, (y, v) -> y.build(9, GUTTER, v)));
        test("3 build: SAND 0 to 9", x -> bounds(0, 9, (y, v) -> y.build(9, SAND, v)));
        test("3 build: COST 0 to 99", x -> bounds(0, 99, (y, v) -> y.build(9, COST, v)));
        test("3 build: EARS 0 to 99", x -> bounds(0, 99, (y, v) -> y.build(9, EARS, v)));
        test("3 build: becomes v, the least and the most, and tells what it was", x -> {
            int[] first = {54, 7, 0, 1, 50};
            for (int what = 0; what < 5; what++) {
                due("most of " + what, x.build(6, what, MOST[what]), first[what]);
                due("it is the most " + what, x.corner(6, what), MOST[what]);
                due("least of " + what, x.build(6, what, 0), MOST[what]);
                due("it is the least " + what, x.corner(6, what), 0);
            }
        });
        test("3 build: of that CORNER alone, the first and the last one", x -> {
            for (int what = 0; what < 5; what++) {
                x.build(0, what, 5);
                x.build(15, what, 6);
            }
            for (int what = 0; what < 5; what++) {
                due("of 0: " + what, x.corner(0, what), 5);
                due("of 15: " + what, x.corner(15, what), 6);
            }
            int[] second = {84, 2, 0, 1, 50};
            int[] fourteenth = {6, 15, 0, 1, 50};
            for (int what = 0; what < 5; what++) {
                due("of 1: " + what, x.corner(1, what), second[what]);
                due("of 14: " + what, x.corner(14, what), fourteenth[what]);
            }
        });
    }

    private static void says() {
        test("4 says: KINDS 0 to 6", x -> bounds(0, 6, (y, v) -> y.says(v, 3)));
        test("4 says: a CORNER, 0 to 15", x -> bounds(0, 15, (y, v) -> y.says(3, v)));
        test("4 says: the least and the most, and its number", x -> {
            due("says(0, 0)", x.says(0, 0), 0);
            due("says(6, 15)", x.says(6, 15), 1);
            due("kind of 0", x.of(0, 0), 0);
            due("at of 0", x.of(0, AT), 0);
            due("kind of 1", x.of(1, 0), 6);
            due("at of 1", x.of(1, AT), 15);
            due("weight of 1", x.of(1, WEIGHT), 1);
        });
        test("4 says: FULL, behind the 8th", x -> {
            for (int w = 0; w < 7; w++) {
                x.says(0, 0);
            }
            due("the 8th", x.says(5, 5), 7);
            due("the 9th", x.says(0, 0), FULL);
            due("kind of the 8th", x.of(7, 0), 5);
            refused(FULL, EIGHT_WHISPERS, y -> y.says(6, 15));
        });
        test("4 says: where an image had fewer, there is room behind undo()", x -> {
            x.image();
            EIGHT_WHISPERS.on(x);
            x.change(0, WEIGHT, 500);
            x.undo();
            due("says(1, 4)", x.says(1, 4), 0);
            due("weight", x.of(0, WEIGHT), 1);
            due("at", x.of(0, AT), 4);
        });
    }

    private static void of() {
        test("5 of: a WHISPER, 0 to the last one", x -> {
            for (int what = 0; what < 5; what++) {
                int w = what;
                bounds(0, 2, (y, v) -> y.of(v, w));
                bounds(0, 7, EIGHT_WHISPERS, (y, v) -> y.of(v, w));
            }
        });
        test("5 of: of none where there is none", x -> {
            due("of(0, 0)", x.of(0, 0), BEYOND);
            due("status(0)", x.status(0), 1);
        });
        test("5 of: what 0 to 4", x -> bounds(0, 4, (y, v) -> y.of(2, v)));
        test("5 of: SPEED now, by what stands now", x -> {
            put(x, SLANDER, 3, 99);
            due("speed", x.of(0, SPEED), 1);
            x.change(0, WEIGHT, 100);
            due("with weight 100", x.of(0, SPEED), 2);
            x.build(3, SAND, 1);
            due("with sand", x.of(0, SPEED), 1);
            x.frost(1);
            due("with frost", x.of(0, SPEED), 2);
        });
        test("5 of: how much it GATHERS for the next GUTTER, by the CORNER where it is", x -> {
            x.build(3, HEIGHT, 76);
            put(x, SCANDAL, 2, 1);
            due("steep 2", x.of(0, GATHERS), 4);
            x.change(0, AT, 3);
            due("steep 10", x.of(0, GATHERS), 6);
        });
        test("5 of: nothing changes", x -> {
            int[] due = {SCANDAL, 10, 255, 10, 5};
            for (int what = 0; what < 5; what++) {
                int w = what;
                changesNothing(due[what], y -> y.of(2, w));
            }
        });
    }

    private static void change() {
        test("6 change: a WHISPER, 0 to the last one", x -> {
            for (int what = 0; what < 3; what++) {
                int w = what;
                bounds(0, 2, (y, v) -> y.change(v, w, 1));
                bounds(0, 7, EIGHT_WHISPERS, (y, v) -> y.change(v, w, 1));
            }
        });
        test("6 change: of none where there is none", x -> due("change(0, 0, 0)", x.change(0, 0, 0), BEYOND));
        test("6 change: what 0 to 2", x -> bounds(0, 2, (y, v) -> y.change(2, v, 1)));
        test("6 change: KIND 0 to 6", x -> bounds(0, 6, (y, v) -> y.change(1, 0, v)));
        test("6 change: AT 0 to 15", x -> bounds(0, 15, (y, v) -> y.change(1, AT, v)));
        test("6 change: WEIGHT 1 to 999", x -> bounds(1, 999, (y, v) -> y.change(1, WEIGHT, v)));
        test("6 change: becomes v, the least and the most, and tells what it was", x -> {
            int[] least = {0, 0, 1};
            int[] most = {6, 15, 999};
            int[] first = {3, 4, 1};
            x.says(3, 4);
            for (int what = 0; what < 3; what++) {
                due("most of " + what, x.change(0, what, most[what]), first[what]);
                due("it is the most " + what, x.of(0, what), most[what]);
                due("least of " + what, x.change(0, what, least[what]), most[what]);
                due("it is the least " + what, x.of(0, what), least[what]);
            }
        });
        test("6 change: of that WHISPER alone, the first and the last one", x -> {
            EIGHT_WHISPERS.on(x);
            for (int what = 0; what < 3; what++) {
                x.change(0, what, 5);
                x.change(7, what, 6);
            }
            for (int what = 0; what < 3; what++) {
                due("of 0: " + what, x.of(0, what), 5);
                due("of 7: " + what, x.of(7, what), 6);
                due("of 1: " + what, x.of(1, what), what == WEIGHT ? 1 : 0);
                due("of 6: " + what, x.of(6, what), what == WEIGHT ? 1 : 0);
            }
        });
    }

    private static void auntsAndFrost() {
        test("7 aunts: a set, 0 to 65535", x -> bounds(0, 65535, (y, v) -> y.aunts(v)));
        test("7 aunts: become the least and the most, and tells what they were", x -> {
            due("aunts(65535)", x.aunts(65535), 0);
            due("all", x.now(4), 65535);
            due("aunts(0)", x.aunts(0), 65535);
            due("none", x.now(4), 0);
            due("aunts(32768)", x.aunts(32768), 0);
            due("aunts(1)", x.aunts(1), 32768);
            due("the first alone", x.now(4), 1);
        });
        test("8 frost: 0 and 1", x -> bounds(0, 1, (y, v) -> y.frost(v)));
        test("8 frost: becomes v, and tells what it was", x -> {
            due("frost(0)", x.frost(0), 0);
            due("frost(1)", x.frost(1), 0);
            due("frost", x.now(3), 1);
            due("frost(1)", x.frost(1), 1);
            due("frost(0)", x.frost(0), 1);
            due("thaw", x.now(3), 0);
        });
    }
}
