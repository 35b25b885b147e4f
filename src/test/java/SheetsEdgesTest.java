/** The sentences of promises 37 to 48 that name a boundary case: spots, sheets, images. */
public final class SheetsEdgesTest extends Edges {
    public static void main(String[] args) {
        hold();
        as();
        sheet();
        write();
        copyBounds();
        copy();
        load();
        judge();
        image();
        imageOf();
        undo();
        tear();
        count();
        status();
        statusOf();
        end();
    }

    // ---- spots

    private static void hold() {
        test("37 hold: SPOTS 0 to 9", x -> bounds(0, 9, (y, v) -> y.hold(v, 1)));
        test("37 hold: a WHISPER, 0 to the last one, or nothing, -1", x -> {
            bounds(-1, 2, (y, v) -> y.hold(0, v));
            bounds(-1, 7, EIGHT_WHISPERS, (y, v) -> y.hold(0, v));
        });
        test("37 hold: nothing can be held where there are no WHISPERS, none of them can", x -> {
            due("hold(0, -1)", x.hold(0, -1), 1);
            due("hold(0, 0)", x.hold(0, 0), BEYOND);
            due("as(0, 0)", x.as(0, 0), MISSING);
        });
        test("37 hold: the first and the last SPOT, each its own", x -> {
            EIGHT_WHISPERS.on(x);
            due("hold(0, 7)", x.hold(0, 7), 1);
            due("hold(9, 0)", x.hold(9, 0), 1);
            due("as(0, 0)", x.as(0, 0), 7);
            due("as(9, 0)", x.as(9, 0), 0);
            for (int i = 1; i < 9; i++) {
                due("as(" + i + ", 0)", x.as(i, 0), MISSING);
            }
        });
        test("37 hold: another one instead, nothing instead", x -> {
            x.says(LIE, 0);
            x.says(FIB, 0);
            x.hold(4, 0);
            due("another", x.hold(4, 1), 1);
            due("as(4, 0)", x.as(4, 0), 1);
            due("nothing", x.hold(4, -1), 1);
            due("as(4, 0) then", x.as(4, 0), MISSING);
            due("nothing again", x.hold(4, -1), 1);
        });
        test("37 hold: one WHISPER in all SPOTS", x -> {
            x.says(LIE, 0);
            for (int i = 0; i < 10; i++) {
                due("hold(" + i + ", 0)", x.hold(i, 0), 1);
            }
            due("count(7)", x.count(7), 10);
        });
    }

    private static void as() {
        test("38 as: SPOTS 0 to 9", x -> bounds(0, 9, y -> {
            y.hold(0, 1);
            y.hold(9, 1);
        }, (y, v) -> y.as(v, 0)));
        test("38 as: a kind, 0 to 6", x -> bounds(0, 6, y -> {
            y.change(1, 0, FIB);
            y.hold(0, 1);
        }, (y, v) -> y.as(0, v)));
        test("38 as: MISSING, it holds nothing", x -> {
            refused(MISSING, y -> y.as(2, 0));
            refused(MISSING, y -> y.as(8, 6));
            refused(MISSING, y -> y.hold(9, -1), y -> y.as(9, 0));
        });
        test("38 as: KIND, it isn't of that kind, nor of one under it", x -> {
            refused(KIND, y -> y.as(0, FIB));
            refused(KIND, y -> y.as(9, SECRET));
            refused(KIND, y -> y.as(1, SLANDER));
        });
        test("38 as: the number of the WHISPER, 0 as well", x -> {
            changesNothing(0, y -> y.as(1, RUMOUR));
            changesNothing(2, y -> y.as(9, RUMOUR));
            changesNothing(2, y -> y.as(9, WHISPER));
            changesNothing(1, y -> y.as(0, LIE));
        });
        test("38 as: the KIND that it has become", x -> {
            x.says(SCANDAL, 0);
            x.hold(3, 0);
            due("a scandal", x.as(3, RUMOUR), 0);
            x.change(0, 0, RUMOUR);
            due("a rumour", x.as(3, RUMOUR), 0);
            due("no slander", x.as(3, SLANDER), KIND);
            x.change(0, 0, WHISPER);
            due("no rumour", x.as(3, RUMOUR), KIND);
        });
    }

    // ---- sheets

    private static void sheet() {
        test("39 sheet: SHEETS 0 to 3", x -> {
            bounds(0, 3, (y, v) -> y.sheet(v, 8, 1));
            bounds(0, 3, (y, v) -> y.sheet(v, 0, 0));
        });
        test("39 sheet: 8, 16 or 32 bits, or 0, and no others", x -> {
            for (int bits = -1; bits <= 65; bits++) {
                int b = bits;
                boolean good = bits == 0 || bits == 8 || bits == 16 || bits == 32;
                DownhillWhispers y = new DownhillWhispers();
                due("sheet(0, " + bits + ", 3)", y.sheet(0, bits, 3), !good ? BEYOND : bits == 0 ? 0 : 3);
                if (bits < 0 || bits == 1 || bits == 7 || bits == 9 || bits == 24 || bits > 63) {
                    refused(BEYOND, z -> z.sheet(0, b, 3));
                }
            }
            refused(BEYOND, y -> y.sheet(0, -8, 1));
            refused(BEYOND, y -> y.sheet(0, Integer.MIN_VALUE, 1));
            refused(BEYOND, y -> y.sheet(0, Integer.MAX_VALUE, 1));
        });
        test("39 sheet: n 0 to 40", x -> {
            due("40", x.sheet(0, 8, 40), 40);
            due("0", x.sheet(0, 8, 0), 0);
            due("it is there", x.judge(0), 0);
            refused(BEYOND, y -> y.sheet(0, 8, 41));
            refused(BEYOND, y -> y.sheet(3, 32, Integer.MAX_VALUE));
        });
        test("39 sheet: SIZE, n is below 0", x -> {
            refused(SIZE, y -> y.sheet(0, 8, -1));
            refused(SIZE, y -> y.sheet(3, 16, -1));
            refused(SIZE, y -> y.sheet(0, 32, Integer.MIN_VALUE));
        });
        test("39 sheet: SIZE, also with bits 0", x -> {
            refused(SIZE, y -> y.sheet(0, 0, -1));
            refused(SIZE, y -> y.sheet(3, 0, Integer.MIN_VALUE));
        });
        test("39 sheet: BEYOND, n is above 40, also with bits 0", x -> {
            refused(BEYOND, y -> y.sheet(0, 0, 41));
            refused(BEYOND, y -> y.sheet(0, 0, Integer.MAX_VALUE));
        });
        test("39 sheet: bits 0: it is MISSING, and n is told as 0", x -> {
            x.sheet(0, 8, 5);
            due("of 40", x.sheet(0, 0, 40), 0);
            due("write", x.write(0, 0, 1), MISSING);
            due("missing again", x.sheet(0, 0, 0), 0);
            due("judge", x.judge(0), MISSING);
        });
        test("39 sheet: all 0, also where numbers were, up to the 40th", x -> {
            for (int c = 0; c < 16; c++) {
                x.build(c, HEIGHT, 50);
            }
            x.sheet(0, 8, 40);
            for (int i = 0; i < 40; i++) {
                x.write(0, i, 7);
            }
            due("begun anew", x.sheet(0, 8, 40), 40);
            x.sheet(1, 8, 16);
            x.copy(0, 24, 1, 0, 16);
            due("load(1)", x.load(1), 16);
            for (int c = 0; c < 16; c++) {
                due("number " + (24 + c), x.corner(c, HEIGHT), 0);
            }
            due("load(0)", x.load(0), 16);
            due("rents", x.rents(), 800);
        });
        test("39 sheet: none of what was there behind MISSING", x -> {
            sheet(x, 0, 8, 7);
            x.sheet(0, 0, 0);
            x.sheet(0, 8, 1);
            due("load(0)", x.load(0), 1);
            due("height", x.corner(0, HEIGHT), 0);
        });
        test("39 sheet: that sheet alone", x -> {
            sheet(x, 0, 8, 7);
            x.sheet(3, 16, 2);
            x.sheet(1, 0, 0);
            due("load(0)", x.load(0), 1);
            due("height", x.corner(0, HEIGHT), 7);
            due("load(3)", x.load(3), 2);
            due("judge(2)", x.judge(2), MISSING);
        });
    }

    private static void write() {
        test("40 write: SHEETS 0 to 3", x -> bounds(0, 3, y -> y.sheet(3, 8, 1), (y, v) -> y.write(v, 0, 1)));
        test("40 write: MISSING", x -> refused(MISSING, y -> y.write(3, 0, 1)));
        test("40 write: a number, 0 to the last one", x -> {
            bounds(0, 2, (y, v) -> y.write(0, v, 9));
            bounds(0, 0, (y, v) -> y.write(2, v, 9));
            bounds(0, 39, y -> y.sheet(3, 8, 40), (y, v) -> y.write(3, v, 9));
        });
        test("40 write: no such number where there are none", x -> {
            Step none = y -> y.sheet(3, 8, 0);
            refused(BEYOND, none, y -> y.write(3, 0, 0));
            refused(BEYOND, none, y -> y.write(3, -1, 0));
        });
        test("40 write: that number alone", x -> {
            sheet(x, 0, 8, 1, 2, 3);
            due("write(0, 1, 9)", x.write(0, 1, 9), 1);
            x.load(0);
            due("first", x.corner(0, HEIGHT), 1);
            due("second", x.corner(1, HEIGHT), 9);
            due("third", x.corner(2, HEIGHT), 3);
        });
        test("40 write: its lowest 8 bits, told with their sign", x -> {
            int[][] pairs = {{127, 127}, {383, 127}, {-129, 127}, {256, 0}, {-256, 0}, {355, 99},
                {Integer.MIN_VALUE, 0}, {Integer.MIN_VALUE + 5, 5}};
            for (int[] p : pairs) {
                due(p[0] + " is " + p[1], isLoud(8, p[0], p[1]), 1);
            }
            due("128 isn't 128", isLoud(8, 128, 128), 0);
            due("255 isn't 255", isLoud(8, 255, 255), 0);
            due("255 is -1", isAny(8, 255), 1);
            due("-1 is -1", isAny(8, -1), 1);
            due("511 is -1", isAny(8, 511), 1);
            due("the greatest is -1", isAny(8, Integer.MAX_VALUE), 1);
            due("254 isn't", isAny(8, 254), 0);
        });
        test("40 write: its lowest 16 bits, told with their sign", x -> {
            int[][] pairs = {{7992, 7992}, {65536 + 7992, 7992}, {-65536 + 300, 300}, {65536, 0}, {256, 256},
                {Integer.MIN_VALUE, 0}};
            for (int[] p : pairs) {
                due(p[0] + " is " + p[1], isLoud(16, p[0], p[1]), 1);
            }
            due("65535 is -1", isAny(16, 65535), 1);
            due("the greatest is -1", isAny(16, Integer.MAX_VALUE), 1);
            due("-1 is -1", isAny(16, -1), 1);
            due("255 isn't", isAny(16, 255), 0);
            due("32767 isn't", isAny(16, 32767), 0);
        });
        test("40 write: all 32 bits", x -> {
            due("7992", isLoud(32, 7992, 7992), 1);
            due("65536 isn't 0", isLoud(32, 65536, 0), 0);
            due("the least isn't 0", isLoud(32, Integer.MIN_VALUE, 0), 0);
            due("256 isn't 0", isLoud(32, 256, 0), 0);
            due("-1 is -1", isAny(32, -1), 1);
            due("65535 isn't", isAny(32, 65535), 0);
            due("the greatest isn't", isAny(32, Integer.MAX_VALUE), 0);
        });
    }

    /** 1 if what was written is told as this LOUD, else 0. */
    private static long isLoud(int bits, int written, int loud) {
        DownhillWhispers x = new DownhillWhispers();
        for (int left = loud; left > 0; left -= 999) {
            put(x, LIE, 0, Math.min(999, left));
        }
        sheet(x, 0, bits, written);
        return x.judge(0) == 0 ? 1 : 0;
    }

    /** 1 if what was written is told as -1, which fits any LOUD, else 0. */
    private static long isAny(int bits, int written) {
        DownhillWhispers x = new DownhillWhispers();
        sheet(x, 0, bits, written);
        return x.fits(0, 1) == 112 ? 1 : 0;
    }

    private static void copyBounds() {
        test("41 copy: a sheet, 0 to 3", x ->
                bounds(0, 3, y -> y.sheet(3, 8, 1), (y, v) -> y.copy(v, 0, v, 0, 1)));
        test("41 copy: another one, 0 to 3, either", x -> {
            bounds(0, 3, y -> y.sheet(3, 8, 1), (y, v) -> y.copy(0, 0, v, 0, 1));
            bounds(0, 3, y -> y.sheet(3, 8, 1), (y, v) -> y.copy(v, 0, 0, 0, 1));
        });
        test("41 copy: MISSING, one is", x -> {
            refused(MISSING, y -> y.copy(0, 0, 3, 0, 0));
            refused(MISSING, y -> y.copy(3, 0, 0, 0, 0));
            refused(MISSING, y -> y.copy(3, 0, 3, 0, 0));
        });
        test("41 copy: KIND, they are not of as many bits", x -> {
            refused(KIND, y -> y.copy(0, 0, 1, 0, 1));
            refused(KIND, y -> y.copy(1, 0, 0, 0, 1));
            refused(KIND, y -> y.copy(2, 0, 1, 0, 1));
            refused(KIND, y -> y.copy(0, 0, 2, 0, 0));
        });
        Step five = y -> sheet(y, 3, 8, 11, 12, 13, 14, 15);
        test("41 copy: BEYOND, the first has not so many", x -> {
            bounds(0, 1, five, (y, v) -> y.copy(0, v, 3, 0, 2));
            refused(BEYOND, five, y -> y.copy(0, 0, 3, 0, 4));
            refused(BEYOND, five, y -> y.copy(0, 4, 3, 0, 0));
        });
        test("41 copy: BEYOND, the other has not so many", x -> {
            bounds(0, 3, five, (y, v) -> y.copy(0, 0, 3, v, 2));
            refused(BEYOND, five, y -> y.copy(3, 0, 0, 0, 4));
            refused(BEYOND, five, y -> y.copy(3, 0, 0, 4, 0));
        });
        test("41 copy: BEYOND, from, to or n is below 0", x -> {
            bounds(0, 3, five, (y, v) -> y.copy(0, 0, 3, 0, v));
            refused(BEYOND, five, y -> y.copy(0, -1, 3, 0, 0));
            refused(BEYOND, five, y -> y.copy(0, 0, 3, -1, 0));
            refused(BEYOND, five, y -> y.copy(0, 1, 3, 1, -1));
        });
        test("41 copy: BEYOND, sums don't wrap around", x -> {
            int most = Integer.MAX_VALUE;
            refused(BEYOND, five, y -> y.copy(0, most, 3, 0, most));
            refused(BEYOND, five, y -> y.copy(0, 0, 3, most, 1));
            refused(BEYOND, five, y -> y.copy(0, most, 3, most, 2));
            refused(BEYOND, five, y -> y.copy(0, Integer.MIN_VALUE, 3, 0, Integer.MIN_VALUE));
            refused(BEYOND, five, y -> y.copy(0, 1, 3, 1, most));
        });
    }

    private static void copy() {
        test("41 copy: none is 0, up to the end", x -> {
            sheet(x, 0, 8, 1, 2, 3);
            sheet(x, 1, 8, 4, 5);
            due("at the ends", x.copy(0, 3, 1, 2, 0), 0);
            due("at the begins", x.copy(0, 0, 1, 0, 0), 0);
            x.load(1);
            due("as it was", x.corner(0, HEIGHT), 4);
            due("as it was, too", x.corner(1, HEIGHT), 5);
            x.sheet(2, 8, 0);
            due("of none to none", x.copy(2, 0, 2, 0, 0), 0);
            due("of none", x.copy(2, 0, 0, 0, 1), BEYOND);
        });
        test("41 copy: all forty, the last one", x -> {
            x.sheet(0, 32, 40);
            x.sheet(1, 32, 40);
            x.write(0, 0, 21);
            x.write(0, 39, 22);
            due("all", x.copy(0, 0, 1, 0, 40), 40);
            due("the last to the second", x.copy(1, 39, 1, 1, 1), 1);
            x.load(1);
            due("first", x.corner(0, HEIGHT), 21);
            due("second", x.corner(1, HEIGHT), 22);
            due("third", x.corner(2, HEIGHT), 0);
        });
        test("41 copy: n of them alone, the others stay", x -> {
            sheet(x, 0, 8, 1, 2, 3, 4);
            sheet(x, 1, 8, 11, 12, 13, 14);
            due("two", x.copy(0, 1, 1, 2, 2), 2);
            heights(x, 1, 11, 12, 2, 3);
            heights(x, 0, 1, 2, 3, 4);
        });
        test("41 copy: as they all were, onto itself upwards", x -> {
            sheet(x, 0, 8, 1, 2, 3, 4, 5);
            due("four", x.copy(0, 0, 0, 1, 4), 4);
            heights(x, 0, 1, 1, 2, 3, 4);
        });
        test("41 copy: as they all were, onto itself downwards", x -> {
            sheet(x, 0, 8, 1, 2, 3, 4, 5);
            due("four", x.copy(0, 1, 0, 0, 4), 4);
            heights(x, 0, 2, 3, 4, 5, 5);
        });
        test("41 copy: onto itself all, where they are", x -> {
            sheet(x, 0, 8, 1, 2, 3);
            due("three", x.copy(0, 0, 0, 0, 3), 3);
            heights(x, 0, 1, 2, 3);
        });
    }

    private static void heights(DownhillWhispers x, int s, int... numbers) {
        due("load(" + s + ")", x.load(s), numbers.length);
        for (int i = 0; i < numbers.length; i++) {
            due("number " + i + " of sheet " + s, x.corner(i, HEIGHT), numbers[i]);
        }
    }

    private static void load() {
        test("42 load: SHEETS 0 to 3", x -> bounds(0, 3, y -> y.sheet(3, 8, 1), (y, v) -> y.load(v)));
        test("42 load: MISSING", x -> refused(MISSING, y -> y.load(3)));
        test("42 load: none where there are no numbers", x -> {
            changesNothing(0, y -> y.sheet(3, 8, 0), y -> y.load(3));
        });
        test("42 load: none where the first isn't 0 to 99", x -> {
            changesNothing(0, y -> sheet(y, 3, 8, -1, 3), y -> y.load(3));
            changesNothing(0, y -> sheet(y, 3, 8, 100, 3), y -> y.load(3));
        });
        test("42 load: numbers 0 and 99 come", x -> {
            sheet(x, 0, 8, 0, 99);
            heights(x, 0, 0, 99);
            due("the third as it was", x.corner(2, HEIGHT), 78);
        });
        test("42 load: it ends at the first above 99", x -> {
            sheet(x, 0, 32, 98, 100, 97);
            due("load(0)", x.load(0), 1);
            due("first", x.corner(0, HEIGHT), 98);
            due("second", x.corner(1, HEIGHT), 84);
            due("third", x.corner(2, HEIGHT), 78);
        });
        test("42 load: it ends at the first below 0", x -> {
            sheet(x, 0, 32, 98, 97, -1, 96);
            due("load(0)", x.load(0), 2);
            due("second", x.corner(1, HEIGHT), 97);
            due("third", x.corner(2, HEIGHT), 78);
            due("fourth", x.corner(3, HEIGHT), 72);
        });
        test("42 load: it ends at what is far beyond", x -> {
            sheet(x, 0, 32, 1, Integer.MAX_VALUE);
            due("the greatest", x.load(0), 1);
            sheet(x, 0, 32, 1, 2, Integer.MIN_VALUE);
            due("the least", x.load(0), 2);
            sheet(x, 0, 32, 256);
            due("256 of 32", x.load(0), 0);
            sheet(x, 0, 8, 256);
            due("256 of 8", x.load(0), 1);
        });
        test("42 load: it ends where there is no CORNER", x -> {
            x.sheet(0, 8, 40);
            for (int i = 0; i < 40; i++) {
                x.write(0, i, 40 + i);
            }
            due("40", x.load(0), 16);
            due("the last corner", x.corner(15, HEIGHT), 55);
            due("the first corner", x.corner(0, HEIGHT), 40);
            due("gutter of 0", x.corner(0, GUTTER), 1);
            x.sheet(0, 8, 17);
            due("17", x.load(0), 16);
            x.sheet(0, 8, 16);
            due("16", x.load(0), 16);
            x.sheet(0, 8, 15);
            due("15", x.load(0), 15);
        });
    }

    private static void judge() {
        test("43 judge: SHEETS 0 to 3", x -> bounds(0, 3, y -> y.sheet(3, 8, 1), (y, v) -> y.judge(v)));
        test("43 judge: MISSING", x -> refused(MISSING, y -> y.judge(3)));
        test("43 judge: 0 where there are no numbers", x -> changesNothing(0, y -> y.sheet(3, 8, 0), y -> y.judge(3)));
        test("43 judge: 0 if all are so, all sixteen", x -> {
            put(x, LIE, 0, 5);
            put(x, LIE, 15, 300);
            x.sheet(0, 16, 16);
            x.write(0, 0, 5);
            x.write(0, 15, 300);
            due("all", x.judge(0), 0);
            x.write(0, 15, 299);
            due("299", x.judge(0), 16);
            x.write(0, 15, 301);
            due("301", x.judge(0), 16);
            x.write(0, 15, -1);
            due("-1 isn't any here", x.judge(0), 16);
        });
        test("43 judge: 1 and the place of the first that isn't so", x -> {
            sheet(x, 0, 8, 1, 0, 1);
            due("the first", x.judge(0), 1);
            x.write(0, 0, 0);
            due("the third", x.judge(0), 3);
            x.write(0, 1, 2);
            due("the second", x.judge(0), 2);
        });
        test("43 judge: or for which there is no CORNER", x -> {
            x.sheet(0, 8, 17);
            due("17", x.judge(0), 17);
            x.sheet(0, 8, 40);
            due("40", x.judge(0), 17);
            x.write(0, 15, 1);
            due("the last corner isn't so", x.judge(0), 16);
        });
        test("43 judge: LOUD now, not what is heard of it", x -> {
            put(x, LIE, 0, 5);
            sheet(x, 0, 8, 5);
            due("now", x.judge(0), 0);
            x.go(1);
            due("behind a minute", x.judge(0), 1);
        });
        test("43 judge: nothing changes", x -> {
            changesNothing(1, y -> y.judge(0));
            changesNothing(6, y -> sheet(y, 3, 8, 0, 0, 0, 0, 120, 1), y -> y.judge(3));
        });
    }

    // ---- images

    private static void image() {
        test("44 image: 1, again and again", x -> {
            due("image()", x.image(), 1);
            due("image() again", x.image(), 1);
        });
        test("44 image: of a new object", x -> {
            x.image();
            x.says(LIE, 3);
            x.go(3);
            due("undo()", x.undo(), 0);
            due("whispers", x.count(1), 0);
        });
        test("44 image: it is no finding, and changes nothing but what undo() becomes", x -> {
            DownhillWhispers y = busyTown();
            due("image()", y.image(), 1);
            due("status(-1)", y.status(-1), 0);
            due("minute", y.now(0), 1);
            due("weight of all", y.now(2), 405);
            due("tape", y.count(5), 8);
            due("undo()", y.undo(), 1);
            due("weight of all then", y.now(2), 405);
        });
        test("44 image: all but THE TAPE", x -> {
            feed(x, "frost");
            x.image();
            x.wipe();
            x.undo();
            due("it stays empty", x.count(5), 0);
            feed(x, "lie");
            x.undo();
            due("it keeps its bytes", x.count(5), 3);
            due("and they are these", x.text(), 1);
            due("lie", x.of(0, 0), LIE);
        });
        test("44 image: all but SHEETS", x -> {
            sheet(x, 0, 8, 1, 2);
            sheet(x, 1, 8, 1);
            x.image();
            x.write(0, 1, 77);
            x.sheet(1, 0, 0);
            x.sheet(2, 16, 3);
            x.undo();
            due("load(0)", x.load(0), 2);
            due("the number written", x.corner(1, HEIGHT), 77);
            due("judge(1)", x.judge(1), MISSING);
            due("load(2)", x.load(2), 3);
        });
    }

    private static void imageOf() {
        test("44 image: each CORNER's HEIGHT, GUTTER, SAND, COST, EARS", x -> {
            for (int what = 0; what < 5; what++) {
                x.build(0, what, 4);
                x.build(15, what, 5);
            }
            x.image();
            for (int what = 0; what < 5; what++) {
                x.build(0, what, 7);
                x.build(15, what, 8);
            }
            x.undo();
            for (int what = 0; what < 5; what++) {
                due("corner(0, " + what + ")", x.corner(0, what), 4);
                due("corner(15, " + what + ")", x.corner(15, what), 5);
            }
        });
        test("44 image: each WHISPER's KIND, AT, WEIGHT, the first's and the last's", x -> {
            EIGHT_WHISPERS.on(x);
            for (int what = 0; what < 3; what++) {
                x.change(0, what, 4);
                x.change(7, what, 5);
            }
            x.image();
            for (int what = 0; what < 3; what++) {
                x.change(0, what, 2);
                x.change(7, what, 3);
            }
            x.undo();
            for (int what = 0; what < 3; what++) {
                due("of(0, " + what + ")", x.of(0, what), 4);
                due("of(7, " + what + ")", x.of(7, what), 5);
            }
        });
        test("44 image: how many WHISPERS there are, none and all", x -> {
            x.image();
            EIGHT_WHISPERS.on(x);
            x.undo();
            due("none", x.count(1), 0);
            EIGHT_WHISPERS.on(x);
            x.image();
            x.undo();
            due("all", x.count(1), 8);
            due("of(7, 1)", x.of(7, AT), 0);
        });
        test("44 image: FROST", x -> {
            x.frost(1);
            x.image();
            x.frost(0);
            x.undo();
            due("frost", x.now(3), 1);
        });
        test("44 image: AUNTS", x -> {
            x.aunts(65535);
            x.image();
            x.aunts(1);
            x.undo();
            due("aunts", x.now(4), 65535);
        });
        test("44 image: MINUTE", x -> {
            x.go(60);
            x.image();
            x.go(1);
            due("undo()", x.undo(), 60);
            due("minute", x.now(0), 60);
            due("count(0)", x.count(0), 60);
        });
        test("44 image: z", x -> {
            x.seed(Integer.MIN_VALUE);
            x.image();
            x.frosts(1);
            x.undo();
            due("z", x.count(6), Integer.MIN_VALUE);
        });
        test("44 image: SPOTS, the first and the last one", x -> {
            x.says(LIE, 0);
            x.says(LIE, 0);
            x.hold(0, 1);
            x.hold(9, 0);
            x.image();
            x.hold(0, -1);
            x.hold(9, 1);
            x.hold(5, 0);
            x.undo();
            due("as(0, 0)", x.as(0, 0), 1);
            due("as(9, 0)", x.as(9, 0), 0);
            due("as(5, 0)", x.as(5, 0), MISSING);
        });
        test("44 image: a SPOT holds no WHISPER that is gone with undo()", x -> {
            x.image();
            x.says(LIE, 0);
            x.hold(0, 0);
            x.undo();
            due("as(0, 0)", x.as(0, 0), MISSING);
            due("count(7)", x.count(7), 0);
        });
    }

    private static void undo() {
        test("45 undo: NONE, nothing is kept", x -> {
            due("at first", x.undo(), NONE);
            refused(NONE, y -> y.tear(), y -> y.undo());
        });
        test("45 undo: what was kept stays", x -> {
            x.build(3, SAND, 5);
            x.image();
            for (int i = 0; i < 3; i++) {
                x.build(3, SAND, i);
                x.go(1);
                due("undo()", x.undo(), 0);
                due("sand", x.corner(3, SAND), 5);
            }
        });
        test("45 undo: what was kept latest", x -> {
            x.go(1);
            x.image();
            x.go(1);
            x.image();
            x.go(1);
            due("undo()", x.undo(), 2);
            due("undo() again", x.undo(), 2);
        });
        test("45 undo: the answer is MINUTE, 0 as well", x -> {
            x.image();
            x.go(60);
            due("undo()", x.undo(), 0);
        });
        test("45 undo: what comes behind it doesn't change what is kept", x -> {
            put(x, LIE, 3, 9);
            x.image();
            x.undo();
            x.change(0, WEIGHT, 500);
            x.hold(0, 0);
            x.go(5);
            x.undo();
            due("weight", x.of(0, WEIGHT), 9);
            due("at", x.of(0, AT), 3);
            due("as(0, 0)", x.as(0, 0), MISSING);
        });
    }

    private static void tear() {
        test("46 tear: 1 if something was kept, else 0", x -> {
            due("at first", x.tear(), 0);
            x.image();
            due("one", x.tear(), 1);
            due("none then", x.tear(), 0);
            x.image();
            x.image();
            due("of two", x.tear(), 1);
            due("none behind it", x.tear(), 0);
        });
        test("46 tear: undo() doesn't tear", x -> {
            x.image();
            x.undo();
            due("tear()", x.tear(), 1);
        });
        test("46 tear: nothing is kept, and the town stays as it is", x -> {
            x.image();
            x.build(3, SAND, 4);
            x.tear();
            due("undo()", x.undo(), NONE);
            due("sand", x.corner(3, SAND), 4);
        });
        test("46 tear: an image behind it is kept", x -> {
            x.image();
            x.go(2);
            x.tear();
            x.image();
            x.go(1);
            due("undo()", x.undo(), 2);
        });
        test("46 tear: 0 is no finding", x -> {
            x.tear();
            due("status(-1)", x.status(-1), 0);
        });
    }

    private static void count() {
        test("47 count: what 0 to 7, BEYOND another what", x -> bounds(0, 7, (y, v) -> y.count(v)));
        test("47 count: each is 0 at first, but z", x -> {
            for (int what = 0; what < 8; what++) {
                due("count(" + what + ")", x.count(what), what == 6 ? 1 : 0);
            }
        });
        test("47 count: WHISPERS, the most", x -> {
            EIGHT_WHISPERS.on(x);
            x.says(0, 0);
            due("count(1)", x.count(1), 8);
        });
        test("47 count: WHISPERS AT THE HARBOUR, none and all", x -> {
            for (int w = 0; w < 8; w++) {
                x.says(WHISPER, 14);
            }
            due("none", x.count(2), 0);
            x.go(1);
            due("all", x.count(2), 8);
            x.change(7, AT, 0);
            due("all but the last", x.count(2), 7);
        });
        test("47 count: WEIGHT of all together, the most", x -> {
            for (int w = 0; w < 8; w++) {
                put(x, LIE, 2 * w, 999);
            }
            due("count(3)", x.count(3), 7992);
        });
        test("47 count: SAND of all CORNERS together, the most", x -> {
            for (int c = 0; c < 16; c++) {
                x.build(c, SAND, 9);
            }
            due("count(4)", x.count(4), 144);
        });
        test("47 count: bytes of THE TAPE, the most", x -> {
            feed(x, "0".repeat(120));
            due("count(5)", x.count(5), 120);
        });
        test("47 count: z, the least and the greatest", x -> {
            x.seed(Integer.MIN_VALUE);
            due("the least", x.count(6), Integer.MIN_VALUE);
            x.seed(Integer.MAX_VALUE);
            due("the greatest", x.count(6), Integer.MAX_VALUE);
        });
        test("47 count: SPOTS that hold something, of WHISPER 0 as well, all", x -> {
            x.says(LIE, 0);
            x.hold(9, 0);
            due("one", x.count(7), 1);
            for (int i = 0; i < 10; i++) {
                x.hold(i, 0);
            }
            due("all", x.count(7), 10);
            x.hold(0, -1);
            due("all but the first", x.count(7), 9);
        });
        test("47 count: nothing changes", x -> {
            int[] due = {1, 3, 0, 405, 2, 8, 77, 3};
            for (int what = 0; what < 8; what++) {
                int w = what;
                changesNothing(due[what], y -> y.count(w));
            }
        });
    }

    private static void status() {
        test("48 status: which -1 to 6", x -> bounds(-1, 6, (y, v) -> y.status(v)));
        test("48 status: BEYOND, counted from then on", x -> {
            due("status(7)", x.status(7), BEYOND);
            due("status(0)", x.status(0), 1);
            due("status(-1)", x.status(-1), 1);
            due("status(-2)", x.status(-2), BEYOND);
            due("status(0) then", x.status(0), 2);
            due("status(-1) then", x.status(-1), 2);
            due("status(0) again", x.status(0), 2);
        });
        test("48 status: undo() takes none back", x -> {
            x.image();
            x.corner(16, 0);
            x.says(7, 7);
            x.undo();
            due("status(0)", x.status(0), 2);
            due("status(-1)", x.status(-1), 2);
        });
        test("48 status: tear() takes none back", x -> {
            x.undo();
            x.image();
            x.tear();
            due("status(3)", x.status(3), 1);
        });
        test("48 status: undo() that finds nothing is counted", x -> {
            x.undo();
            due("status(3)", x.status(3), 1);
        });
        test("48 status: a FAULT of text() is none", x -> {
            text(x, "x");
            due("status(-1)", x.status(-1), 0);
        });
        test("48 status: what answers below 0 and is no finding is none", x -> {
            x.seed(-1000004);
            x.seed(-5);
            x.count(6);
            due("status(-1)", x.status(-1), 0);
        });
    }

    private static void statusOf() {
        test("48 status: 0 BEYOND alone", x -> alone(x, 0, y -> y.go(61)));
        test("48 status: 1 FULL alone", x -> alone(x, 1, y -> {
            EIGHT_WHISPERS.on(y);
            y.says(0, 0);
        }));
        test("48 status: 2 KIND alone", x -> alone(x, 2, y -> {
            y.says(LIE, 0);
            y.hold(0, 0);
            y.as(0, RUMOUR);
        }));
        test("48 status: 3 NONE alone", x -> alone(x, 3, y -> y.merge(3)));
        test("48 status: 4 STATE alone", x -> alone(x, 4, y -> {
            EIGHT_WHISPERS.on(y);
            y.sheet(0, 8, 0);
            y.said(0, 1);
        }));
        test("48 status: 5 MISSING alone", x -> alone(x, 5, y -> y.load(2)));
        test("48 status: 6 SIZE alone", x -> alone(x, 6, y -> y.sheet(0, 16, -2)));
        test("48 status: -1 all of them", x -> {
            x.corner(16, 0);
            x.undo();
            x.load(0);
            x.sheet(0, 8, -1);
            due("status(-1)", x.status(-1), 4);
        });
    }

    private static void alone(DownhillWhispers x, int which, Step step) {
        step.on(x);
        for (int other = 0; other < 7; other++) {
            due("status(" + other + ")", x.status(other), other == which ? 1 : 0);
        }
        due("status(-1)", x.status(-1), 1);
    }
}
