/** The sentences of promises 20 to 28 that name a boundary case: where to say it, sand, aunts, what was heard. */
public final class PlacesEdgesTest extends Edges {
    private static final Step SEVEN_WHISPERS = x -> {
        while (x.count(1) < 7) {
            x.says(0, 0);
        }
    };

    public static void main(String[] args) {
        goesBy();
        where();
        places();
        weightFor();
        sandBounds();
        sand();
        costs();
        aunt();
        fits();
        fitting();
        said();
        end();
    }

    private static void goesBy() {
        test("20 goesBy: a WHISPER, 0 to the last one", x -> {
            bounds(0, 2, (y, v) -> y.goesBy(v));
            bounds(0, 7, EIGHT_WHISPERS, (y, v) -> y.goesBy(v));
        });
        test("20 goesBy: its own alone where it stays", x -> {
            x.says(WHISPER, 15);
            x.build(0, SAND, 1);
            x.says(SECRET, 0);
            due("goesBy(0)", x.goesBy(0), 32768);
            due("goesBy(1)", x.goesBy(1), 1);
        });
        test("20 goesBy: not the CORNER to which a GUTTER leads that doesn't run", x -> {
            x.build(6, GUTTER, 2);
            x.says(WHISPER, 5);
            due("goesBy(0)", x.goesBy(0), 1 << 5 | 1 << 6);
        });
        test("20 goesBy: all of them, one a MINUTE", x -> {
            x.says(WHISPER, 0);
            due("goesBy(0)", x.goesBy(0), 65535);
        });
        test("20 goesBy: each on the way, many a MINUTE", x -> {
            x.frost(1);
            put(x, SCANDAL, 0, 999);
            due("goesBy(0)", x.goesBy(0), 65535);
            x.build(0, GUTTER, 13);
            due("goesBy(0) from 0 to 13", x.goesBy(0), 1 | 1 << 13 | 1 << 14 | 1 << 15);
        });
        test("20 goesBy: SAND where a MINUTE ends ends the way, SAND on the way doesn't", x -> {
            x.build(0, HEIGHT, 94);
            x.build(1, SAND, 1);
            x.says(SECRET, 0);
            due("at 1 when the minute ends: steep 10, speed 2: not at 1", x.goesBy(0), 65535);
            x.build(0, HEIGHT, 93);
            due("steep 9, speed 1: at 1", x.goesBy(0), 3);
        });
        test("20 goesBy: corner 0 as any other, where a MINUTE ends at it", x -> {
            way(x, 4, 66, 0);
            way(x, 0, 60, 9);
            x.says(WHISPER, 4);
            due("goesBy(0)", x.goesBy(0), 1 | 1 << 4 | 65535 - 511);
            due("by 0 and 4", x.where(0, 17, 0), 1);
            due("not by 0", x.places(0, 0, 1), 16 - 5);
        });
        test("20 goesBy: nothing changes", x -> changesNothing(65535 - 1023, y -> y.goesBy(1)));
        test("20 goesBy: of none where there is none", x -> due("goesBy(0)", x.goesBy(0), BEYOND));
    }

    private static void where() {
        test("21 where: a WHISPER, 0 to the last one", x -> {
            bounds(0, 2, (y, v) -> y.where(v, 0, 0));
            bounds(0, 7, EIGHT_WHISPERS, (y, v) -> y.where(v, 0, 0));
        });
        test("21 where: a set by which, 0 to 65535", x -> bounds(0, 65535, (y, v) -> y.where(0, v, 0)));
        test("21 where: a set by which not, 0 to 65535", x -> bounds(0, 65535, (y, v) -> y.where(0, 0, v)));
        test("21 where: all CORNERS of a set, all sixteen", x -> {
            x.says(LIE, 15);
            due("all", x.where(0, 65535, 0), 0);
            due("all but the first", x.where(0, 65534, 0), 0);
            due("and not the first", x.where(0, 65534, 1), 1);
            due("the last alone", x.where(0, 32768, 32767), 15);
        });
        test("21 where: all CORNERS of a set, not one of them alone", x -> {
            x.build(3, GUTTER, 9);
            x.says(LIE, 15);
            due("5 and 9", x.where(0, 1 << 5 | 1 << 9, 0), 4);
            due("3 and 9", x.where(0, 1 << 3 | 1 << 9, 0), 0);
            due("3 and 5", x.where(0, 1 << 3 | 1 << 5, 0), NONE);
        });
        test("21 where: by none of another set, not by one of them", x -> {
            x.says(LIE, 15);
            due("not by 3 and 5", x.where(0, 0, 1 << 3 | 1 << 5), 6);
            due("not by 3", x.where(0, 0, 1 << 3), 4);
        });
        test("21 where: one in both sets is none", x -> {
            x.says(LIE, 15);
            due("0 in both", x.where(0, 1, 1), NONE);
            due("15 in both", x.where(0, 32768, 32768), NONE);
        });
        test("21 where: of several that of the greatest HEIGHT, the last one", x -> {
            x.says(LIE, 0);
            x.build(15, HEIGHT, 91);
            due("anywhere", x.where(0, 0, 0), 15);
            x.build(15, HEIGHT, 89);
            due("anywhere else", x.where(0, 0, 0), 0);
        });
        test("21 where: of these the least", x -> {
            x.says(LIE, 0);
            x.build(15, HEIGHT, 90);
            x.build(4, HEIGHT, 90);
            due("0, 4 or 15", x.where(0, 0, 0), 0);
            due("4 or 15", x.where(0, 0, 1), 4);
        });
        test("21 where: HEIGHT 0 is greatest where all are", x -> {
            x.says(LIE, 3);
            for (int c = 0; c < 16; c++) {
                x.build(c, HEIGHT, 0);
            }
            due("anywhere", x.where(0, 0, 0), 0);
            due("not at 0", x.where(0, 0, 1), 1);
            due("at 15", x.where(0, 32768, 0), 15);
        });
        test("21 where: NONE", x -> {
            refused(NONE, y -> y.where(1, 0, 65535));
            refused(NONE, y -> y.where(1, 65535, 65535));
            refused(NONE, y -> y.where(1, 1 << 3 | 1 << 15, 0));
        });
        test("21 where: nothing changes", x -> changesNothing(0, y -> y.where(1, 32768, 0)));
    }

    private static void places() {
        test("22 places: a WHISPER, 0 to the last one", x -> {
            bounds(0, 2, (y, v) -> y.places(v, 0, 0));
            bounds(0, 7, EIGHT_WHISPERS, (y, v) -> y.places(v, 0, 0));
        });
        test("22 places: a set by which, 0 to 65535", x -> bounds(0, 65535, (y, v) -> y.places(0, v, 0)));
        test("22 places: a set by which not, 0 to 65535", x -> bounds(0, 65535, (y, v) -> y.places(0, 0, v)));
        test("22 places: none, one, all", x -> {
            x.says(LIE, 7);
            due("none", x.places(0, 0, 65535), 0);
            due("one", x.places(0, 65535, 0), 1);
            due("the last one", x.places(0, 0, 32767), 1);
            due("all", x.places(0, 0, 0), 16);
            due("all to the harbour", x.places(0, 32768, 0), 16);
            due("none there", x.places(0, 0, 32768), 0);
        });
        test("22 places: none is 0 and no finding", x -> changesNothing(0, y -> y.places(1, 1, 1)));
        test("22 places: nothing changes", x -> changesNothing(14, y -> y.places(1, 32768, 0)));
    }

    private static void weightFor() {
        test("23 weightFor: a WHISPER, 0 to the last one", x -> {
            bounds(0, 2, (y, v) -> y.weightFor(v, 4, 0));
            bounds(0, 7, EIGHT_WHISPERS, (y, v) -> y.weightFor(v, 4, 0));
        });
        test("23 weightFor: a CORNER, 0 to 15", x -> bounds(0, 15, (y, v) -> y.weightFor(0, v, 3)));
        test("23 weightFor: n 0 to 40", x -> bounds(0, 40, (y, v) -> y.weightFor(0, 4, v)));
        test("23 weightFor: behind 0 MINUTES the EARS, 1 at least", x -> {
            put(x, WHISPER, 3, 700);
            due("ears 50", x.weightFor(0, 3, 0), 50);
            x.build(3, EARS, 99);
            due("ears 99", x.weightFor(0, 3, 0), 99);
            x.build(3, EARS, 1);
            due("ears 1", x.weightFor(0, 3, 0), 1);
            x.build(3, EARS, 0);
            due("ears 0", x.weightFor(0, 3, 0), 1);
        });
        test("23 weightFor: what the others are LOUD there, too", x -> {
            put(x, WHISPER, 3, 700);
            put(x, LIE, 3, 48);
            due("48", x.weightFor(0, 3, 0), 2);
            x.change(1, WEIGHT, 49);
            due("49", x.weightFor(0, 3, 0), 1);
            x.change(1, WEIGHT, 50);
            due("50: without it", x.weightFor(0, 3, 0), 1);
            x.change(0, AT, 9);
            due("50, and it is elsewhere", x.weightFor(0, 3, 0), 1);
            x.change(1, WEIGHT, 49);
            due("49, and it is elsewhere", x.weightFor(0, 3, 0), NONE);
        });
        test("23 weightFor: what the others are LOUD there behind n MINUTES, not now", x -> {
            put(x, WHISPER, 10, 700);
            put(x, WHISPER, 13, 9);
            put(x, LIE, 15, 30);
            due("behind 5", x.weightFor(0, 15, 5), 50 - 11 - 30 - 5);
            x.change(1, AT, 9);
            due("behind 5, the other isn't there", x.weightFor(0, 15, 5), 50 - 30 - 5);
            x.change(1, AT, 10);
            due("behind 1, the other has left 10", x.weightFor(0, 10, 1), NONE);
        });
        test("23 weightFor: with what it gathers by then", x -> {
            put(x, WHISPER, 0, 700);
            due("behind 15", x.weightFor(0, 15, 15), 35);
            due("behind 40", x.weightFor(0, 15, 40), 35);
            due("behind 14", x.weightFor(0, 15, 14), NONE);
            due("at 14 behind 14", x.weightFor(0, 14, 14), 36);
        });
        test("23 weightFor: by way of corner 0, where a MINUTE ends at it", x -> {
            way(x, 4, 66, 0);
            way(x, 0, 60, 9);
            put(x, WHISPER, 4, 700);
            due("at 0 behind 1", x.weightFor(0, 0, 1), 49);
            due("at 11 behind 2", x.weightFor(0, 11, 2), 46);
        });
        test("23 weightFor: the least of those with which it is neither too slow nor too fast", x -> {
            put(x, SLANDER, 3, 1);
            due("five gutters", x.weightFor(0, 8, 1), 400);
            due("ten gutters", x.weightFor(0, 13, 1), 900);
            due("one gutter", x.weightFor(0, 4, 1), 46);
        });
        test("23 weightFor: NONE, 999 is too slow", x -> {
            put(x, SLANDER, 3, 1);
            due("eleven gutters", x.weightFor(0, 14, 1), NONE);
            refused(NONE, y -> y.weightFor(0, 9, 40));
        });
        test("23 weightFor: nothing changes, the WEIGHT neither", x -> changesNothing(50, y -> y.weightFor(0, 4, 0)));
        test("23 weightFor: of none where there is none", x -> due("weightFor", x.weightFor(0, 0, 0), BEYOND));
    }

    private static void sandBounds() {
        test("24 sand: a CORNER, 0 to 15", x -> bounds(0, 15, (y, v) -> y.sand(v, 9999, 1)));
        test("24 sand: v 0 to 9999", x -> bounds(0, 9999, (y, v) -> y.sand(0, v, 1)));
        test("24 sand: n 0 to 40", x -> bounds(0, 40, (y, v) -> y.sand(0, 0, v)));
        test("25 costs: a CORNER, 0 to 15", x -> bounds(0, 15, (y, v) -> y.costs(v, 9999, 1)));
        test("25 costs: v 0 to 9999", x -> bounds(0, 9999, (y, v) -> y.costs(0, v, 1)));
        test("25 costs: n 0 to 40", x -> bounds(0, 40, (y, v) -> y.costs(0, 0, v)));
    }

    /** SECRETS at 0 to 7, of WEIGHT 1, 2, 4, .. 128, each with a GUTTER to THE HARBOUR. */
    private static void eightSecrets(DownhillWhispers x, int cost) {
        for (int c = 0; c < 8; c++) {
            x.build(c, GUTTER, 15);
            x.build(c, COST, cost);
            put(x, SECRET, c, 1 << c);
        }
    }

    private static void sand() {
        test("24 sand: none at all, if it is quiet so", x -> {
            put(x, SECRET, 7, 10);
            due("10 at most", x.sand(15, 10, 40), 0);
            due("9 at most", x.sand(15, 9, 40), 128);
            for (int c = 0; c < 8; c++) {
                x.build(c, COST, 0);
            }
            due("10 at most, all for nothing", x.sand(15, 10, 40), 0);
            due("9 at most, all for nothing", x.sand(15, 9, 40), 128);
        });
        test("24 sand: all of 0 to 7", x -> {
            eightSecrets(x, 99);
            due("0 at most", x.sand(15, 0, 1), 255);
            due("1 at most", x.sand(15, 1, 1), 254);
            due("254 at most", x.sand(15, 254, 1), 1);
            due("255 at most", x.sand(15, 255, 1), 0);
        });
        test("24 sand: of 0 to 7 alone", x -> {
            put(x, SECRET, 8, 10);
            due("one at 8", x.sand(15, 9, 40), NONE);
            x.change(0, AT, 7);
            due("one at 7", x.sand(15, 9, 40), 128);
            x.change(0, AT, 0);
            x.build(0, GUTTER, 15);
            due("one at 0", x.sand(15, 9, 40), 1);
        });
        test("24 sand: costs least, not the fewest", x -> {
            x.build(0, GUTTER, 2);
            x.build(0, HEIGHT, 80);
            x.build(1, HEIGHT, 79);
            x.build(2, GUTTER, 15);
            x.says(SECRET, 0);
            x.says(SECRET, 1);
            x.build(2, COST, 3);
            due("two of 1 for one of 3", x.sand(15, 0, 40), 3);
            x.build(2, COST, 1);
            due("one of 1 for two of 1", x.sand(15, 0, 40), 4);
            x.build(2, COST, 2);
            due("of as much the least set", x.sand(15, 0, 40), 3);
        });
        test("24 sand: of several the least set, by one CORNER each", x -> {
            x.says(SECRET, 0);
            due("any holds it", x.sand(15, 0, 40), 1);
            x.build(0, COST, 2);
            due("any but 0", x.sand(15, 0, 40), 2);
            x.build(7, COST, 0);
            due("7 for nothing", x.sand(15, 0, 40), 128);
        });
        test("24 sand: v at most", x -> {
            eightSecrets(x, 1);
            due("127 at most", x.sand(15, 127, 1), 128);
            due("128 at most", x.sand(15, 128, 1), 128);
            due("126 at most", x.sand(15, 126, 1), 129);
        });
        test("24 sand: behind n MINUTES, 0 too", x -> {
            put(x, SECRET, 7, 10);
            due("at 7 now", x.sand(7, 9, 0), NONE);
            due("at 7 behind 1", x.sand(7, 9, 1), 0);
            due("at 8 behind 1", x.sand(8, 9, 1), 128);
            due("at 8 behind 2", x.sand(8, 9, 2), 0);
            due("at 15 behind 7", x.sand(15, 9, 7), 0);
            due("at 15 behind 8", x.sand(15, 9, 8), 128);
        });
        test("24 sand: SAND 9 holds the fastest RUMOUR, and no SLANDER of WEIGHT 100", x -> {
            x.build(0, HEIGHT, 99);
            x.build(0, GUTTER, 15);
            put(x, RUMOUR, 0, 100);
            due("a rumour", x.sand(15, 99, 40), 1);
            x.change(0, 0, SLANDER);
            due("a slander", x.sand(15, 99, 40), NONE);
        });
        test("24 sand: SAND that is there stays", x -> {
            x.build(8, SAND, 1);
            put(x, SECRET, 7, 10);
            due("it is held at 8", x.sand(15, 9, 40), 0);
        });
        test("24 sand: NONE", x -> {
            refused(NONE, y -> y.sand(4, 119, 0));
            refused(NONE, y -> y.sand(15, 309, 40));
        });
        test("24 sand: nothing changes", x -> changesNothing(0, y -> y.sand(15, 310, 40)));
        test("24 sand: nothing changes, nor where SAND is asked for", x -> {
            Step secret = y -> put(y, SECRET, 5, 9);
            changesNothing(32, secret, y -> y.sand(10, 8, 1));
        });
    }

    private static void costs() {
        test("25 costs: 0 for none", x -> {
            due("nothing said", x.costs(15, 0, 40), 0);
            x.build(0, COST, 99);
            due("of cost", x.costs(0, 0, 40), 0);
        });
        test("25 costs: the most", x -> {
            eightSecrets(x, 99);
            due("0 at most", x.costs(15, 0, 1), 792);
            due("1 at most", x.costs(15, 1, 1), 693);
            due("254 at most", x.costs(15, 254, 1), 99);
        });
        test("25 costs: 0 for those of COST 0", x -> {
            eightSecrets(x, 0);
            due("0 at most", x.costs(15, 0, 1), 0);
        });
        test("25 costs: the least", x -> {
            x.says(SECRET, 0);
            x.build(0, COST, 9);
            x.build(1, COST, 8);
            x.build(2, COST, 7);
            for (int c = 3; c < 8; c++) {
                x.build(c, COST, 90);
            }
            due("one of three", x.costs(15, 0, 40), 7);
        });
        test("25 costs: NONE likewise", x -> {
            refused(NONE, y -> y.costs(4, 119, 0));
            refused(NONE, y -> y.costs(15, 309, 40));
        });
        test("25 costs: nothing changes", x -> changesNothing(0, y -> y.costs(15, 310, 40)));
        test("25 costs: nothing changes, nor where it costs", x -> {
            Step secret = y -> put(y, SECRET, 3, 9);
            Step dear = y -> {
                secret.on(y);
                y.build(3, SAND, 0);
            };
            changesNothing(7, dear, y -> y.costs(4, 128, 1));
        });
    }

    private static void aunt() {
        test("26 aunt: n 0 to 40", x -> bounds(0, 40, (y, v) -> y.aunt(v)));
        test("26 aunt: the first, where it is the same at all", x -> {
            due("none said", x.aunt(40), 0);
            put(x, LIE, 15, 9);
            due("one that is there", x.aunt(0), 0);
            due("one that is there, behind 40", x.aunt(40), 0);
        });
        test("26 aunt: the last on the way", x -> {
            put(x, LIE, 13, 9);
            due("aunt(1)", x.aunt(1), 14);
            due("aunt(0)", x.aunt(0), 0);
            due("aunt(2)", x.aunt(2), 0);
        });
        test("26 aunt: an AUNT where it is holds none", x -> {
            put(x, FIB, 12, 9);
            due("aunt(1)", x.aunt(1), 13);
        });
        test("26 aunt: one more, those that there are stay", x -> {
            x.build(12, GUTTER, 15);
            put(x, FIB, 11, 20);
            put(x, LIE, 13, 10);
            due("without any", x.aunt(1), 12);
            x.aunts(1 << 12);
            due("with her at 12", x.aunt(1), 14);
        });
        test("26 aunt: where all are AUNTS", x -> {
            x.aunts(65535);
            put(x, FIB, 0, 9);
            due("aunt(14)", x.aunt(14), 0);
            due("aunt(40)", x.aunt(40), 0);
        });
        test("26 aunt: where one is already, one more may be the least", x -> {
            x.aunts(1);
            due("aunt(40)", x.aunt(40), 0);
        });
        test("26 aunt: nothing changes", x -> changesNothing(0, y -> y.aunt(40)));
        test("26 aunt: nothing changes, nor where one is asked for", x ->
                changesNothing(11, y -> y.aunt(1)));
    }

    private static void fits() {
        test("27 fits: a sheet, 0 to 3", x -> {
            bounds(0, 3, y -> y.sheet(3, 8, 0), (y, v) -> y.fits(v, 5));
        });
        test("27 fits: v 1 to 999", x -> bounds(1, 999, (y, v) -> y.fits(0, v)));
        test("27 fits: MISSING", x -> {
            refused(MISSING, y -> y.fits(3, 1));
            due("at first", x.fits(0, 1), MISSING);
        });
        test("27 fits: STATE, there are 8 WHISPERS", x -> refused(STATE, EIGHT_WHISPERS, y -> y.fits(0, 1)));
        test("27 fits: with 7 WHISPERS it is told", x -> changesNothing(0, SEVEN_WHISPERS, y -> y.fits(0, 1)));
        test("27 fits: all pairs of a KIND and a CORNER, where nothing is told", x -> {
            x.sheet(0, 8, 0);
            due("fits(0, 1)", x.fits(0, 1), 112);
            due("fits(0, 999)", x.fits(0, 999), 112);
        });
        test("27 fits: none is 0 and no finding", x -> changesNothing(0, y -> y.fits(0, 1)));
        test("27 fits: -1 is any, -2 isn't", x -> {
            int[] bits = {8, 16, 32};
            for (int b : bits) {
                sheet(x, 0, b, -1, -1);
                due("-1 of " + b, x.fits(0, 1), 112);
                sheet(x, 0, b, -2);
                due("-2 of " + b, x.fits(0, 1), 0);
            }
            sheet(x, 0, 8, 255);
            due("255 of 8", x.fits(0, 1), 112);
            sheet(x, 0, 16, 65535);
            due("65535 of 16", x.fits(0, 1), 112);
            sheet(x, 0, 16, 255);
            due("255 of 16", x.fits(0, 1), 0);
            sheet(x, 0, 32, 65535);
            due("65535 of 32", x.fits(0, 1), 0);
        });
    }

    private static void fitting() {
        test("27 fits: the first number is behind 1 MINUTE", x -> {
            sheet(x, 0, 16, 101);
            due("a WHISPER from 14", x.fits(0, 100), 1);
            due("it is", x.said(0, 100), 14);
        });
        test("27 fits: the second one behind 2", x -> {
            sheet(x, 0, 16, 0, 102);
            due("a WHISPER from 13", x.fits(0, 100), 1);
            due("it is", x.said(0, 100), 13);
        });
        test("27 fits: each number, the 40th too", x -> {
            x.sheet(0, 16, 40);
            for (int i = 0; i < 40; i++) {
                x.write(0, i, i < 39 ? -1 : 100);
            }
            due("what gathers nothing, and what is there", x.fits(0, 100), 3 * 16 + 4);
            x.write(0, 39, 101);
            due("a WHISPER from 14", x.fits(0, 100), 1);
            x.write(0, 0, 100);
            due("which was there behind 1", x.fits(0, 100), 0);
            x.write(0, 0, 101);
            due("with 101", x.fits(0, 100), 1);
        });
        test("27 fits: LOUD by what is there, too", x -> {
            put(x, LIE, 15, 5);
            sheet(x, 0, 16, 5);
            due("all that aren't there behind 1", x.fits(0, 1), 112 - 20);
            sheet(x, 0, 16, 6);
            due("six by what gathers nothing, and all at 15", x.fits(0, 1), 7 + 2 + 1 + 4);
            sheet(x, 0, 16, 4);
            due("less than there is", x.fits(0, 1), 0);
        });
        test("27 fits: of WEIGHT v, 999 at most", x -> {
            sheet(x, 0, 16, 999);
            due("fits(0, 999)", x.fits(0, 999), 7 + 1 + 2 + 1 + 10 + 12 + 1 + 4);
            due("fits(0, 998)", x.fits(0, 998), 1 + 1 + 10 + 12);
        });
        test("27 fits: nothing changes", x -> {
            Step any = y -> sheet(y, 3, 8, -1, -1, -1);
            changesNothing(112, any, y -> y.fits(3, 999));
        });
    }

    private static void way(DownhillWhispers x, int corner, int height, int gutter) {
        x.build(corner, HEIGHT, height);
        x.build(corner, GUTTER, gutter);
    }

    private static void said() {
        test("28 said: a sheet, 0 to 3", x -> {
            bounds(0, 3, y -> y.sheet(3, 8, 0), (y, v) -> y.said(v, 5));
        });
        test("28 said: v 1 to 999", x -> {
            bounds(1, 999, y -> y.sheet(0, 8, 0), (y, v) -> y.said(0, v));
        });
        test("28 said: MISSING", x -> {
            refused(MISSING, y -> y.said(3, 1));
            due("at first", x.said(0, 1), MISSING);
        });
        test("28 said: STATE likewise", x -> refused(STATE, EIGHT_WHISPERS, y -> y.said(1, 1)));
        test("28 said: with 7 WHISPERS it is told", x -> {
            Step told = y -> {
                SEVEN_WHISPERS.on(y);
                y.sheet(3, 8, 0);
            };
            changesNothing(0, told, y -> y.said(3, 1));
        });
        test("28 said: the first such, the first pair of all", x -> {
            x.sheet(0, 8, 0);
            due("said(0, 1)", x.said(0, 1), 0);
        });
        test("28 said: the first such, by KIND ahead of CORNER", x -> {
            sheet(x, 0, 16, 100);
            due("a WHISPER at 15 ahead of a LIE at 13", x.said(0, 100), 15);
        });
        test("28 said: 16 times the KIND, and the CORNER", x -> {
            sheet(x, 0, 16, 102);
            due("a RUMOUR from 14", x.said(0, 100), 2 * 16 + 14);
            sheet(x, 0, 16, 0, 0, 0, 0, 0, 0, 0, 100);
            due("a LIE from 0", x.said(0, 100), 16);
        });
        test("28 said: each KIND is told where it is the first such", x -> {
            sheet(x, 0, 16, 104);
            due("a SLANDER from 14", x.said(0, 100), 16 * SLANDER + 14);
            sheet(x, 0, 16, 105);
            due("a SCANDAL from 14", x.said(0, 100), 16 * SCANDAL + 14);
            sheet(x, 0, 16, 0, 0, 0, 0, 0, 0, 0, 0, 0, 0, 0, 0, 0, 0, 100);
            due("a SECRET from 0", x.said(0, 100), 16 * SECRET);
        });
        test("28 said: the last KIND is told, where a FIB alone ends its MINUTE at THE HARBOUR", x -> {
            way(x, 14, 60, 13);
            way(x, 13, 55, 12);
            way(x, 12, 50, 11);
            way(x, 11, 38, 15);
            way(x, 15, 30, 10);
            way(x, 10, 25, 10);
            x.build(12, SAND, 1);
            x.build(11, SAND, 1);
            sheet(x, 0, 16, 50);
            due("fits(0, 50)", x.fits(0, 50), 1);
            due("said(0, 50)", x.said(0, 50), 16 * FIB + 14);
        });
        test("28 said: NONE, behind the last KIND there is none that rolls as a WHISPER and gathers nothing", x -> {
            way(x, 0, 39, 15);
            way(x, 15, 30, 10);
            way(x, 10, 25, 10);
            x.build(0, SAND, 1);
            x.build(14, GUTTER, 10);
            sheet(x, 0, 16, 50);
            due("fits(0, 50)", x.fits(0, 50), 0);
            due("said(0, 50)", x.said(0, 50), NONE);
        });
        test("28 said: NONE, no pair does", x -> {
            refused(NONE, y -> y.said(0, 1));
            refused(NONE, SEVEN_WHISPERS, y -> y.said(0, 1));
        });
        test("28 said: nothing changes", x -> {
            Step any = y -> sheet(y, 3, 8, -1, -1, -1);
            changesNothing(0, any, y -> y.said(3, 1));
        });
    }
}
