/** The sentences of promises 9 to 19 that name a boundary case: minutes, what will be. */
public final class MinutesEdgesTest extends Edges {
    /** A WHISPER that needs a MINUTE for each GUTTER, at the top: the longest way that there is. */
    private static final Step LONGEST_WAY = x -> put(x, WHISPER, 0, 40);

    public static void main(String[] args) {
        go();
        lastMinutes();
        now();
        merge();
        ahead();
        loud();
        heard();
        still();
        harbour();
        loudest();
        overtakes();
        kindFor();
        end();
    }

    private static void go() {
        test("9 go: n 1 to 60", x -> bounds(1, 60, (y, v) -> y.go(v)));
        test("9 go: so many MINUTES, the least and the most", x -> {
            LONGEST_WAY.on(x);
            due("go(1)", x.go(1), 0);
            due("minute", x.now(0), 1);
            due("at", x.of(0, AT), 1);
            due("go(60)", x.go(60), 55);
            due("minute then", x.now(0), 61);
        });
        test("9 go: LOUD at THE HARBOUR, in the MINUTE in which it comes and not ahead of it", x -> {
            LONGEST_WAY.on(x);
            due("go(14)", x.go(14), 0);
            due("go(1)", x.go(1), 55);
        });
        test("9 go: LOUD of all that are there", x -> {
            for (int w = 0; w < 8; w++) {
                put(x, LIE, 15, 999);
            }
            due("go(1)", x.go(1), 7992);
        });
        test("9 go: without WHISPERS MINUTES go by, too", x -> {
            due("go(60)", x.go(60), 0);
            due("minute", x.now(0), 60);
        });
        test("9 go: what isn't heard is LOUD, too", x -> {
            put(x, LIE, 15, 1);
            due("go(1)", x.go(1), 1);
        });
    }

    /** No run of 512 calls comes so far: these are the document's words beyond what it promises. */
    private static void lastMinutes() {
        test("9 go: STATE, if MINUTE would be above 99999", x -> {
            for (int i = 0; i < 1666; i++) {
                x.go(60);
            }
            due("minute", x.now(0), 99960);
            due("go(61), BEYOND first", x.go(61), BEYOND);
            due("go(40)", x.go(40), STATE);
            due("go(60)", x.go(60), STATE);
            due("minute as it was", x.now(0), 99960);
            due("status(4)", x.status(4), 2);
            due("go(39)", x.go(39), 0);
            due("the last minute", x.count(0), 99999);
            due("go(1)", x.go(1), STATE);
        });
        test("31 frosts: STATE, if MINUTE would be above 99999", x -> {
            for (int i = 0; i < 1666; i++) {
                x.go(60);
            }
            x.go(20);
            x.frost(1);
            due("frosts(21), BEYOND first", x.frosts(21), BEYOND);
            due("frosts(20)", x.frosts(20), STATE);
            due("status(4)", x.status(4), 1);
            due("z as it was", x.count(6), 1);
            due("frost as it was", x.now(3), 1);
            due("minute as it was", x.now(0), 99980);
            due("frosts(19)", x.frosts(19), 0);
            due("the last minute", x.now(0), 99999);
            due("frosts(1)", x.frosts(1), STATE);
        });
        test("Terms 2: MINUTE is 99999 at most, what will be is told beyond it", x -> {
            for (int i = 0; i < 1666; i++) {
                x.go(60);
            }
            x.go(39);
            LONGEST_WAY.on(x);
            due("ahead(0, 100)", x.ahead(0, 100), 15);
            due("harbour(0)", x.harbour(0), 15);
            due("minute", x.now(0), 99999);
        });
    }

    private static void now() {
        test("10 now: what 0 to 5", x -> bounds(0, 5, (y, v) -> y.now(v)));
        test("10 now: CORNERS where it is HEARD, the first and the last one", x -> {
            put(x, LIE, 0, 50);
            put(x, LIE, 15, 50);
            put(x, LIE, 7, 49);
            due("heard", x.now(1), 32769);
        });
        test("10 now: CORNERS where it is HEARD, none and all", x -> {
            due("none", x.now(1), 0);
            for (int c = 0; c < 16; c++) {
                x.build(c, EARS, 0);
            }
            due("all", x.now(1), 65535);
        });
        test("10 now: WEIGHT of all, none and the most", x -> {
            due("none", x.now(2), 0);
            for (int w = 0; w < 8; w++) {
                put(x, LIE, 2 * w, 999);
            }
            due("the most", x.now(2), 7992);
        });
        test("10 now: FROST", x -> {
            x.frost(1);
            due("frost", x.now(3), 1);
        });
        test("10 now: AUNTS", x -> {
            x.aunts(65535);
            due("aunts", x.now(4), 65535);
        });
        test("10 now: CORNERS whose GUTTER RUNS, none and the last one", x -> {
            due("at first", x.now(5), 32767);
            for (int c = 0; c < 16; c++) {
                x.build(c, HEIGHT, 99);
            }
            due("none", x.now(5), 0);
            x.build(14, HEIGHT, 98);
            x.build(15, GUTTER, 14);
            due("to 14 alone", x.now(5), 1 << 13 | 1 << 15);
        });
        test("10 now: nothing changes", x -> {
            changesNothing(1, y -> y.now(0));
            changesNothing(1 << 10 | 1 << 4, y -> y.now(1));
            changesNothing(405, y -> y.now(2));
            changesNothing(1, y -> y.now(3));
            changesNothing(1 << 10, y -> y.now(4));
            changesNothing(32767 - (1 << 4), y -> y.now(5));
        });
    }

    private static void merge() {
        test("11 merge: a CORNER, 0 to 15", x -> {
            Step everywhere = y -> {
                y.says(0, 0);
                y.says(0, 15);
            };
            bounds(0, 15, everywhere, (y, v) -> y.merge(v));
        });
        test("11 merge: NONE, none is there", x -> {
            refused(NONE, y -> y.merge(0));
            refused(NONE, y -> y.merge(9));
            refused(NONE, y -> y.merge(15));
            due("without any", x.merge(0), NONE);
        });
        test("11 merge: one alone is 1, and stays as it is", x -> {
            changesNothing(1, y -> y.merge(4));
        });
        test("11 merge: the least of them is the one of the least number", x -> {
            put(x, LIE, 3, 9);
            put(x, FIB, 4, 500);
            put(x, SECRET, 4, 2);
            due("merge(4)", x.merge(4), 2);
            due("at of 1", x.of(1, AT), 4);
            due("weight of 1", x.of(1, WEIGHT), 502);
            due("kind of 1", x.of(1, 0), FIB);
            due("at of 2", x.of(2, AT), 15);
            due("weight of 2", x.of(2, WEIGHT), 1);
            due("kind of 2", x.of(2, 0), SECRET);
            due("at of 0", x.of(0, AT), 3);
            due("weight of 0", x.of(0, WEIGHT), 9);
        });
        test("11 merge: the WEIGHT of all, 999 at most", x -> {
            int[][] weights = {{500, 498, 998}, {500, 499, 999}, {500, 500, 999}, {999, 999, 999}};
            for (int[] w : weights) {
                DownhillWhispers y = new DownhillWhispers();
                put(y, LIE, 4, w[0]);
                put(y, LIE, 4, w[1]);
                y.merge(4);
                due(w[0] + " and " + w[1], y.of(0, WEIGHT), w[2]);
                due("the other one", y.of(1, WEIGHT), 1);
            }
        });
        test("11 merge: all 8", x -> {
            for (int w = 0; w < 8; w++) {
                put(x, LIE, 0, 999);
            }
            due("merge(0)", x.merge(0), 8);
            due("weight", x.of(0, WEIGHT), 999);
            due("at the harbour", x.count(2), 7);
            due("loud there", x.corner(15, LOUD), 7);
            due("there are still", x.count(1), 8);
            due("merge(0) again", x.merge(0), 1);
        });
        test("11 merge: at THE HARBOUR the others stay, of WEIGHT 1", x -> {
            put(x, LIE, 15, 5);
            put(x, LIE, 15, 6);
            put(x, LIE, 15, 7);
            due("merge(15)", x.merge(15), 3);
            due("weight of 0", x.of(0, WEIGHT), 18);
            due("loud", x.corner(15, LOUD), 20);
            due("merge(15) again", x.merge(15), 3);
            due("loud then", x.corner(15, LOUD), 22);
        });
        test("11 merge: SPOTS hold them as ever", x -> {
            x.says(LIE, 4);
            x.says(LIE, 4);
            x.hold(0, 1);
            x.merge(4);
            due("as(0, 0)", x.as(0, 0), 1);
        });
    }

    private static void ahead() {
        test("12 ahead: a WHISPER, 0 to the last one", x -> {
            bounds(0, 2, (y, v) -> y.ahead(v, 1));
            bounds(0, 7, EIGHT_WHISPERS, (y, v) -> y.ahead(v, 0));
        });
        test("12 ahead: n 0 to 100", x -> bounds(0, 100, (y, v) -> y.ahead(1, v)));
        test("12 ahead: behind 0 MINUTES it is where it is", x -> {
            LONGEST_WAY.on(x);
            due("ahead(0, 0)", x.ahead(0, 0), 0);
            due("ahead(0, 1)", x.ahead(0, 1), 1);
            due("ahead(0, 14)", x.ahead(0, 14), 14);
            due("ahead(0, 15)", x.ahead(0, 15), 15);
            due("ahead(0, 16)", x.ahead(0, 16), 15);
            due("ahead(0, 100)", x.ahead(0, 100), 15);
        });
        test("12 ahead: nothing changes", x -> changesNothing(15, y -> y.ahead(1, 100)));
        test("12 ahead: of none where there is none", x -> due("ahead(0, 0)", x.ahead(0, 0), BEYOND));
    }

    private static void loud() {
        test("13 loud: a CORNER, 0 to 15", x -> bounds(0, 15, (y, v) -> y.loud(v, 1)));
        test("13 loud: n 0 to 100", x -> bounds(0, 100, (y, v) -> y.loud(10, v)));
        test("13 loud: behind 0 MINUTES as it is now", x -> {
            LONGEST_WAY.on(x);
            due("loud(0, 0)", x.loud(0, 0), 40);
            due("loud(0, 1)", x.loud(0, 1), 0);
            due("loud(15, 14)", x.loud(15, 14), 0);
            due("loud(15, 15)", x.loud(15, 15), 55);
            due("loud(15, 100)", x.loud(15, 100), 55);
        });
        test("13 loud: without WHISPERS 0", x -> due("loud(15, 100)", x.loud(15, 100), 0));
        test("13 loud: of all", x -> {
            for (int w = 0; w < 8; w++) {
                put(x, WHISPER, 14 - w, 999);
            }
            due("loud(15, 7)", x.loud(15, 7), 999 * 7);
            due("loud(15, 8)", x.loud(15, 8), 7992);
        });
        test("13 loud: nothing changes", x -> changesNothing(310, y -> y.loud(15, 100)));
    }

    private static void heard() {
        test("14 heard: a CORNER, 0 to 15", x -> bounds(0, 15, (y, v) -> y.heard(v)));
        test("14 heard: 0 where it is HEARD now", x -> {
            put(x, LIE, 3, 50);
            due("heard(3)", x.heard(3), 0);
            due("with ears 0 where nothing is", x.build(9, EARS, 0), 50);
            due("heard(9)", x.heard(9), 0);
        });
        test("14 heard: behind 1, behind the most", x -> {
            LONGEST_WAY.on(x);
            x.build(1, EARS, 41);
            x.build(15, EARS, 55);
            due("heard(1)", x.heard(1), 1);
            due("heard(15)", x.heard(15), 15);
        });
        test("14 heard: the fewest", x -> {
            put(x, LIE, 11, 50);
            put(x, LIE, 13, 50);
            due("at the harbour in 1, not only in 2", x.heard(15), 1);
        });
        test("14 heard: NONE, by 1 too little", x -> {
            LONGEST_WAY.on(x);
            x.build(1, EARS, 42);
            x.build(15, EARS, 56);
            due("heard(1)", x.heard(1), NONE);
            due("heard(15)", x.heard(15), NONE);
            refused(NONE, y -> y.heard(0));
        });
        test("14 heard: NONE, passing by isn't being there", x -> {
            put(x, LIE, 3, 99);
            due("heard(4)", x.heard(4), NONE);
        });
        test("14 heard: NONE without WHISPERS", x -> due("heard(15)", x.heard(15), NONE));
        test("14 heard: nothing changes", x -> changesNothing(1, y -> y.heard(15)));
    }

    private static void still() {
        test("15 still: 0 without WHISPERS", x -> due("still()", x.still(), 0));
        test("15 still: 0 where none moves", x -> {
            x.says(WHISPER, 15);
            x.build(3, SAND, 1);
            x.says(SECRET, 3);
            due("still()", x.still(), 0);
        });
        test("15 still: the most there is", x -> {
            LONGEST_WAY.on(x);
            due("still()", x.still(), 15);
            x.says(FIB, 0);
            due("with one that is there sooner", x.still(), 15);
        });
        test("15 still: 1 if one more MINUTE moves none, though WEIGHT is 999", x -> {
            put(x, WHISPER, 14, 999);
            due("still()", x.still(), 1);
        });
        test("15 still: the last WHISPER counts as the first", x -> {
            x.says(WHISPER, 15);
            x.says(WHISPER, 13);
            due("the last", x.still(), 2);
            x.says(WHISPER, 15);
            due("the middle one", x.still(), 2);
        });
        test("15 still: one that gathers nothing moves as well", x -> {
            x.says(SECRET, 12);
            due("still()", x.still(), 3);
        });
        test("15 still: nothing changes", x -> changesNothing(2, MORE_WHISPERS, y -> y.still()));
    }

    /** Five more, so that there are eight of them, a MINUTE from the harbour. */
    private static final Step MORE_WHISPERS = x -> {
        for (int w = 3; w < 8; w++) {
            x.says(FIB, 12);
        }
    };

    private static void harbour() {
        test("16 harbour: a WHISPER, 0 to the last one", x -> {
            bounds(0, 2, (y, v) -> y.harbour(v));
            bounds(0, 7, EIGHT_WHISPERS, (y, v) -> y.harbour(v));
        });
        test("16 harbour: 0 if it is there", x -> {
            x.says(WHISPER, 15);
            due("harbour(0)", x.harbour(0), 0);
        });
        test("16 harbour: 0 if it is there, though it leaves", x -> {
            x.build(15, HEIGHT, 9);
            x.build(15, GUTTER, 14);
            x.says(WHISPER, 15);
            due("harbour(0)", x.harbour(0), 0);
        });
        test("16 harbour: behind 1, behind the most", x -> {
            LONGEST_WAY.on(x);
            x.says(WHISPER, 14);
            due("harbour(0)", x.harbour(0), 15);
            due("harbour(1)", x.harbour(1), 1);
        });
        test("16 harbour: NONE, it doesn't come there", x -> {
            x.build(8, GUTTER, 8);
            x.says(WHISPER, 0);
            due("harbour(0)", x.harbour(0), NONE);
            refused(NONE, y -> y.harbour(0));
        });
        test("16 harbour: NONE, it goes through within a MINUTE", x -> {
            x.build(14, HEIGHT, 60);
            x.build(15, HEIGHT, 50);
            x.build(15, GUTTER, 12);
            x.says(WHISPER, 14);
            due("harbour(0)", x.harbour(0), NONE);
            x.aunts(1 << 15);
            due("held there", x.harbour(0), 1);
        });
        test("16 harbour: of none where there is none", x -> due("harbour(0)", x.harbour(0), BEYOND));
        test("16 harbour: nothing changes", x -> changesNothing(2, y -> y.harbour(1)));
    }

    private static void loudest() {
        test("17 loudest: a CORNER, 0 to 15", x -> bounds(0, 15, (y, v) -> y.loudest(v, 9)));
        test("17 loudest: n 0 to 100", x -> bounds(0, 100, (y, v) -> y.loudest(15, v)));
        test("17 loudest: now, too", x -> {
            LONGEST_WAY.on(x);
            due("loudest(0, 0)", x.loudest(0, 0), 40);
            due("loudest(0, 100)", x.loudest(0, 100), 40);
        });
        test("17 loudest: in the last of n MINUTES, too, and not behind it", x -> {
            LONGEST_WAY.on(x);
            due("loudest(15, 14)", x.loudest(15, 14), 0);
            due("loudest(15, 15)", x.loudest(15, 15), 55);
            due("loudest(1, 0)", x.loudest(1, 0), 0);
            due("loudest(1, 1)", x.loudest(1, 1), 41);
            due("loudest(1, 2)", x.loudest(1, 2), 41);
        });
        test("17 loudest: the greatest, between others", x -> {
            put(x, WHISPER, 8, 10);
            put(x, WHISPER, 7, 30);
            put(x, WHISPER, 6, 20);
            due("loudest(9, 3)", x.loudest(9, 3), 32);
        });
        test("17 loudest: without WHISPERS 0", x -> due("loudest(15, 100)", x.loudest(15, 100), 0));
        test("17 loudest: nothing changes", x -> changesNothing(285, y -> y.loudest(10, 100)));
    }

    private static void overtakes() {
        test("18 overtakes: a WHISPER, 0 to the last one", x -> {
            bounds(0, 2, (y, v) -> y.overtakes(v, v == 0 ? 1 : 0));
            bounds(0, 7, EIGHT_WHISPERS, (y, v) -> y.overtakes(v, 3));
        });
        test("18 overtakes: another one, 0 to the last one", x -> {
            bounds(0, 2, (y, v) -> y.overtakes(v == 0 ? 1 : 0, v));
            bounds(0, 7, EIGHT_WHISPERS, (y, v) -> y.overtakes(3, v));
        });
        test("18 overtakes: BEYOND, also one and the same", x -> {
            for (int w = 0; w < 3; w++) {
                int one = w;
                refused(BEYOND, y -> y.overtakes(one, one));
            }
        });
        test("18 overtakes: one and the same that isn't there is one finding", x ->
                refused(BEYOND, y -> y.overtakes(3, 3)));
        test("18 overtakes: 0 if it is at a lesser HEIGHT now, by 1", x -> {
            x.build(5, HEIGHT, 65);
            x.says(SECRET, 5);
            x.says(SECRET, 4);
            due("overtakes(0, 1)", x.overtakes(0, 1), 0);
        });
        test("18 overtakes: at the same HEIGHT it hasn't, also at another CORNER", x -> {
            x.build(5, HEIGHT, 66);
            x.build(5, GUTTER, 5);
            x.build(4, GUTTER, 4);
            x.says(SECRET, 5);
            x.says(SECRET, 4);
            due("overtakes(0, 1)", x.overtakes(0, 1), NONE);
            due("overtakes(1, 0)", x.overtakes(1, 0), NONE);
        });
        test("18 overtakes: behind 1, behind the most", x -> {
            x.build(14, SAND, 1);
            LONGEST_WAY.on(x);
            x.says(SECRET, 14);
            x.says(LIE, 0);
            due("overtakes(0, 1)", x.overtakes(0, 1), 15);
            due("overtakes(2, 0)", x.overtakes(2, 0), 1);
        });
        test("18 overtakes: the fewest, though both are at THE HARBOUR in the end", x -> {
            x.says(LIE, 3);
            x.says(WHISPER, 4);
            due("at 5 in 1 both, then it is ahead", x.overtakes(0, 1), 2);
            due("the other is ahead now", x.overtakes(1, 0), 0);
        });
        test("18 overtakes: NONE, it never does", x -> {
            x.says(WHISPER, 3);
            x.says(WHISPER, 4);
            x.says(WHISPER, 15);
            due("overtakes(0, 1)", x.overtakes(0, 1), NONE);
            due("overtakes(0, 2)", x.overtakes(0, 2), NONE);
            refused(NONE, y -> y.overtakes(0, 1));
        });
        test("18 overtakes: nothing changes", x -> changesNothing(0, y -> y.overtakes(1, 0)));
    }

    private static void kindFor() {
        test("19 kindFor: a WHISPER, 0 to the last one", x -> {
            bounds(0, 2, (y, v) -> y.kindFor(v));
            bounds(0, 7, EIGHT_WHISPERS, (y, v) -> y.kindFor(v));
        });
        test("19 kindFor: the first kind, where all are there", x -> {
            x.says(FIB, 15);
            due("kindFor(0)", x.kindFor(0), WHISPER);
        });
        test("19 kindFor: the last kind, where it is the fastest", x -> {
            x.says(WHISPER, 11);
            due("kindFor(0)", x.kindFor(0), FIB);
        });
        test("19 kindFor: of as many MINUTES the least kind", x -> {
            x.says(FIB, 14);
            due("all in 1", x.kindFor(0), WHISPER);
            x.change(0, AT, 13);
            due("from LIE on in 1", x.kindFor(0), LIE);
            x.change(0, AT, 12);
            due("SCANDAL and FIB in 1", x.kindFor(0), SCANDAL);
            x.change(0, WEIGHT, 200);
            due("from SLANDER on in 1", x.kindFor(0), SLANDER);
        });
        test("19 kindFor: the one that isn't held, behind the most MINUTES", x -> {
            x.aunts(65535);
            x.says(FIB, 0);
            due("all in 15", x.kindFor(0), WHISPER);
            due("harbour(0)", x.harbour(0), 15);
        });
        test("19 kindFor: NONE, as none", x -> {
            x.build(14, GUTTER, 14);
            x.says(FIB, 0);
            due("kindFor(0)", x.kindFor(0), NONE);
            refused(NONE, y -> y.kindFor(0));
        });
        test("19 kindFor: nothing changes, the KIND neither", x -> changesNothing(SLANDER, y -> y.kindFor(2)));
        test("19 kindFor: of none where there is none", x -> due("kindFor(0)", x.kindFor(0), BEYOND));
    }
}
