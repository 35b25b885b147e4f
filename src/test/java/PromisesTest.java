import java.nio.charset.StandardCharsets;

/** For each promise of the document: ordinary inputs, the edges that it names, wrong inputs. */
public final class PromisesTest {
    private static final long BEYOND = -1000001;
    private static final long FULL = -1000002;
    private static final long KIND = -1000003;
    private static final long NONE = -1000004;
    private static final long STATE = -1000005;
    private static final long MISSING = -1000006;
    private static final long SIZE = -1000007;

    private static int wrong = 0;
    private static String part = "";

    private static void due(String call, long got, long want) {
        if (got != want) {
            wrong++;
            System.out.println(part + ": " + call + " answered " + got + ", due is " + want);
        }
    }

    private static DownhillWhispers fresh() {
        return new DownhillWhispers();
    }

    private static void tape(DownhillWhispers x, String text) {
        byte[] bytes = text.getBytes(StandardCharsets.ISO_8859_1);
        for (int i = 0; i < bytes.length; i++) {
            x.feed(bytes[i], 1);
        }
    }

    private static int text(DownhillWhispers x, String text) {
        tape(x, text);
        return x.text();
    }

    private static void fault(String text, int place) {
        DownhillWhispers x = fresh();
        due("text of '" + text + "'", text(x, text), -1 - place);
        due("tape behind '" + text + "'", x.count(5), 0);
        due("whispers behind '" + text + "'", x.count(1), 0);
        due("status behind '" + text + "'", x.status(-1), 0);
    }

    /** A WHISPER of a KIND at a CORNER, with a WEIGHT. */
    private static int put(DownhillWhispers x, int kind, int corner, int weight) {
        int whisper = x.says(kind, corner);
        x.change(whisper, 2, weight);
        return whisper;
    }

    public static void main(String[] args) {
        newObject();
        corner();
        build();
        says();
        of();
        speeds();
        change();
        aunts();
        frost();
        go();
        now();
        merge();
        ahead();
        loud();
        heard();
        still();
        harbour();
        loudest();
        overtakes();
        kindFor();
        goesBy();
        whereAndPlaces();
        weightFor();
        sandAndCosts();
        aunt();
        fitsAndSaid();
        dearestAndRents();
        frosts();
        odds();
        seed();
        feedAndWipe();
        text();
        faults();
        holdAndAs();
        sheet();
        write();
        copy();
        load();
        judge();
        images();
        count();
        status();
        System.out.println(wrong == 0 ? "all answers are as due" : wrong + " answers are not as due");
        if (wrong != 0) {
            System.exit(1);
        }
    }

    private static void newObject() {
        part = "1 a new object";
        DownhillWhispers x = fresh();
        for (int c = 0; c < 16; c++) {
            due("height of " + c, x.corner(c, 0), 90 - 6 * c);
            due("gutter of " + c, x.corner(c, 1), c == 15 ? 15 : c + 1);
            due("sand of " + c, x.corner(c, 2), 0);
            due("cost of " + c, x.corner(c, 3), 1);
            due("ears of " + c, x.corner(c, 4), 50);
        }
        for (int what = 0; what < 8; what++) {
            due("count(" + what + ")", x.count(what), what == 6 ? 1 : 0);
        }
        due("frost", x.now(3), 0);
        due("aunts", x.now(4), 0);
        for (int i = 0; i < 10; i++) {
            due("as(" + i + ", 0)", x.as(i, 0), MISSING);
        }
        for (int s = 0; s < 4; s++) {
            due("judge(" + s + ")", x.judge(s), MISSING);
        }
        due("undo()", x.undo(), NONE);
        due("status(-1)", x.status(-1), 15);
    }

    private static void corner() {
        part = "2 corner";
        DownhillWhispers x = fresh();
        due("steep", x.corner(3, 5), 6);
        due("steep of the harbour", x.corner(15, 5), 0);
        x.build(3, 1, 2);
        due("steep uphill", x.corner(3, 5), 0);
        x.build(3, 1, 10);
        due("steep far", x.corner(3, 5), 42);
        x.build(3, 0, 30);
        due("steep level", x.corner(3, 5), 0);
        put(x, 0, 3, 20);
        put(x, 1, 3, 29);
        due("loud", x.corner(3, 6), 49);
        due("heard under ears", x.corner(3, 7), 0);
        due("rent", x.corner(3, 8), 31);
        put(x, 1, 3, 1);
        due("heard at ears", x.corner(3, 7), 1);
        due("rent at 50", x.corner(3, 8), 30);
        put(x, 1, 3, 900);
        due("loud more", x.corner(3, 6), 950);
        due("rent above 50", x.corner(3, 8), 30);
        x.build(4, 4, 0);
        due("heard with ears 0", x.corner(4, 7), 1);
        due("corner(-1, 0)", x.corner(-1, 0), BEYOND);
        due("corner(16, 0)", x.corner(16, 0), BEYOND);
        due("corner(0, -1)", x.corner(0, -1), BEYOND);
        due("corner(0, 9)", x.corner(0, 9), BEYOND);
        due("status(0)", x.status(0), 4);
    }

    private static void build() {
        part = "3 build";
        DownhillWhispers x = fresh();
        int[] most = {99, 15, 9, 99, 99};
        int[] first = {60, 6, 0, 1, 50};
        for (int what = 0; what < 5; what++) {
            due("most of " + what, x.build(5, what, most[what]), first[what]);
            due("it stands " + what, x.corner(5, what), most[what]);
            due("above most of " + what, x.build(5, what, most[what] + 1), BEYOND);
            due("below 0 of " + what, x.build(5, what, -1), BEYOND);
            due("nothing changed " + what, x.corner(5, what), most[what]);
            due("least of " + what, x.build(5, what, 0), most[what]);
            due("only there " + what, x.corner(6, what), what == 0 ? 54 : what == 1 ? 7 : first[what]);
        }
        due("build(16, 0, 0)", x.build(16, 0, 0), BEYOND);
        due("build(-1, 0, 0)", x.build(-1, 0, 0), BEYOND);
        due("build(0, -1, 0)", x.build(0, -1, 0), BEYOND);
        due("build(0, 5, 0)", x.build(0, 5, 0), BEYOND);
    }

    private static void says() {
        part = "4 says";
        DownhillWhispers x = fresh();
        due("says(-1, 0)", x.says(-1, 0), BEYOND);
        due("says(7, 0)", x.says(7, 0), BEYOND);
        due("says(0, -1)", x.says(0, -1), BEYOND);
        due("says(0, 16)", x.says(0, 16), BEYOND);
        for (int w = 0; w < 8; w++) {
            due("says " + w, x.says(w % 7, 15 - w), w);
            due("kind " + w, x.of(w, 0), w % 7);
            due("at " + w, x.of(w, 1), 15 - w);
            due("weight " + w, x.of(w, 2), 1);
        }
        due("a 9th", x.says(0, 0), FULL);
        due("a 9th, wrong", x.says(7, 0), BEYOND);
        due("count(1)", x.count(1), 8);
        due("status(1)", x.status(1), 1);
    }

    private static void of() {
        part = "5 of";
        DownhillWhispers x = fresh();
        due("none yet", x.of(0, 0), BEYOND);
        put(x, 4, 2, 345);
        due("kind", x.of(0, 0), 4);
        due("at", x.of(0, 1), 2);
        due("weight", x.of(0, 2), 345);
        due("of(-1, 0)", x.of(-1, 0), BEYOND);
        due("of(1, 0)", x.of(1, 0), BEYOND);
        due("of(0, -1)", x.of(0, -1), BEYOND);
        due("of(0, 5)", x.of(0, 5), BEYOND);
        int[] gathers = {1, 0, 2, 4, 4 + 7, 0, 0};
        x.build(2, 0, 39);
        x.build(2, 1, 15);
        for (int kind = 0; kind < 7; kind++) {
            x.change(0, 0, kind);
            due("gathers as " + kind, x.of(0, 4), gathers[kind]);
        }
        x.build(2, 1, 2);
        x.change(0, 0, 4);
        due("scandal gathers on the level", x.of(0, 4), 4);
        x.change(0, 2, 999);
        due("gathers at 999", x.of(0, 4), 4);
    }

    private static void speeds() {
        part = "speeds";
        int[] steeps = {0, 9, 10, 19, 20, 29, 30, 40, 99};
        int[] plain = {1, 1, 2, 2, 3, 3, 4, 4, 4};
        for (int i = 0; i < steeps.length; i++) {
            DownhillWhispers x = fresh();
            put(x, 0, 0, 250);
            x.build(0, 1, 15);
            x.build(0, 0, steeps[i]);
            for (int f = 0; f < 2; f++) {
                x.frost(f);
                int p = plain[i];
                int[] bare = {p, p + 1, p, p + 2, p + 4, p, 2 * p + 2};
                int s = Math.max(0, p - 3);
                int[] sanded = {p, p + 1, s, s + 2, s + 4, 0, 2 * p + 2};
                for (int kind = 0; kind < 7; kind++) {
                    x.change(0, 0, kind);
                    x.build(0, 2, 0);
                    String where = "kind " + kind + " steep " + steeps[i] + " frost " + f;
                    due(where, x.of(0, 3), (f + 1) * bare[kind]);
                    x.build(0, 2, 3);
                    due(where + " sand 3", x.of(0, 3), (f + 1) * sanded[kind]);
                }
            }
        }
        DownhillWhispers x = fresh();
        put(x, 5, 0, 250);
        x.build(0, 0, 99);
        x.build(0, 1, 15);
        x.build(0, 2, 1);
        due("secret, sand 1", x.of(0, 3), 0);
        x.change(0, 0, 3);
        x.change(0, 2, 99);
        due("slander of 99", x.of(0, 3), 3);
        x.change(0, 2, 100);
        due("slander of 100", x.of(0, 3), 4);
        x.change(0, 2, 999);
        due("slander of 999", x.of(0, 3), 12);
    }

    private static void change() {
        part = "6 change";
        DownhillWhispers x = fresh();
        due("none yet", x.change(0, 0, 0), BEYOND);
        x.says(2, 3);
        due("kind", x.change(0, 0, 6), 2);
        due("kind back", x.change(0, 0, 0), 6);
        due("at", x.change(0, 1, 15), 3);
        due("at back", x.change(0, 1, 0), 15);
        due("weight", x.change(0, 2, 999), 1);
        due("weight back", x.change(0, 2, 1), 999);
        int[][] bad = {{0, 7}, {0, -1}, {1, 16}, {1, -1}, {2, 0}, {2, 1000}, {3, 0}, {-1, 0}};
        for (int[] b : bad) {
            due("change(0, " + b[0] + ", " + b[1] + ")", x.change(0, b[0], b[1]), BEYOND);
        }
        due("another", x.change(1, 0, 0), BEYOND);
        due("below", x.change(-1, 0, 0), BEYOND);
        due("kind at the end", x.of(0, 0), 0);
        due("at at the end", x.of(0, 1), 0);
        due("weight at the end", x.of(0, 2), 1);
    }

    private static void aunts() {
        part = "7 aunts";
        DownhillWhispers x = fresh();
        due("aunts(65535)", x.aunts(65535), 0);
        due("aunts(5)", x.aunts(5), 65535);
        due("aunts(-1)", x.aunts(-1), BEYOND);
        due("aunts(65536)", x.aunts(65536), BEYOND);
        due("aunts(0)", x.aunts(0), 5);
    }

    private static void frost() {
        part = "8 frost";
        DownhillWhispers x = fresh();
        due("frost(1)", x.frost(1), 0);
        due("frost(1) again", x.frost(1), 1);
        due("frost(2)", x.frost(2), BEYOND);
        due("frost(-1)", x.frost(-1), BEYOND);
        due("frost(0)", x.frost(0), 1);
    }

    private static void go() {
        part = "9 go";
        DownhillWhispers x = fresh();
        put(x, 0, 0, 10);
        due("go(0)", x.go(0), BEYOND);
        due("go(61)", x.go(61), BEYOND);
        due("go(1)", x.go(1), 0);
        due("at", x.of(0, 1), 1);
        due("weight", x.of(0, 2), 11);
        due("go(13)", x.go(13), 0);
        due("at 14", x.of(0, 1), 14);
        due("go(1) to the harbour", x.go(1), 25);
        due("go(60) there", x.go(60), 25);
        due("minute", x.now(0), 75);

        // As fast as it was ahead of the gutters, as long as they run.
        x = fresh();
        x.build(0, 0, 99);
        x.build(0, 1, 5);
        put(x, 0, 0, 998);
        x.go(1);
        due("steep 39: four gutters", x.of(0, 1), 8);
        due("999 at most", x.of(0, 2), 999);
        x.build(10, 1, 9);
        x.go(60);
        due("where no gutter runs", x.of(0, 1), 10);

        // An aunt holds those that come, not those that are there.
        x = fresh();
        x.aunts(1 << 2 | 1 << 3 | 1);
        put(x, 6, 0, 1);
        x.go(1);
        due("past the aunt at its own, held at the next", x.of(0, 1), 2);
        x.go(1);
        due("held again", x.of(0, 1), 3);
        x.go(1);
        due("past the last", x.of(0, 1), 7);

        // A scandal gathers by each steep, a slander gets no faster on its way.
        x = fresh();
        x.build(0, 0, 99);
        x.build(1, 0, 89);
        put(x, 4, 0, 90);
        x.go(1);
        due("scandal at", x.of(0, 1), 4);
        due("scandal weight", x.of(0, 2), 90 + 4 + 10 / 5 + 4 + 11 / 5 + 4 + 6 / 5 + 4 + 6 / 5);

        // Whispers go by numbers, each its own way; sand stops rumours.
        x = fresh();
        x.build(1, 2, 9);
        put(x, 2, 0, 5);
        put(x, 5, 0, 5);
        put(x, 0, 0, 5);
        x.go(5);
        due("rumour", x.of(0, 1), 1);
        due("rumour weight", x.of(0, 2), 7);
        due("secret", x.of(1, 1), 1);
        due("secret weight", x.of(1, 2), 5);
        due("whisper", x.of(2, 1), 5);
        due("loud at 1", x.corner(1, 6), 12);
        x.frost(1);
        x.go(2);
        due("whisper in frost", x.of(2, 1), 9);
    }

    private static void now() {
        part = "10 now";
        DownhillWhispers x = fresh();
        due("running", x.now(5), 32767);
        due("heard", x.now(1), 0);
        put(x, 0, 3, 50);
        put(x, 1, 15, 49);
        x.build(15, 4, 49);
        x.build(7, 4, 0);
        x.build(0, 4, 0);
        due("heard", x.now(1), 1 << 3 | 1 << 15 | 1 << 7 | 1);
        due("weight", x.now(2), 99);
        x.build(2, 1, 2);
        x.build(15, 0, 7);
        x.build(15, 1, 14);
        due("running", x.now(5), 65535 - (1 << 2) - (1 << 14));
        x.go(7);
        due("minute", x.now(0), 7);
        x.frost(1);
        x.aunts(77);
        due("frost", x.now(3), 1);
        due("aunts", x.now(4), 77);
        due("now(-1)", x.now(-1), BEYOND);
        due("now(6)", x.now(6), BEYOND);
    }

    private static void merge() {
        part = "11 merge";
        DownhillWhispers x = fresh();
        due("merge(-1)", x.merge(-1), BEYOND);
        due("merge(16)", x.merge(16), BEYOND);
        due("merge(4)", x.merge(4), NONE);
        put(x, 1, 5, 7);
        put(x, 2, 4, 500);
        put(x, 3, 4, 400);
        put(x, 4, 4, 100);
        due("merge(5)", x.merge(5), 1);
        due("alone at", x.of(0, 1), 5);
        due("alone weight", x.of(0, 2), 7);
        due("merge(4)", x.merge(4), 3);
        due("the least at", x.of(1, 1), 4);
        due("the least kind", x.of(1, 0), 2);
        due("the least weight", x.of(1, 2), 999);
        due("another at", x.of(2, 1), 15);
        due("another weight", x.of(2, 2), 1);
        due("another kind", x.of(2, 0), 3);
        due("the last at", x.of(3, 1), 15);
        due("the last weight", x.of(3, 2), 1);
        x.change(2, 2, 30);
        due("merge(15)", x.merge(15), 2);
        due("weight at the harbour", x.of(2, 2), 31);
        due("other at the harbour", x.of(3, 1), 15);
        due("other weight at the harbour", x.of(3, 2), 1);
        due("whispers", x.count(1), 4);
        x.change(0, 1, 15);
        due("merge(15) with the first", x.merge(15), 3);
        due("weight of the first", x.of(0, 2), 7 + 31 + 1);
        due("weight of the second", x.of(2, 2), 1);
    }

    private static void ahead() {
        part = "12 ahead";
        DownhillWhispers x = fresh();
        x.says(1, 2);
        due("ahead(0, 0)", x.ahead(0, 0), 2);
        due("ahead(0, 3)", x.ahead(0, 3), 8);
        due("ahead(0, 100)", x.ahead(0, 100), 15);
        due("ahead(0, 101)", x.ahead(0, 101), BEYOND);
        due("ahead(0, -1)", x.ahead(0, -1), BEYOND);
        due("ahead(1, 0)", x.ahead(1, 0), BEYOND);
        due("nothing changed", x.of(0, 1), 2);
        due("minute", x.now(0), 0);
    }

    private static void loud() {
        part = "13 loud";
        DownhillWhispers x = fresh();
        put(x, 0, 12, 40);
        put(x, 2, 11, 10);
        due("loud(15, 3)", x.loud(15, 3), 43);
        due("loud(15, 4)", x.loud(15, 4), 61);
        due("loud(12, 0)", x.loud(12, 0), 40);
        due("loud(12, 1)", x.loud(12, 1), 12);
        due("loud(15, 100)", x.loud(15, 100), 61);
        due("loud(15, 101)", x.loud(15, 101), BEYOND);
        due("loud(15, -1)", x.loud(15, -1), BEYOND);
        due("loud(16, 0)", x.loud(16, 0), BEYOND);
        due("nothing changed", x.of(0, 2), 40);
    }

    private static void heard() {
        part = "14 heard";
        DownhillWhispers x = fresh();
        put(x, 0, 10, 46);
        due("heard(10)", x.heard(10), NONE);
        due("heard(13)", x.heard(13), NONE);
        due("heard(14)", x.heard(14), 4);
        due("heard(15)", x.heard(15), 5);
        x.build(3, 4, 0);
        due("heard(3)", x.heard(3), 0);
        due("heard(16)", x.heard(16), BEYOND);
        due("heard(-1)", x.heard(-1), BEYOND);
        due("status(3)", x.status(3), 2);
        due("nothing changed", x.of(0, 1), 10);
    }

    private static void still() {
        part = "15 still";
        DownhillWhispers x = fresh();
        due("no whispers", x.still(), 0);
        x.says(0, 15);
        due("at the harbour", x.still(), 0);
        x.says(0, 0);
        due("from the top", x.still(), 15);
        x.says(2, 2);
        x.build(4, 2, 9);
        due("with a rumour", x.still(), 15);
        x.build(1, 1, 1);
        due("cut short", x.still(), 2);
        due("nothing changed", x.of(1, 1), 0);
        due("minute", x.now(0), 0);
    }

    private static void harbour() {
        part = "16 harbour";
        DownhillWhispers x = fresh();
        x.says(0, 0);
        x.says(6, 15);
        x.says(5, 7);
        due("harbour(0)", x.harbour(0), 15);
        due("harbour(1)", x.harbour(1), 0);
        due("harbour(2)", x.harbour(2), 8);
        x.build(9, 2, 1);
        due("harbour(2) with sand", x.harbour(2), NONE);
        due("harbour(3)", x.harbour(3), BEYOND);
        due("harbour(-1)", x.harbour(-1), BEYOND);
    }

    private static void loudest() {
        part = "17 loudest";
        DownhillWhispers x = fresh();
        put(x, 1, 0, 30);
        put(x, 1, 4, 20);
        put(x, 0, 6, 50);
        due("loudest(6, 0)", x.loudest(6, 0), 50);
        due("loudest(6, 100)", x.loudest(6, 100), 50);
        due("loudest(8, 1)", x.loudest(8, 1), 0);
        due("loudest(8, 2)", x.loudest(8, 2), 72);
        due("loudest(8, 3)", x.loudest(8, 3), 72);
        due("loudest(15, 100)", x.loudest(15, 100), 109);
        due("loudest(0, 100)", x.loudest(0, 100), 30);
        due("loudest(0, 101)", x.loudest(0, 101), BEYOND);
        due("loudest(0, -1)", x.loudest(0, -1), BEYOND);
        due("loudest(16, 0)", x.loudest(16, 0), BEYOND);
    }

    private static void overtakes() {
        part = "18 overtakes";
        DownhillWhispers x = fresh();
        x.says(1, 0);
        x.says(0, 3);
        due("overtakes(0, 1)", x.overtakes(0, 1), 4);
        due("overtakes(1, 0)", x.overtakes(1, 0), 0);
        x.change(0, 1, 3);
        x.change(1, 1, 3);
        due("not at once", x.overtakes(0, 1), 1);
        due("never", x.overtakes(1, 0), NONE);
        due("itself", x.overtakes(0, 0), BEYOND);
        due("overtakes(0, 2)", x.overtakes(0, 2), BEYOND);
        due("overtakes(2, 0)", x.overtakes(2, 0), BEYOND);
        due("overtakes(-1, 0)", x.overtakes(-1, 0), BEYOND);
        due("overtakes(0, -1)", x.overtakes(0, -1), BEYOND);
    }

    private static void kindFor() {
        part = "19 kindFor";
        DownhillWhispers x = fresh();
        x.says(2, 0);
        due("the fib", x.kindFor(0), 6);
        x.change(0, 2, 950);
        due("of the slander and the scandal the least", x.kindFor(0), 3);
        x.change(0, 1, 3);
        due("the scandal", x.kindFor(0), 4);
        x.change(0, 1, 15);
        due("there already", x.kindFor(0), 0);
        x.change(0, 1, 13);
        due("lie as fast as any", x.kindFor(0), 1);
        x.change(0, 1, 0);
        x.build(3, 1, 3);
        due("as none", x.kindFor(0), NONE);
        due("nothing changed", x.of(0, 0), 2);
        due("kindFor(1)", x.kindFor(1), BEYOND);
        due("kindFor(-1)", x.kindFor(-1), BEYOND);
    }

    private static void goesBy() {
        part = "20 goesBy";
        DownhillWhispers x = fresh();
        x.says(6, 9);
        due("all downhill", x.goesBy(0), 65535 - 511);
        x.build(10, 1, 13);
        due("jumps", x.goesBy(0), 1 << 9 | 1 << 10 | 1 << 13 | 1 << 14 | 1 << 15);
        x.change(0, 1, 15);
        due("its own alone", x.goesBy(0), 1 << 15);
        due("goesBy(1)", x.goesBy(1), BEYOND);
        due("goesBy(-1)", x.goesBy(-1), BEYOND);
    }

    private static void whereAndPlaces() {
        part = "21, 22 where, places";
        DownhillWhispers x = fresh();
        x.says(5, 15);
        due("where anything", x.where(0, 0, 0), 0);
        due("places anything", x.places(0, 0, 0), 16);
        due("where by 7 not 4", x.where(0, 128, 16), 5);
        due("places by 7 not 4", x.places(0, 128, 16), 3);
        x.build(7, 0, 99);
        due("greatest height", x.where(0, 128, 16), 7);
        x.build(7, 0, 48);
        x.build(6, 0, 60);
        x.build(5, 1, 7);
        due("of the same height the least", x.where(0, 128, 16), 5);
        x.build(9, 2, 1);
        due("held by sand", x.where(0, 1 << 10, 0), 10);
        due("places behind the sand", x.places(0, 1 << 10, 0), 1);
        due("one in both", x.where(0, 1, 1), NONE);
        due("places of none", x.places(0, 1, 1), 0);
        due("all at the harbour", x.places(0, 32768, 0), 6);
        due("nothing changed", x.of(0, 1), 15);
        due("where(1, 0, 0)", x.where(1, 0, 0), BEYOND);
        due("where(0, -1, 0)", x.where(0, -1, 0), BEYOND);
        due("where(0, 65536, 0)", x.where(0, 65536, 0), BEYOND);
        due("where(0, 0, -1)", x.where(0, 0, -1), BEYOND);
        due("where(0, 0, 65536)", x.where(0, 0, 65536), BEYOND);
        due("places(1, 0, 0)", x.places(1, 0, 0), BEYOND);
        due("places(0, -1, 0)", x.places(0, -1, 0), BEYOND);
        due("places(0, 65536, 0)", x.places(0, 65536, 0), BEYOND);
        due("places(0, 0, -1)", x.places(0, 0, -1), BEYOND);
        due("places(0, 0, 65536)", x.places(0, 0, 65536), BEYOND);
    }

    private static void weightFor() {
        part = "23 weightFor";
        DownhillWhispers x = fresh();
        put(x, 0, 10, 7);
        put(x, 1, 15, 20);
        due("the rest of the ears", x.weightFor(0, 15, 5), 25);
        due("too early", x.weightFor(0, 15, 4), NONE);
        due("now", x.weightFor(0, 10, 0), 50);
        x.build(15, 4, 20);
        due("heard already", x.weightFor(0, 15, 5), 1);
        x.change(0, 0, 3);
        x.build(15, 4, 50);
        due("a slander is faster when heavy", x.weightFor(0, 15, 1), 400);
        due("nothing changed", x.of(0, 2), 7);
        due("n of 40", x.weightFor(0, 15, 40), 10);
        x.change(1, 1, 13);
        due("the other comes, too", x.weightFor(0, 15, 40), 10);
        x.change(1, 2, 10);
        due("the other comes, lighter", x.weightFor(0, 15, 40), 20);
        x.change(0, 0, 3);
        x.change(0, 1, 5);
        x.build(15, 4, 99);
        due("the heaviest alone is fast enough", x.weightFor(0, 15, 1), 900);
        x.change(0, 1, 4);
        due("none is", x.weightFor(0, 15, 1), NONE);
        x.change(0, 1, 5);
        due("n of 41", x.weightFor(0, 15, 41), BEYOND);
        due("n of -1", x.weightFor(0, 15, -1), BEYOND);
        due("corner 16", x.weightFor(0, 16, 0), BEYOND);
        due("whisper 2", x.weightFor(2, 15, 0), BEYOND);
    }

    private static void sandAndCosts() {
        part = "24, 25 sand, costs";
        DownhillWhispers x = fresh();
        put(x, 2, 2, 10);
        put(x, 2, 5, 10);
        due("nothing to sand", x.sand(15, 66, 20), 0);
        due("it costs nothing", x.costs(15, 66, 20), 0);
        due("one less", x.sand(15, 65, 20), 4);
        due("the least that holds one", x.sand(15, 40, 20), 4);
        due("it costs", x.costs(15, 40, 20), 1);
        due("both", x.sand(15, 0, 20), 32);
        x.build(5, 3, 5);
        due("another for less", x.sand(15, 0, 20), 64);
        x.build(2, 1, 8);
        due("two for less than 5 alone", x.sand(15, 0, 20), 4 | 64);
        due("for less it costs", x.costs(15, 0, 20), 2);
        x.build(2, 1, 3);
        x.build(6, 3, 0);
        x.build(7, 3, 0);
        due("of no cost the least", x.sand(15, 0, 20), 64);
        due("no cost", x.costs(15, 0, 20), 0);
        x.change(1, 1, 8);
        due("beyond sanding", x.sand(15, 23, 20), NONE);
        due("beyond sanding costs", x.costs(15, 23, 20), NONE);
        due("just so much", x.sand(15, 24, 20), 64);
        due("now", x.sand(15, 0, 0), 0);
        due("now it costs", x.costs(15, 0, 0), 0);
        due("now none", x.sand(8, 9, 0), NONE);
        due("nothing changed", x.count(4), 0);
        int[][] bad = {{16, 0, 0}, {-1, 0, 0}, {0, -1, 0}, {0, 10000, 0}, {0, 0, -1}, {0, 0, 41}};
        for (int[] b : bad) {
            due("sand " + b[0] + " " + b[1] + " " + b[2], x.sand(b[0], b[1], b[2]), BEYOND);
            due("costs " + b[0] + " " + b[1] + " " + b[2], x.costs(b[0], b[1], b[2]), BEYOND);
        }
        x = fresh();
        put(x, 5, 0, 10);
        x.build(0, 3, 9);
        for (int c = 1; c < 8; c++) {
            x.build(c, 3, 20);
        }
        due("a secret at 0", x.sand(15, 9, 40), 1);
        due("a secret at 0 costs", x.costs(15, 9, 40), 9);
        x.build(0, 2, 9);
        due("sand is there", x.costs(15, 9, 40), 0);
        due("sand(0, 9999, 40)", x.sand(0, 9999, 40), 0);
        due("costs(0, 9999, 40)", x.costs(0, 9999, 40), 0);
    }

    private static void aunt() {
        part = "26 aunt";
        DownhillWhispers x = fresh();
        due("none says", x.aunt(40), 0);
        due("none says, now", x.aunt(0), 0);
        put(x, 1, 11, 10);
        due("aunt(1)", x.aunt(1), 0);
        due("aunt(2): at 12, so that it is at 14 then", x.aunt(2), 12);
        due("aunt(3): it is there anyhow", x.aunt(3), 0);
        put(x, 1, 9, 10);
        due("aunt(3): of two the second", x.aunt(3), 10);
        due("nothing changed", x.now(4), 0);
        x.aunts(65535);
        due("all are", x.aunt(3), 0);
        due("aunt(-1)", x.aunt(-1), BEYOND);
        due("aunt(41)", x.aunt(41), BEYOND);
    }

    private static void fitsAndSaid() {
        part = "27, 28 fits, said";
        DownhillWhispers x = fresh();
        due("fits(-1, 1)", x.fits(-1, 1), BEYOND);
        due("fits(4, 1)", x.fits(4, 1), BEYOND);
        due("fits missing", x.fits(0, 0), MISSING);
        due("said(-1, 1)", x.said(-1, 1), BEYOND);
        due("said(4, 1)", x.said(4, 1), BEYOND);
        due("said missing", x.said(0, 0), MISSING);
        x.sheet(0, 16, 0);
        due("fits(0, 0)", x.fits(0, 0), BEYOND);
        due("fits(0, 1000)", x.fits(0, 1000), BEYOND);
        due("said(0, 0)", x.said(0, 0), BEYOND);
        due("said(0, 1000)", x.said(0, 1000), BEYOND);
        due("nothing told", x.fits(0, 1), 112);
        due("nothing told said", x.said(0, 999), 0);
        x.sheet(0, 16, 3);
        x.write(0, 0, 0);
        x.write(0, 1, -1);
        x.write(0, 2, 103);
        // As a WHISPER from 12 in the third minute; nothing else gathers 3 on its way.
        due("three gutters of a whisper", x.fits(0, 100), 1);
        due("from 12", x.said(0, 100), 12);
        x.write(0, 2, 100);
        // LIES (two a minute) from 9 to 12, FIBS (four) from 3 to 10, SECRETS (one) from 12 and 13.
        due("nothing gathered", x.fits(0, 100), 4 + 8 + 2);
        due("the first of them", x.said(0, 100), 16 + 9);
        x.write(0, 2, 101);
        x.write(0, 0, 101);
        due("from 14 in one", x.said(0, 100), 14);
        x.write(0, 0, 7);
        due("none", x.fits(0, 100), 0);
        due("none said", x.said(0, 100), NONE);
        x.sheet(1, 8, 1);
        x.write(1, 0, 255);
        due("255 of 8 bits is -1: any", x.fits(1, 100), 112);
        put(x, 0, 15, 3);
        x.sheet(1, 8, 1);
        x.write(1, 0, 4);
        // Each KIND at the harbour; LIES from 13, 14, FIBS from 11 to 14, a SECRET from 14.
        due("with what is there", x.fits(1, 1), 7 + 2 + 4 + 1);
        due("at the harbour it is a whisper", x.said(1, 1), 15);
        due("nothing changed", x.count(1), 1);
        due("minute", x.now(0), 0);
        for (int w = 1; w < 8; w++) {
            x.says(0, 0);
        }
        due("8 fits", x.fits(1, 1), STATE);
        due("8 said", x.said(1, 1), STATE);
        due("8 and a wrong weight", x.fits(1, 0), BEYOND);
        due("8 and a missing sheet", x.said(2, 0), MISSING);
    }

    private static void dearestAndRents() {
        part = "29, 30 dearest, rents";
        DownhillWhispers x = fresh();
        due("dearest", x.dearest(), 0);
        due("rents", x.rents(), 720 + 800);
        put(x, 0, 0, 49);
        due("dearest quiet", x.dearest(), 1);
        due("rents", x.rents(), 720 + 800 - 49);
        x.change(0, 2, 999);
        due("rents loud", x.rents(), 720 + 750);
        x.build(9, 0, 84);
        due("of several the least", x.dearest(), 1);
        x.build(9, 0, 85);
        due("by height", x.dearest(), 9);
        x.build(15, 0, 99);
        due("the harbour", x.dearest(), 15);
    }

    private static void frosts() {
        part = "31 frosts";
        DownhillWhispers x = fresh();
        due("frosts(0)", x.frosts(0), BEYOND);
        due("frosts(21)", x.frosts(21), BEYOND);
        put(x, 0, 0, 60);
        int z = 1;
        int at = 0;
        int shouts = 0;
        int frost = 0;
        for (int i = 0; i < 20; i++) {
            z = z * 1103515245 + 12345;
            frost = (z >>> 8) % 2;
            at = Math.min(15, at + 1 + frost);
            shouts += at == 15 ? 1 : 0;
        }
        due("frosts(20)", x.frosts(20), shouts);
        due("z", x.count(6), z);
        due("frost", x.now(3), frost);
        due("minute", x.now(0), 20);
        due("at", x.of(0, 1), at);
        due("weight", x.of(0, 2), 75);
        due("frosts(7)", x.frosts(7), 7);
        due("minute", x.now(0), 27);
        x.build(15, 4, 76);
        due("none heard", x.frosts(1), 0);
    }

    private static void odds() {
        part = "32 odds";
        DownhillWhispers x = fresh();
        due("odds(18, 1, 0)", x.odds(18, 1, 0), 150094635296999121L);
        due("odds(18, 1, 1)", x.odds(18, 1, 1), 1000000000000000000L);
        due("odds(2, 4, 0)", x.odds(2, 4, 0), 9);
        due("odds(2, 4, 1)", x.odds(2, 4, 1), 25);
        due("odds(3, 5, 0)", x.odds(3, 5, 0), 1);
        due("odds(3, 5, 1)", x.odds(3, 5, 1), 8);
        due("odds(18, 0, 0)", x.odds(18, 0, 0), 1);
        due("odds(18, 0, 1)", x.odds(18, 0, 1), 1);
        due("odds(5, 10, 0)", x.odds(5, 10, 0), 0);
        due("odds(5, 10, 1)", x.odds(5, 10, 1), 1);
        due("odds(0, 10, 0)", x.odds(0, 10, 0), 1);
        due("odds(0, 10, 1)", x.odds(0, 10, 1), 1);
        due("odds(1, 3, 0)", x.odds(1, 3, 0), 7);
        due("odds(1, 3, 1)", x.odds(1, 3, 1), 10);
        int[][] bad = {{-1, 0, 0}, {19, 0, 0}, {0, -1, 0}, {0, 11, 0}, {0, 0, -1}, {0, 0, 2}};
        for (int[] b : bad) {
            due("odds " + b[0] + " " + b[1] + " " + b[2], x.odds(b[0], b[1], b[2]), BEYOND);
        }
        due("status(0)", x.status(0), 6);
    }

    private static void seed() {
        part = "33 seed";
        DownhillWhispers x = fresh();
        due("first", x.seed(-1000001), 1);
        due("what it was is no finding", x.seed(Integer.MIN_VALUE), -1000001);
        due("count(6)", x.count(6), Integer.MIN_VALUE);
        due("none counted", x.status(-1), 0);
    }

    private static void feedAndWipe() {
        part = "34, 35 feed, wipe";
        DownhillWhispers x = fresh();
        due("feed(0, 0)", x.feed(0, 0), BEYOND);
        due("feed(0, 5)", x.feed(0, 5), BEYOND);
        due("wipe nothing", x.wipe(), 0);
        due("feed 3", x.feed(0x7f667269, 3), 3);
        due("feed 2", x.feed(0x6f73, 1), 4);
        due("count(5)", x.count(5), 4);
        due("wipe", x.wipe(), 4);
        due("count(5) behind", x.count(5), 0);
        due("the lowest, highest first", x.feed(0x7f66726f, 3), 3);
        due("and more", x.feed(0x7374, 2), 5);
        due("it is frost", x.text(), 1);
        due("frost", x.now(3), 1);
        for (int i = 0; i < 29; i++) {
            x.feed(0x3b3b3b3b, 4);
        }
        due("117", x.feed(0x3b, 1), 117);
        due("4 more are too many", x.feed(0, 4), FULL);
        due("3 more", x.feed(0, 3), 120);
        due("1 more", x.feed(0, 1), FULL);
        due("wrong first", x.feed(0, 0), BEYOND);
        due("wipe 120", x.wipe(), 120);
    }

    private static void text() {
        part = "36 text";
        DownhillWhispers x = fresh();
        due("kinds", text(x, "whisper;lie at 1;rumour weight 3;slander at 2 weight 999;scandal;secret"), 6);
        int[][] told = {{0, 0, 1}, {1, 1, 1}, {2, 0, 3}, {3, 2, 999}, {4, 0, 1}, {5, 0, 1}};
        for (int w = 0; w < told.length; w++) {
            for (int what = 0; what < 3; what++) {
                due("whisper " + w + " what " + what, x.of(w, what), told[w][what]);
            }
        }
        due("tape", x.count(5), 0);
        due("with blanks", text(x, "  fib  at  15 ; fib weight1at"), -1 - 27);
        due("nothing of it", x.count(1), 6);
        due("close together", text(x, " fib at007weight00000000000012  ;fib  "), 2);
        due("fib at", x.of(6, 1), 7);
        due("fib weight", x.of(6, 2), 12);
        due("full", text(x, "frost;fib"), -1 - 6);
        due("no frost of it", x.now(3), 0);

        x = fresh();
        due("corner", text(x, "corner 3 height 99 gutter 0 sand 9 ears 0"), 1);
        int[] traits = {99, 0, 9, 1, 0};
        for (int what = 0; what < 5; what++) {
            due("corner 3 what " + what, x.corner(3, what), traits[what]);
        }
        due("corners", text(x, "corner 15;corner 0 ears 99;corner 1 gutter 15 ears 1;corner 2 sand 1"), 4);
        due("ears of 0", x.corner(0, 4), 99);
        due("height of 0", x.corner(0, 0), 90);
        due("gutter of 1", x.corner(1, 1), 15);
        due("ears of 1", x.corner(1, 4), 1);
        due("sand of 2", x.corner(2, 2), 1);
        due("the last counts", text(x, "frost;thaw;frost;aunts 3;aunts 65535"), 5);
        due("frost", x.now(3), 1);
        due("aunts", x.now(4), 65535);
        due("thaw", text(x, "thaw;aunts 0"), 2);
        due("thawed", x.now(3), 0);
        due("none", x.now(4), 0);
        due("minute and z", x.count(0) + x.count(6), 1);
        due("no finding", x.status(-1), 0);
        due("whispers", text(x, "lie;lie;lie;lie;lie;lie;lie;lie"), 8);
        due("a 9th", text(x, " lie at 16"), -2);
        due("none counted", x.status(-1), 0);
    }

    private static void faults() {
        part = "36 faults";
        fault("", 0);
        fault("   ", 3);
        fault("frost;", 6);
        fault("frost; ", 7);
        fault(";", 0);
        fault("frost;;frost", 6);
        fault("frost frost", 6);
        fault("frost thaw", 6);
        fault("frostthaw", 0);
        fault("Frost", 0);
        fault("frost\n", 5);
        fault("frost;\tfrost", 6);
        fault("frost\u00e9", 5);
        fault("frost,thaw", 5);
        fault("frost\0", 5);
        fault("\0", 0);
        fault("frostz", 0);
        fault("frostaz", 0);
        fault("frost`", 5);
        fault("frost{", 5);
        fault("aunts 9/", 7);
        fault("aunts 9:", 7);
        fault("whisper weight x", 15);
        fault("corner 3 ears x", 14);
        fault("corner x", 7);
        fault("aunts x", 6);
        fault("whispers", 0);
        fault("whisper 3", 8);
        fault("whisper at", 10);
        fault("whisper at ", 11);
        fault("whisper at at 3", 11);
        fault("whisper at -1", 11);
        fault("whisper at 16", 11);
        fault("whisper at 3 at 3", 13);
        fault("whisper at 3 4", 13);
        fault("whisper at 3 weight", 19);
        fault("whisper weight 0", 15);
        fault("whisper weight 1000", 15);
        fault("whisper weight 100000", 15);
        fault("whisper weight 4294967297", 15);
        fault("whisper weight 18446744073709551617", 15);
        fault("whisper weight 1 at 3", 17);
        fault("whisper weight 1 weight 1", 17);
        fault("whisper sand 1", 8);
        fault("corner", 6);
        fault("corner height 3", 7);
        fault("corner 16", 7);
        fault("corner 3 height", 15);
        fault("corner 3 height 100", 16);
        fault("corner 3 height ;", 16);
        fault("corner 3 gutter 16", 16);
        fault("corner 3 sand 10", 14);
        fault("corner 3 ears 100", 14);
        fault("corner 3 cost 1", 9);
        fault("corner 3 gutter 1 height 1", 18);
        fault("corner 3 sand 1 gutter 1", 16);
        fault("corner 3 ears 1 sand 1", 16);
        fault("corner 3 sand 1 sand 1", 16);
        fault("corner 3 height 1;corner 4 height 100", 34);
        fault("aunts", 5);
        fault("aunts frost", 6);
        fault("aunts 65536", 6);
        fault("aunts 99999", 6);
        fault("aunts 1 2", 8);
        fault("harbour", 0);
        fault("thaw 0", 5);
        fault("lie;lie;lie;lie;lie;lie;lie;lie;lie at 99", 32);
        DownhillWhispers x = fresh();
        text(x, "corner 3 height 1 sand 2;aunts 4;frost;lie;x");
        due("height", x.corner(3, 0), 72);
        due("sand", x.corner(3, 2), 0);
        due("aunts", x.now(4), 0);
        due("frost", x.now(3), 0);
        due("whispers", x.count(1), 0);
    }

    private static void holdAndAs() {
        part = "37, 38 hold, as";
        DownhillWhispers x = fresh();
        due("none yet", x.hold(0, 0), BEYOND);
        due("nothing", x.hold(0, -1), 1);
        for (int kind = 0; kind < 7; kind++) {
            x.says(kind, 0);
            due("hold " + kind, x.hold(9 - kind, kind), 1);
        }
        due("count(7)", x.count(7), 7);
        int[] under = {0b1, 0b11, 0b101, 0b1101, 0b11101, 0b100001, 0b1000011};
        for (int kind = 0; kind < 7; kind++) {
            for (int as = 0; as < 7; as++) {
                long want = (under[kind] >> as & 1) != 0 ? kind : KIND;
                due("kind " + kind + " as " + as, x.as(9 - kind, as), want);
            }
        }
        due("hold(-1, 0)", x.hold(-1, 0), BEYOND);
        due("hold(10, 0)", x.hold(10, 0), BEYOND);
        due("hold(0, 7)", x.hold(0, 7), BEYOND);
        due("hold(0, -2)", x.hold(0, -2), BEYOND);
        due("as(-1, 0)", x.as(-1, 0), BEYOND);
        due("as(10, 0)", x.as(10, 0), BEYOND);
        due("as(0, -1)", x.as(0, -1), BEYOND);
        due("as(0, 7)", x.as(0, 7), BEYOND);
        due("as(0, 0)", x.as(0, 0), MISSING);
        x.hold(9, -1);
        due("as(9, 0)", x.as(9, 0), MISSING);
        due("count(7)", x.count(7), 6);
        x.hold(0, 3);
        x.change(3, 0, 1);
        due("the kind that it has now", x.as(0, 1), 3);
        due("no slander more", x.as(0, 3), KIND);
    }

    private static void sheet() {
        part = "39 sheet";
        DownhillWhispers x = fresh();
        due("sheet(-1, 8, 1)", x.sheet(-1, 8, 1), BEYOND);
        due("sheet(4, 8, -1)", x.sheet(4, 8, -1), BEYOND);
        due("other bits", x.sheet(0, 7, -1), BEYOND);
        due("other bits", x.sheet(0, 64, 1), BEYOND);
        due("size", x.sheet(0, 8, -1), SIZE);
        due("size of none", x.sheet(0, 0, -1), SIZE);
        due("too many", x.sheet(0, 8, 41), BEYOND);
        due("too many of none", x.sheet(0, 0, 41), BEYOND);
        due("still missing", x.judge(0), MISSING);
        due("none", x.sheet(0, 0, 40), 0);
        due("missing", x.write(0, 0, 0), MISSING);
        due("40", x.sheet(0, 32, 40), 40);
        due("the last", x.write(0, 39, 5), 1);
        due("0 of 16", x.sheet(0, 16, 0), 0);
        due("no number", x.write(0, 0, 0), BEYOND);
        due("again 40", x.sheet(0, 16, 40), 40);
        due("all 0", x.judge(0), 17);
        due("to none", x.sheet(0, 0, 3), 0);
        due("missing again", x.judge(0), MISSING);
    }

    private static void write() {
        part = "40 write";
        DownhillWhispers x = fresh();
        due("no such sheet", x.write(4, 0, 0), BEYOND);
        due("no such sheet", x.write(-1, 0, 0), BEYOND);
        due("missing", x.write(3, -1, 0), MISSING);
        x.sheet(3, 8, 2);
        due("below", x.write(3, -1, 0), BEYOND);
        due("above", x.write(3, 2, 0), BEYOND);
        due("8 bits", x.write(3, 0, 256 + 77), 1);
        due("8 bits", x.write(3, 1, 128), 1);
        due("load: -128 comes not", x.load(3), 1);
        due("77", x.corner(0, 0), 77);
        x.sheet(3, 16, 2);
        x.write(3, 0, 65536 + 78);
        x.write(3, 1, 65535);
        due("load: -1 comes not", x.load(3), 1);
        due("78", x.corner(0, 0), 78);
        x.sheet(3, 32, 2);
        x.write(3, 0, 79);
        x.write(3, 1, 65536);
        due("load: 65536 comes not", x.load(3), 1);
        due("79", x.corner(0, 0), 79);
        x.sheet(3, 16, 1);
        x.write(3, 0, 300);
        put(x, 0, 0, 300);
        due("300 of 16 bits", x.judge(3), 0);
        x.sheet(3, 8, 1);
        x.write(3, 0, 300);
        due("300 of 8 bits", x.judge(3), 1);
    }

    private static void copy() {
        part = "41 copy";
        DownhillWhispers x = fresh();
        due("no such sheet", x.copy(4, 0, 0, 0, 0), BEYOND);
        due("no such sheet", x.copy(0, 0, -1, 0, 0), BEYOND);
        due("missing", x.copy(0, -1, 1, 0, 0), MISSING);
        x.sheet(0, 8, 5);
        due("the other missing", x.copy(0, 0, 1, 0, 0), MISSING);
        due("one missing", x.copy(1, 0, 0, 0, 0), MISSING);
        x.sheet(1, 16, 5);
        due("other bits", x.copy(0, -1, 1, 0, 0), KIND);
        x.sheet(1, 8, 3);
        for (int i = 0; i < 5; i++) {
            x.write(0, i, 10 + i);
        }
        due("all", x.copy(0, 1, 1, 0, 3), 3);
        due("load", x.load(1), 3);
        due("11", x.corner(0, 0), 11);
        due("13", x.corner(2, 0), 13);
        due("too many there", x.copy(0, 0, 1, 0, 4), BEYOND);
        due("too many here", x.copy(0, 3, 1, 0, 3), BEYOND);
        due("from below 0", x.copy(0, -1, 1, 0, 1), BEYOND);
        due("to below 0", x.copy(0, 0, 1, -1, 1), BEYOND);
        due("n below 0", x.copy(0, 1, 1, 1, -1), BEYOND);
        due("none at the end", x.copy(0, 5, 1, 3, 0), 0);
        due("none behind the end", x.copy(0, 6, 1, 3, 0), BEYOND);
        due("far", x.copy(0, Integer.MAX_VALUE, 1, 0, Integer.MAX_VALUE), BEYOND);
        due("far there", x.copy(0, 0, 1, Integer.MAX_VALUE, 1), BEYOND);
        due("onto itself, up", x.copy(0, 0, 0, 1, 4), 4);
        x.load(0);
        int[] up = {10, 10, 11, 12, 13};
        for (int i = 0; i < 5; i++) {
            due("up " + i, x.corner(i, 0), up[i]);
        }
        due("onto itself, down", x.copy(0, 2, 0, 1, 3), 3);
        x.load(0);
        int[] down = {10, 11, 12, 13, 13};
        for (int i = 0; i < 5; i++) {
            due("down " + i, x.corner(i, 0), down[i]);
        }
    }

    private static void load() {
        part = "42 load";
        DownhillWhispers x = fresh();
        due("no such sheet", x.load(4), BEYOND);
        due("no such sheet", x.load(-1), BEYOND);
        due("missing", x.load(0), MISSING);
        x.sheet(0, 8, 3);
        x.write(0, 0, 99);
        x.write(0, 1, 100);
        x.write(0, 2, 5);
        due("up to 100", x.load(0), 1);
        due("99", x.corner(0, 0), 99);
        due("84 as it was", x.corner(1, 0), 84);
        due("78 as it was", x.corner(2, 0), 78);
        x.write(0, 1, -1);
        due("up to -1", x.load(0), 1);
        x.sheet(0, 32, 0);
        due("none", x.load(0), 0);
        x.sheet(0, 32, 17);
        due("as many as corners", x.load(0), 16);
        due("heights", x.rents(), 800);
    }

    private static void judge() {
        part = "43 judge";
        DownhillWhispers x = fresh();
        due("no such sheet", x.judge(4), BEYOND);
        due("no such sheet", x.judge(-1), BEYOND);
        due("missing", x.judge(0), MISSING);
        put(x, 0, 2, 44);
        put(x, 0, 2, 33);
        x.sheet(0, 8, 2);
        due("so", x.judge(0), 0);
        x.sheet(0, 8, 3);
        due("the third isn't so", x.judge(0), 3);
        x.write(0, 2, 77);
        due("so then", x.judge(0), 0);
        x.write(0, 0, 1);
        due("the first", x.judge(0), 1);
        x.sheet(0, 8, 17);
        x.write(0, 2, 77);
        due("no such corner", x.judge(0), 17);
        x.sheet(0, 8, 16);
        x.write(0, 2, 77);
        due("all corners", x.judge(0), 0);
        x.sheet(0, 8, 0);
        due("no numbers", x.judge(0), 0);
    }

    private static void images() {
        part = "44 to 46 image, undo, tear";
        DownhillWhispers x = fresh();
        due("tear nothing", x.tear(), 0);
        due("undo nothing", x.undo(), NONE);
        put(x, 2, 4, 5);
        x.hold(1, 0);
        x.go(2);
        x.frost(1);
        x.aunts(9);
        x.seed(123);
        x.build(7, 3, 8);
        due("image", x.image(), 1);
        x.says(0, 0);
        x.change(0, 0, 1);
        x.change(0, 1, 1);
        x.change(0, 2, 77);
        x.hold(1, 1);
        x.hold(2, 0);
        x.frost(0);
        x.aunts(0);
        x.go(3);
        x.frosts(2);
        x.seed(55);
        for (int what = 0; what < 5; what++) {
            x.build(7, what, 9);
        }
        x.sheet(0, 8, 1);
        x.write(0, 0, 3);
        x.feed(0x3b, 1);
        for (int again = 0; again < 2; again++) {
            due("undo", x.undo(), 2);
            due("minute", x.now(0), 2);
            due("whispers", x.count(1), 1);
            due("kind", x.of(0, 0), 2);
            due("at", x.of(0, 1), 6);
            due("weight", x.of(0, 2), 9);
            due("spot 1", x.as(1, 0), 0);
            due("spots", x.count(7), 1);
            due("frost", x.now(3), 1);
            due("aunts", x.now(4), 9);
            due("z", x.count(6), 123);
            due("height", x.corner(7, 0), 48);
            due("gutter", x.corner(7, 1), 8);
            due("sand", x.corner(7, 2), 0);
            due("cost", x.corner(7, 3), 8);
            due("ears", x.corner(7, 4), 50);
            due("sheet stays", x.load(0), 1);
            due("tape stays", x.count(5), 1);
            x.go(1);
        }
        due("a second image", x.image(), 1);
        x.go(1);
        due("undo to the second", x.undo(), 3);
        due("findings stay", x.status(-1), 1);
        due("tear", x.tear(), 1);
        due("tear again", x.tear(), 0);
        due("undo torn", x.undo(), NONE);
        due("minute stays", x.now(0), 3);
    }

    private static void count() {
        part = "47 count";
        DownhillWhispers x = fresh();
        put(x, 0, 15, 20);
        put(x, 0, 14, 3);
        put(x, 0, 0, 4);
        due("at the harbour", x.count(2), 1);
        x.go(1);
        due("minute", x.count(0), 1);
        due("whispers", x.count(1), 3);
        due("at the harbour", x.count(2), 2);
        due("weight", x.count(3), 29);
        x.build(3, 2, 9);
        x.build(15, 2, 4);
        x.build(0, 2, 2);
        due("sand", x.count(4), 15);
        x.feed(1, 3);
        due("tape", x.count(5), 3);
        x.seed(-1000003);
        due("z", x.count(6), -1000003);
        x.hold(9, 2);
        x.hold(0, 2);
        due("spots", x.count(7), 2);
        due("count(-1)", x.count(-1), BEYOND);
        due("count(8)", x.count(8), BEYOND);
        due("status(2)", x.status(2), 0);
        due("status(-1)", x.status(-1), 2);
    }

    private static void status() {
        part = "48 status";
        DownhillWhispers x = fresh();
        for (int which = -1; which < 7; which++) {
            due("at first " + which, x.status(which), 0);
        }
        due("status(7)", x.status(7), BEYOND);
        due("status(-2)", x.status(-2), BEYOND);
        due("both counted", x.status(0), 2);
        for (int w = 0; w < 9; w++) {
            x.says(0, 0);
        }
        x.hold(0, 0);
        for (int i = 0; i < 3; i++) {
            x.as(0, 1);
        }
        for (int i = 0; i < 4; i++) {
            x.undo();
        }
        x.sheet(0, 8, 1);
        for (int i = 0; i < 5; i++) {
            x.fits(0, 1);
        }
        for (int i = 0; i < 6; i++) {
            x.load(1);
        }
        for (int i = 0; i < 7; i++) {
            x.sheet(0, 8, -1);
        }
        int[] want = {2, 1, 3, 4, 5, 6, 7};
        for (int which = 0; which < 7; which++) {
            due("status(" + which + ")", x.status(which), want[which]);
        }
        due("all", x.status(-1), 28);
        x.image();
        x.says(0, 0);
        x.undo();
        due("undo takes none back", x.status(1), 2);
    }
}
