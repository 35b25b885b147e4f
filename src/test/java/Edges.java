import java.nio.charset.StandardCharsets;
import java.util.ArrayList;
import java.util.HashSet;
import java.util.List;
import java.util.Set;

/** What the tests of the edges share: a test for each sentence, each on objects of its own. */
abstract class Edges {
    static final long BEYOND = -1000001;
    static final long FULL = -1000002;
    static final long KIND = -1000003;
    static final long NONE = -1000004;
    static final long STATE = -1000005;
    static final long MISSING = -1000006;
    static final long SIZE = -1000007;

    static final int HEIGHT = 0;
    static final int GUTTER = 1;
    static final int SAND = 2;
    static final int COST = 3;
    static final int EARS = 4;
    static final int STEEP = 5;
    static final int LOUD = 6;
    static final int HEARD = 7;
    static final int RENT = 8;

    static final int WHISPER = 0;
    static final int LIE = 1;
    static final int RUMOUR = 2;
    static final int SLANDER = 3;
    static final int SCANDAL = 4;
    static final int SECRET = 5;
    static final int FIB = 6;

    static final int AT = 1;
    static final int WEIGHT = 2;
    static final int SPEED = 3;
    static final int GATHERS = 4;

    static final Step NOTHING = x -> { };
    static final Step EIGHT_WHISPERS = x -> {
        while (x.count(1) < 8) {
            x.says(0, 0);
        }
    };

    interface Step {
        void on(DownhillWhispers x);
    }

    interface Call {
        long on(DownhillWhispers x);
    }

    interface CallWith {
        long on(DownhillWhispers x, int v);
    }

    private static final Set<String> TOLD = new HashSet<>();
    private static String sentence = "";
    private static int wrong = 0;

    Edges() {
    }

    // ---- the tests

    /** A test of its own for a sentence of the document, on a new object. */
    static void test(String told, Step step) {
        sentence = told;
        if (!TOLD.add(told)) {
            fail("there are two tests of this name");
        }
        step.on(new DownhillWhispers());
    }

    static void due(String what, long got, long want) {
        if (got != want) {
            fail(what + " answered " + got + ", due is " + want);
        }
    }

    private static void fail(String what) {
        wrong++;
        System.out.println(sentence + ": " + what);
    }

    static void end() {
        System.out.println(TOLD.size() + " sentences, " + wrong + " answers are not as due");
        if (wrong != 0) {
            System.exit(1);
        }
    }

    // ---- calls that are refused, and calls that change nothing

    /** In a busy town: the call answers a finding, status() counts it, and nothing else has changed. */
    static void refused(long finding, Call call) {
        refused(finding, NOTHING, call);
    }

    static void refused(long finding, Step before, Call call) {
        DownhillWhispers x = busyTown();
        before.on(x);
        long[] counted = statusOf(x);
        due("the refused call", call.on(x), finding);
        long[] then = statusOf(x);
        for (int which = -1; which < 7; which++) {
            boolean counts = which == -1 || which == BEYOND - finding;
            due("status(" + which + ") of the refused call", then[which + 1], counted[which + 1] + (counts ? 1 : 0));
        }
        sameTown(x, before, NOTHING);
    }

    /** In a busy town: the call answers this, it is no finding, and nothing at all has changed. */
    static void changesNothing(long answer, Call call) {
        changesNothing(answer, NOTHING, call);
    }

    static void changesNothing(long answer, Step before, Call call) {
        DownhillWhispers x = busyTown();
        before.on(x);
        long counted = x.status(-1);
        due("the call that changes nothing", call.on(x), answer);
        due("status(-1) behind the call", x.status(-1), counted);
        sameTown(x, before, NOTHING);
    }

    /** The least and the most are allowed; one less, one more and what is far beyond are BEYOND. */
    static void bounds(int least, int most, CallWith call) {
        bounds(least, most, NOTHING, call);
    }

    static void bounds(int least, int most, Step before, CallWith call) {
        for (int v : new int[] {least, most}) {
            DownhillWhispers x = busyTown();
            before.on(x);
            long counted = x.status(0);
            call.on(x, v);
            due("status(0) behind the call with " + v, x.status(0), counted);
        }
        for (int v : new int[] {least - 1, most + 1, Integer.MIN_VALUE, Integer.MAX_VALUE}) {
            refused(BEYOND, before, x -> call.on(x, v));
        }
    }

    /** A busy town in which steps were made is the same one as x, call by call. */
    static void sameTown(DownhillWhispers x, Step before, Step instead) {
        DownhillWhispers y = busyTown();
        before.on(y);
        instead.on(y);
        List<String> names = new ArrayList<>();
        List<Long> of = all(x, names);
        List<Long> due = all(y, new ArrayList<>());
        for (int i = 0; i < of.size(); i++) {
            due("has changed, or not: " + names.get(i), of.get(i), due.get(i));
        }
    }

    private static long[] statusOf(DownhillWhispers x) {
        long[] all = new long[8];
        for (int which = -1; which < 7; which++) {
            all[which + 1] = x.status(which);
        }
        return all;
    }

    // ---- towns

    static int put(DownhillWhispers x, int kind, int corner, int weight) {
        int whisper = x.says(kind, corner);
        x.change(whisper, WEIGHT, weight);
        return whisper;
    }

    static void feed(DownhillWhispers x, String text) {
        byte[] bytes = text.getBytes(StandardCharsets.ISO_8859_1);
        for (int i = 0; i < bytes.length; i += 4) {
            int n = Math.min(4, bytes.length - i);
            int number = 0;
            for (int j = 0; j < n; j++) {
                number = number << 8 | bytes[i + j] & 255;
            }
            x.feed(number, n);
        }
    }

    static int text(DownhillWhispers x, String text) {
        feed(x, text);
        return x.text();
    }

    static void sheet(DownhillWhispers x, int s, int bits, int... numbers) {
        x.sheet(s, bits, numbers.length);
        for (int i = 0; i < numbers.length; i++) {
            x.write(s, i, numbers[i]);
        }
    }

    /** Three WHISPERS, two SPOTS in use, three SHEETS, a TAPE, an image, and nothing as at first. */
    static DownhillWhispers busyTown() {
        DownhillWhispers x = new DownhillWhispers();
        put(x, RUMOUR, 4, 120);
        x.build(3, SAND, 2);
        x.hold(1, 0);
        x.seed(99);
        x.image();
        put(x, LIE, 9, 30);
        put(x, SCANDAL, 9, 250);
        x.build(5, HEIGHT, 88);
        x.build(2, GUTTER, 7);
        x.build(3, COST, 7);
        x.build(9, EARS, 20);
        x.aunts(1 << 10);
        x.go(1);
        x.frost(1);
        x.seed(77);
        x.hold(0, 1);
        x.hold(9, 2);
        sheet(x, 0, 8, 5, 6, 7);
        sheet(x, 1, 16, 8, 9);
        sheet(x, 2, 32, 10);
        feed(x, "lie at 3");
        return x;
    }

    /** All that can be seen from outside but status(): what stands, then SHEETS, image and TAPE. */
    private static List<Long> all(DownhillWhispers x, List<String> names) {
        List<Long> all = new ArrayList<>();
        look(x, "", all, names);
        for (int s = 0; s < 4; s++) {
            for (int t = 0; t < 4; t++) {
                add(all, names, "copy(" + s + ", 0, " + t + ", 0, 0)", x.copy(s, 0, t, 0, 0));
            }
        }
        for (int s = 0; s < 4; s++) {
            add(all, names, "load(" + s + ")", x.load(s));
            for (int c = 0; c < 4; c++) {
                add(all, names, "height of " + c + " by sheet " + s, x.corner(c, HEIGHT));
            }
        }
        add(all, names, "undo()", x.undo());
        look(x, "behind undo(): ", all, names);
        add(all, names, "text()", x.text());
        for (int w = 0; w < 8; w++) {
            for (int what = 0; what < 3; what++) {
                add(all, names, "behind text(): of(" + w + ", " + what + ")", x.of(w, what));
            }
        }
        return all;
    }

    private static void look(DownhillWhispers x, String when, List<Long> all, List<String> names) {
        for (int c = 0; c < 16; c++) {
            for (int what = 0; what < 5; what++) {
                add(all, names, when + "corner(" + c + ", " + what + ")", x.corner(c, what));
            }
        }
        for (int w = 0; w < 8; w++) {
            for (int what = 0; what < 3; what++) {
                add(all, names, when + "of(" + w + ", " + what + ")", x.of(w, what));
            }
        }
        for (int i = 0; i < 10; i++) {
            add(all, names, when + "as(" + i + ", 0)", x.as(i, 0));
        }
        add(all, names, when + "MINUTE", x.now(0));
        add(all, names, when + "FROST", x.now(3));
        add(all, names, when + "AUNTS", x.now(4));
        add(all, names, when + "WHISPERS", x.count(1));
        add(all, names, when + "bytes of THE TAPE", x.count(5));
        add(all, names, when + "z", x.count(6));
    }

    private static void add(List<Long> all, List<String> names, String name, long value) {
        all.add(value);
        names.add(name);
    }
}
