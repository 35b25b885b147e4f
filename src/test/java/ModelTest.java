import java.lang.reflect.Method;
import java.math.BigInteger;
import java.util.ArrayList;
import java.util.HashMap;
import java.util.List;
import java.util.Map;
import java.util.Random;
import java.util.regex.Matcher;
import java.util.regex.Pattern;

/**
 * Runs of calls, the same for each run of the test, on the class and on a second telling of the
 * document, made another way (a class for each kind, everything tried on whole towns, nothing cut
 * short); every answer must be the same, and no call may throw.
 */
public final class ModelTest {
    private static final int BEYOND = -1000001;
    private static final int FULL = -1000002;
    private static final int KIND = -1000003;
    private static final int NONE = -1000004;
    private static final int STATE = -1000005;
    private static final int MISSING = -1000006;
    private static final int SIZE = -1000007;

    // ---- the second telling

    static class Whisper {
        int at;
        int weight = 1;

        int speed(Model m) {
            return Math.min(3, m.steep(at) / 10) + 1;
        }

        int gathers(Model m) {
            return 1;
        }
    }

    static class Lie extends Whisper {
        @Override
        int speed(Model m) {
            return super.speed(m) + 1;
        }

        @Override
        int gathers(Model m) {
            return 0;
        }
    }

    static class Rumour extends Whisper {
        @Override
        int speed(Model m) {
            int speed = super.speed(m) - m.sand[at];
            return speed < 0 ? 0 : speed;
        }

        @Override
        int gathers(Model m) {
            return 2;
        }
    }

    static class Slander extends Rumour {
        @Override
        int speed(Model m) {
            return super.speed(m) + weight / 100;
        }

        @Override
        int gathers(Model m) {
            return 2 * super.gathers(m);
        }
    }

    static class Scandal extends Slander {
        @Override
        int speed(Model m) {
            return super.speed(m) + 2;
        }

        @Override
        int gathers(Model m) {
            return super.gathers(m) + m.steep(at) / 5;
        }
    }

    static class Secret extends Whisper {
        @Override
        int speed(Model m) {
            return m.sand[at] != 0 ? 0 : super.speed(m);
        }

        @Override
        int gathers(Model m) {
            return 0;
        }
    }

    static class Fib extends Lie {
        @Override
        int speed(Model m) {
            return 2 * super.speed(m);
        }
    }

    private static final List<Class<? extends Whisper>> KINDS = List.of(Whisper.class, Lie.class,
            Rumour.class, Slander.class, Scandal.class, Secret.class, Fib.class);

    static Whisper whisper(int kind, int at, int weight) {
        Whisper w = switch (kind) {
            case 0 -> new Whisper();
            case 1 -> new Lie();
            case 2 -> new Rumour();
            case 3 -> new Slander();
            case 4 -> new Scandal();
            case 5 -> new Secret();
            default -> new Fib();
        };
        w.at = at;
        w.weight = weight;
        return w;
    }

    /** What the document says, with the names of its calls. */
    public static class Model {
        int[] height = new int[16];
        int[] gutter = new int[16];
        int[] sand = new int[16];
        int[] cost = new int[16];
        int[] ears = new int[16];
        List<Whisper> whispers = new ArrayList<>();
        int frost;
        int aunts;
        int minute;
        int z = 1;
        int[] spots = {-1, -1, -1, -1, -1, -1, -1, -1, -1, -1};
        List<Integer> tape = new ArrayList<>();
        long[][] sheets = new long[4][];
        int[] bits = new int[4];
        Model kept;
        Map<Integer, Integer> told = new HashMap<>();

        public Model() {
            for (int c = 0; c < 16; c++) {
                height[c] = 90 - c * 6;
                gutter[c] = c == 15 ? 15 : c + 1;
                cost[c] = 1;
                ears[c] = 50;
            }
        }

        Model twin() {
            Model m = new Model();
            m.take(this);
            return m;
        }

        void take(Model o) {
            height = o.height.clone();
            gutter = o.gutter.clone();
            sand = o.sand.clone();
            cost = o.cost.clone();
            ears = o.ears.clone();
            whispers = new ArrayList<>();
            for (Whisper w : o.whispers) {
                whispers.add(whisper(KINDS.indexOf(w.getClass()), w.at, w.weight));
            }
            frost = o.frost;
            aunts = o.aunts;
            minute = o.minute;
            z = o.z;
            spots = o.spots.clone();
        }

        int finding(int f) {
            told.merge(f, 1, Integer::sum);
            return f;
        }

        boolean in(int v, int least, int most) {
            return least <= v && v <= most;
        }

        boolean no(int whisper) {
            return whisper < 0 || whisper >= whispers.size();
        }

        int steep(int c) {
            return runs(c) ? height[c] - height[gutter[c]] : 0;
        }

        boolean runs(int c) {
            return height[gutter[c]] < height[c];
        }

        int loudness(int c) {
            return whispers.stream().filter(w -> w.at == c).mapToInt(w -> w.weight).sum();
        }

        boolean hears(int c) {
            return loudness(c) >= ears[c];
        }

        int rent(int c) {
            int l = loudness(c);
            return l < 50 ? height[c] + 50 - l : height[c];
        }

        int speed(Whisper w) {
            return w.speed(this) * (frost == 0 ? 1 : 2);
        }

        /** The corners come to, one by one. */
        List<Integer> minuteOf(Whisper w) {
            List<Integer> way = new ArrayList<>();
            int left = speed(w);
            boolean held = false;
            while (left > 0 && runs(w.at) && !held) {
                w.weight = Math.min(999, w.weight + w.gathers(this));
                w.at = gutter[w.at];
                way.add(w.at);
                held = (aunts & 1 << w.at) != 0;
                left--;
            }
            return way;
        }

        Model minutes(int n) {
            for (int i = 0; i < n; i++) {
                for (Whisper w : whispers) {
                    minuteOf(w);
                }
                minute++;
            }
            return this;
        }

        public int corner(int c, int what) {
            if (!in(c, 0, 15) || !in(what, 0, 8)) {
                return finding(BEYOND);
            }
            int[] all = {height[c], gutter[c], sand[c], cost[c], ears[c], steep(c), loudness(c),
                hears(c) ? 1 : 0, rent(c)};
            return all[what];
        }

        public int build(int c, int what, int v) {
            int[][] rows = {height, gutter, sand, cost, ears};
            int[] most = {99, 15, 9, 99, 99};
            if (!in(c, 0, 15) || !in(what, 0, 4) || !in(v, 0, most[what])) {
                return finding(BEYOND);
            }
            int was = rows[what][c];
            rows[what][c] = v;
            return was;
        }

        public int says(int kind, int c) {
            if (!in(kind, 0, 6) || !in(c, 0, 15)) {
                return finding(BEYOND);
            }
            if (whispers.size() == 8) {
                return finding(FULL);
            }
            whispers.add(whisper(kind, c, 1));
            return whispers.size() - 1;
        }

        public int of(int w, int what) {
            if (no(w) || !in(what, 0, 4)) {
                return finding(BEYOND);
            }
            Whisper x = whispers.get(w);
            int[] all = {KINDS.indexOf(x.getClass()), x.at, x.weight, speed(x), x.gathers(this)};
            return all[what];
        }

        public int change(int w, int what, int v) {
            int[] least = {0, 0, 1};
            int[] most = {6, 15, 999};
            if (no(w) || !in(what, 0, 2) || !in(v, least[what], most[what])) {
                return finding(BEYOND);
            }
            int was = of(w, what);
            Whisper x = whispers.get(w);
            if (what == 0) {
                whispers.set(w, whisper(v, x.at, x.weight));
            } else if (what == 1) {
                x.at = v;
            } else {
                x.weight = v;
            }
            return was;
        }

        public int aunts(int set) {
            if (!in(set, 0, 65535)) {
                return finding(BEYOND);
            }
            int were = aunts;
            aunts = set;
            return were;
        }

        public int frost(int v) {
            if (!in(v, 0, 1)) {
                return finding(BEYOND);
            }
            int was = frost;
            frost = v;
            return was;
        }

        public int go(int n) {
            if (!in(n, 1, 60)) {
                return finding(BEYOND);
            }
            if (minute + n > 99999) {
                return finding(STATE);
            }
            minutes(n);
            return loudness(15);
        }

        public int now(int what) {
            int hearing = 0;
            int running = 0;
            for (int c = 0; c < 16; c++) {
                hearing += hears(c) ? 1 << c : 0;
                running += runs(c) ? 1 << c : 0;
            }
            int[] all = {minute, hearing, weightOfAll(), frost, aunts, running};
            return in(what, 0, 5) ? all[what] : finding(BEYOND);
        }

        int weightOfAll() {
            return whispers.stream().mapToInt(w -> w.weight).sum();
        }

        public int merge(int c) {
            if (!in(c, 0, 15)) {
                return finding(BEYOND);
            }
            List<Whisper> there = new ArrayList<>(whispers);
            there.removeIf(w -> w.at != c);
            if (there.isEmpty()) {
                return finding(NONE);
            }
            there.get(0).weight = Math.min(999, there.stream().mapToInt(w -> w.weight).sum());
            for (Whisper w : there.subList(1, there.size())) {
                w.at = 15;
                w.weight = 1;
            }
            return there.size();
        }

        public int ahead(int w, int n) {
            return no(w) || !in(n, 0, 100) ? finding(BEYOND) : twin().minutes(n).whispers.get(w).at;
        }

        public int loud(int c, int n) {
            return !in(c, 0, 15) || !in(n, 0, 100) ? finding(BEYOND) : twin().minutes(n).loudness(c);
        }

        public int heard(int c) {
            if (!in(c, 0, 15)) {
                return finding(BEYOND);
            }
            Model m = twin();
            for (int n = 0; n <= 100; n++, m.minutes(1)) {
                if (m.hears(c)) {
                    return n;
                }
            }
            return finding(NONE);
        }

        public int still() {
            Model m = twin();
            for (int n = 0; n <= 100; n++) {
                boolean moved = false;
                for (Whisper w : m.whispers) {
                    moved |= !m.minuteOf(w).isEmpty();
                }
                if (!moved) {
                    return n;
                }
            }
            return finding(NONE);
        }

        int toHarbour(int w) {
            Model m = twin();
            for (int n = 0; n <= 100; n++, m.minutes(1)) {
                if (m.whispers.get(w).at == 15) {
                    return n;
                }
            }
            return -1;
        }

        public int harbour(int w) {
            if (no(w)) {
                return finding(BEYOND);
            }
            int n = toHarbour(w);
            return n < 0 ? finding(NONE) : n;
        }

        public int loudest(int c, int n) {
            if (!in(c, 0, 15) || !in(n, 0, 100)) {
                return finding(BEYOND);
            }
            int most = 0;
            Model m = twin();
            for (int i = 0; i <= n; i++, m.minutes(1)) {
                most = Math.max(most, m.loudness(c));
            }
            return most;
        }

        public int overtakes(int a, int b) {
            if (no(a) || no(b) || a == b) {
                return finding(BEYOND);
            }
            Model m = twin();
            for (int n = 0; n <= 100; n++, m.minutes(1)) {
                if (height[m.whispers.get(a).at] < height[m.whispers.get(b).at]) {
                    return n;
                }
            }
            return finding(NONE);
        }

        public int kindFor(int w) {
            if (no(w)) {
                return finding(BEYOND);
            }
            for (int n = 0; n <= 100; n++) {
                for (int kind = 0; kind < 7; kind++) {
                    Model m = twin();
                    m.change(w, 0, kind);
                    if (m.toHarbour(w) == n) {
                        return kind;
                    }
                }
                if (n == 20) {
                    n = 99;
                }
            }
            return finding(NONE);
        }

        int way(int w) {
            int set = 1 << whispers.get(w).at;
            Model m = twin();
            for (int n = 0; n < 100; n++) {
                for (int c : m.minuteOf(m.whispers.get(w))) {
                    set |= 1 << c;
                }
            }
            return set;
        }

        public int goesBy(int w) {
            return no(w) ? finding(BEYOND) : way(w);
        }

        List<Integer> good(int w, int by, int not) {
            List<Integer> all = new ArrayList<>();
            for (int c = 0; c < 16; c++) {
                Model m = twin();
                m.whispers.get(w).at = c;
                int way = m.way(w);
                if ((by & ~way) == 0 && (not & way) == 0) {
                    all.add(c);
                }
            }
            return all;
        }

        public int where(int w, int by, int not) {
            if (no(w) || !in(by, 0, 65535) || !in(not, 0, 65535)) {
                return finding(BEYOND);
            }
            List<Integer> all = good(w, by, not);
            all.sort((a, b) -> height[a] != height[b] ? height[b] - height[a] : a - b);
            return all.isEmpty() ? finding(NONE) : all.get(0);
        }

        public int places(int w, int by, int not) {
            if (no(w) || !in(by, 0, 65535) || !in(not, 0, 65535)) {
                return finding(BEYOND);
            }
            return good(w, by, not).size();
        }

        public int weightFor(int w, int c, int n) {
            if (no(w) || !in(c, 0, 15) || !in(n, 0, 40)) {
                return finding(BEYOND);
            }
            for (int weight = 1; weight <= 999; weight++) {
                Model m = twin();
                m.whispers.get(w).weight = weight;
                if (m.minutes(n).hears(c)) {
                    return weight;
                }
            }
            return finding(NONE);
        }

        int[] cheapest(int c, int v, int n) {
            int[] best = null;
            for (int set = 255; set >= 0; set--) {
                Model m = twin();
                int sum = 0;
                for (int i = 0; i < 8; i++) {
                    if ((set >> i & 1) == 1) {
                        m.sand[i] = 9;
                        sum += cost[i];
                    }
                }
                if (m.minutes(n).loudness(c) <= v && (best == null || sum <= best[1])) {
                    best = new int[] {set, sum};
                }
            }
            return best;
        }

        public int sand(int c, int v, int n) {
            if (!in(c, 0, 15) || !in(v, 0, 9999) || !in(n, 0, 40)) {
                return finding(BEYOND);
            }
            int[] best = cheapest(c, v, n);
            return best == null ? finding(NONE) : best[0];
        }

        public int costs(int c, int v, int n) {
            if (!in(c, 0, 15) || !in(v, 0, 9999) || !in(n, 0, 40)) {
                return finding(BEYOND);
            }
            int[] best = cheapest(c, v, n);
            return best == null ? finding(NONE) : best[1];
        }

        public int aunt(int n) {
            if (!in(n, 0, 40)) {
                return finding(BEYOND);
            }
            int best = -1;
            int least = 0;
            for (int c = 15; c >= 0; c--) {
                Model m = twin();
                m.aunts |= 1 << c;
                int l = m.minutes(n).loudness(15);
                if (best < 0 || l <= least) {
                    best = c;
                    least = l;
                }
            }
            return best;
        }

        List<Integer> fitting(int s, int v) {
            List<Integer> all = new ArrayList<>();
            for (int kind = 0; kind < 7; kind++) {
                for (int c = 0; c < 16; c++) {
                    Model m = twin();
                    m.whispers.add(whisper(kind, c, v));
                    boolean fits = true;
                    for (long number : sheets[s]) {
                        m.minutes(1);
                        fits &= number == -1 || number == m.loudness(15);
                    }
                    if (fits) {
                        all.add(16 * kind + c);
                    }
                }
            }
            return all;
        }

        int unheard(int s, int v) {
            return !in(s, 0, 3) ? BEYOND : sheets[s] == null ? MISSING : !in(v, 1, 999) ? BEYOND
                    : whispers.size() == 8 ? STATE : 0;
        }

        public int fits(int s, int v) {
            return unheard(s, v) != 0 ? finding(unheard(s, v)) : fitting(s, v).size();
        }

        public int said(int s, int v) {
            if (unheard(s, v) != 0) {
                return finding(unheard(s, v));
            }
            List<Integer> all = fitting(s, v);
            return all.isEmpty() ? finding(NONE) : all.get(0);
        }

        public int dearest() {
            int best = 15;
            for (int c = 15; c >= 0; c--) {
                best = rent(c) >= rent(best) ? c : best;
            }
            return best;
        }

        public int rents() {
            int sum = 0;
            for (int c = 0; c < 16; c++) {
                sum += rent(c);
            }
            return sum;
        }

        public int frosts(int n) {
            if (!in(n, 1, 20)) {
                return finding(BEYOND);
            }
            if (minute + n > 99999) {
                return finding(STATE);
            }
            int shouts = 0;
            for (int i = 0; i < n; i++) {
                z = (int) (z * 1103515245L + 12345L);
                frost = z >> 8 & 1;
                shouts += minutes(1).hears(15) ? 1 : 0;
            }
            return shouts;
        }

        public long odds(int n, int m, int what) {
            if (!in(n, 0, 18) || !in(m, 0, 10) || !in(what, 0, 1)) {
                return finding(BEYOND);
            }
            BigInteger above = BigInteger.valueOf(10 - m).pow(n);
            BigInteger below = BigInteger.TEN.pow(n);
            BigInteger common = above.gcd(below);
            return (what == 0 ? above : below).divide(common).longValueExact();
        }

        public int seed(int v) {
            int was = z;
            z = v;
            return was;
        }

        public int feed(int bytes, int n) {
            if (!in(n, 1, 4)) {
                return finding(BEYOND);
            }
            if (tape.size() + n > 120) {
                return finding(FULL);
            }
            int[] all = {bytes >>> 24, bytes >> 16 & 255, bytes >> 8 & 255, bytes & 255};
            for (int i = 4 - n; i < 4; i++) {
                tape.add(all[i]);
            }
            return tape.size();
        }

        public int wipe() {
            int had = tape.size();
            tape.clear();
            return had;
        }

        static final String NUMBER = " *([0-9]+)";
        static final Pattern TOKEN = Pattern.compile(" *([a-z]+|[0-9]+|.|$)", Pattern.DOTALL);

        /** Tokens as texts, the last one empty, and where each begins. */
        private List<String> tokens;
        private List<Integer> begins;
        private int looked;

        public int text() {
            StringBuilder text = new StringBuilder();
            for (int b : tape) {
                text.append((char) b);
            }
            tape.clear();
            tokens = new ArrayList<>();
            begins = new ArrayList<>();
            Matcher m = TOKEN.matcher(text);
            boolean ended = false;
            while (!ended && m.find()) {
                tokens.add(m.group(1));
                begins.add(m.start(1));
                ended = m.group(1).isEmpty();
            }
            looked = 0;
            Model all = twin();
            int items = 0;
            do {
                if (!item(all)) {
                    return -1 - begins.get(looked);
                }
                items++;
            } while (eat(";"));
            if (!tokens.get(looked).isEmpty()) {
                return -1 - begins.get(looked);
            }
            take(all);
            return items;
        }

        private boolean eat(String token) {
            boolean same = tokens.get(looked).equals(token);
            looked += same ? 1 : 0;
            return same;
        }

        /** The number, or -1. */
        private int number(int least, int most) {
            String token = tokens.get(looked);
            if (!token.matches("[0-9]+") || new BigInteger(token).bitLength() > 30) {
                return -1;
            }
            int v = Integer.parseInt(token);
            looked += in(v, least, most) ? 1 : 0;
            return in(v, least, most) ? v : -1;
        }

        private boolean item(Model all) {
            List<String> kinds = List.of("whisper", "lie", "rumour", "slander", "scandal", "secret", "fib");
            int kind = kinds.indexOf(tokens.get(looked));
            if (kind >= 0) {
                if (all.whispers.size() == 8) {
                    return false;
                }
                looked++;
                int at = eat("at") ? number(0, 15) : 0;
                int weight = at < 0 ? -1 : eat("weight") ? number(1, 999) : 1;
                if (weight > 0) {
                    all.whispers.add(whisper(kind, at, weight));
                }
                return weight > 0;
            }
            if (eat("frost")) {
                all.frost = 1;
                return true;
            }
            if (eat("thaw")) {
                all.frost = 0;
                return true;
            }
            if (eat("aunts")) {
                int set = number(0, 65535);
                all.aunts = set;
                return set >= 0;
            }
            if (!eat("corner")) {
                return false;
            }
            int c = number(0, 15);
            if (c < 0) {
                return false;
            }
            String[] words = {"height", "gutter", "sand", "ears"};
            int[] most = {99, 15, 9, 99};
            int[][] rows = {all.height, all.gutter, all.sand, all.ears};
            for (int i = 0; i < 4; i++) {
                if (eat(words[i])) {
                    int v = number(0, most[i]);
                    if (v < 0) {
                        return false;
                    }
                    rows[i][c] = v;
                }
            }
            return true;
        }

        public int hold(int spot, int w) {
            if (!in(spot, 0, 9) || w != -1 && no(w)) {
                return finding(BEYOND);
            }
            spots[spot] = w;
            return 1;
        }

        public int as(int spot, int kind) {
            if (!in(spot, 0, 9) || !in(kind, 0, 6)) {
                return finding(BEYOND);
            }
            if (spots[spot] == -1) {
                return finding(MISSING);
            }
            return KINDS.get(kind).isInstance(whispers.get(spots[spot])) ? spots[spot] : finding(KIND);
        }

        public int sheet(int s, int b, int n) {
            if (!in(s, 0, 3) || !List.of(0, 8, 16, 32).contains(b)) {
                return finding(BEYOND);
            }
            if (n < 0) {
                return finding(SIZE);
            }
            if (n > 40) {
                return finding(BEYOND);
            }
            bits[s] = b;
            sheets[s] = b == 0 ? null : new long[n];
            return b == 0 ? 0 : n;
        }

        public int write(int s, int i, int v) {
            if (!in(s, 0, 3)) {
                return finding(BEYOND);
            }
            if (sheets[s] == null) {
                return finding(MISSING);
            }
            if (!in(i, 0, sheets[s].length - 1)) {
                return finding(BEYOND);
            }
            long number = Math.floorMod((long) v, 1L << bits[s]);
            sheets[s][i] = number >= 1L << bits[s] - 1 ? number - (1L << bits[s]) : number;
            return 1;
        }

        public int copy(int s, int from, int t, int to, int n) {
            if (!in(s, 0, 3) || !in(t, 0, 3)) {
                return finding(BEYOND);
            }
            if (sheets[s] == null || sheets[t] == null) {
                return finding(MISSING);
            }
            if (bits[s] != bits[t]) {
                return finding(KIND);
            }
            if (from < 0 || to < 0 || n < 0 || (long) from + n > sheets[s].length
                    || (long) to + n > sheets[t].length) {
                return finding(BEYOND);
            }
            long[] were = sheets[s].clone();
            for (int i = 0; i < n; i++) {
                sheets[t][to + i] = were[from + i];
            }
            return n;
        }

        public int load(int s) {
            if (!in(s, 0, 3)) {
                return finding(BEYOND);
            }
            if (sheets[s] == null) {
                return finding(MISSING);
            }
            int came = 0;
            for (long number : sheets[s]) {
                if (came == 16 || number < 0 || number > 99) {
                    return came;
                }
                height[came++] = (int) number;
            }
            return came;
        }

        public int judge(int s) {
            if (!in(s, 0, 3)) {
                return finding(BEYOND);
            }
            if (sheets[s] == null) {
                return finding(MISSING);
            }
            int place = 0;
            for (long number : sheets[s]) {
                if (place == 16 || number != loudness(place)) {
                    return place + 1;
                }
                place++;
            }
            return 0;
        }

        public int image() {
            kept = twin();
            return 1;
        }

        public int undo() {
            if (kept == null) {
                return finding(NONE);
            }
            take(kept);
            return minute;
        }

        public int tear() {
            int was = kept == null ? 0 : 1;
            kept = null;
            return was;
        }

        public int count(int what) {
            int here = 0;
            for (Whisper w : whispers) {
                here += w.at == 15 ? 1 : 0;
            }
            int sands = 0;
            for (int v : sand) {
                sands += v;
            }
            int held = 0;
            for (int v : spots) {
                held += v == -1 ? 0 : 1;
            }
            int[] all = {minute, whispers.size(), here, weightOfAll(), sands, tape.size(), z, held};
            return in(what, 0, 7) ? all[what] : finding(BEYOND);
        }

        public int status(int which) {
            if (!in(which, -1, 6)) {
                return finding(BEYOND);
            }
            int sum = 0;
            for (int f = 0; f < 7; f++) {
                sum += which == -1 || which == f ? told.getOrDefault(BEYOND - f, 0) : 0;
            }
            return sum;
        }
    }

    // ---- the runs

    /** A call, how often it is made, and the least and the most of each of its numbers. */
    private static final String[] CALLS = {
        "corner 8 0 15 0 8", "build 20 0 15 0 4 0 99", "says 9 0 6 0 15", "of 12 0 7 0 4",
        "change 16 0 7 0 2 0 999", "aunts 3 0 65535", "frost 3 0 1", "go 5 1 4", "go 1 1 60", "now 6 0 5",
        "merge 3 0 15", "ahead 5 0 7 0 20", "loud 5 0 15 0 20", "heard 5 0 15", "still 3", "harbour 4 0 7",
        "loudest 4 0 15 0 100", "overtakes 5 0 7 0 7", "kindFor 2 0 7", "goesBy 3 0 7",
        "where 2 0 7 0 65535 0 65535", "places 2 0 7 0 65535 0 65535", "weightFor 2 0 7 0 15 0 40",
        "sand 1 0 15 0 9999 0 40", "costs 1 0 15 0 9999 0 40", "aunt 2 0 40", "fits 2 0 3 1 999",
        "said 2 0 3 1 999", "dearest 2", "rents 2", "frosts 3 1 20", "odds 3 0 18 0 10 0 1",
        "seed 2 -2147483648 2147483647", "feed 3 -2147483648 2147483647 1 4", "wipe 1", "text 1",
        "hold 5 0 9 -1 7", "as 5 0 9 0 6", "sheet 4 0 3 0 32 0 40", "write 8 0 3 0 39 -1 300",
        "copy 5 0 3 0 10 0 3 0 10 0 10", "load 1 0 3", "judge 3 0 3", "image 2", "undo 1", "tear 1",
        "count 5 0 7", "status 5 -1 6"};

    private static final String[] PIECES = {"whisper", "lie", "rumour", "slander", "scandal", "secret", "fib",
        "corner", "aunts", "frost", "thaw", "at", "weight", "height", "gutter", "sand", "ears", ";", ";", ";",
        "0", "7", "15", "16", "9", "99", "100", "999", "1000", "65535", "65536", "99999", "100000", "x", "\n",
        "A", "at3", "-", "\u00ff", "00000000001"};

    private static final Random RANDOM = new Random(20261118);

    private static int any(int least, int most) {
        return (int) (least + (long) (RANDOM.nextDouble() * ((long) most - least + 1)));
    }

    private static int number(int least, int most) {
        int r = RANDOM.nextInt(100);
        if (r < 2) {
            int[] far = {Integer.MIN_VALUE, Integer.MAX_VALUE, -1, 1 << 16, -1000001, 1 << 30};
            return far[RANDOM.nextInt(far.length)];
        }
        if (r < 5) {
            return RANDOM.nextBoolean() ? least - 1 : most + 1;
        }
        if (r < 15) {
            return RANDOM.nextBoolean() ? least : most;
        }
        if (r < 40) {
            return any(least, Math.min(most, least < 0 ? 20 : least + 20));
        }
        return any(least, most);
    }

    private static int[] numbersFor(String name, String[] call) {
        int[] numbers = new int[(call.length - 2) / 2];
        for (int i = 0; i < numbers.length; i++) {
            numbers[i] = number(Integer.parseInt(call[2 + 2 * i]), Integer.parseInt(call[3 + 2 * i]));
        }
        int[] most = {99, 15, 9, 99, 99, 99};
        if (name.equals("build") && numbers[1] >= 0 && numbers[1] < 6) {
            numbers[2] = number(0, most[numbers[1]]);
        }
        if (name.equals("change") && numbers[1] >= 0 && numbers[1] < 2) {
            numbers[2] = number(0, numbers[1] == 0 ? 6 : 15);
        }
        if (name.equals("sheet")) {
            numbers[1] = numbers[1] % 8 == 0 || RANDOM.nextInt(8) == 0 ? numbers[1] : 8 << RANDOM.nextInt(3);
        }
        if ((name.equals("where") || name.equals("places")) && RANDOM.nextInt(3) > 0) {
            numbers[1] = 1 << any(0, 15);
            numbers[2] = RANDOM.nextBoolean() ? 0 : 1 << any(0, 15);
        }
        if ((name.equals("sand") || name.equals("costs")) && RANDOM.nextInt(3) > 0) {
            numbers[1] = any(0, 400);
        }
        return numbers;
    }

    private static String phrase() {
        StringBuilder text = new StringBuilder();
        int items = any(1, 5);
        for (int i = 0; i < items; i++) {
            text.append(i == 0 ? "" : RANDOM.nextInt(3) == 0 ? " ; " : ";");
            int sort = RANDOM.nextInt(12);
            if (sort < 5) {
                text.append(PIECES[any(0, 6)]);
                text.append(RANDOM.nextBoolean() ? " at " + number(0, 15) : "");
                text.append(RANDOM.nextBoolean() ? " weight " + number(1, 999) : "");
            } else if (sort < 9) {
                text.append("corner ").append(number(0, 15));
                text.append(RANDOM.nextBoolean() ? " height " + number(0, 99) : "");
                text.append(RANDOM.nextBoolean() ? " gutter " + number(0, 15) : "");
                text.append(RANDOM.nextBoolean() ? " sand " + number(0, 9) : "");
                text.append(RANDOM.nextBoolean() ? " ears " + number(0, 99) : "");
            } else {
                text.append(sort == 9 ? "aunts " + number(0, 65535) : sort == 10 ? "frost" : "thaw");
            }
        }
        for (int i = RANDOM.nextInt(8); i > 5; i--) {
            text.insert(any(0, text.length()), PIECES[any(0, PIECES.length - 1)]);
        }
        return text.substring(0, Math.min(120, text.length()));
    }

    private static int wrong = 0;
    private static int calls = 0;
    private static final Map<String, Method[]> METHODS = new HashMap<>();
    private static final Map<String, Integer> ANSWERED = new HashMap<>();

    private static void both(Object x, Model model, String name, int... numbers) throws Exception {
        Object[] values = new Object[numbers.length];
        Class<?>[] types = new Class<?>[numbers.length];
        for (int i = 0; i < numbers.length; i++) {
            values[i] = numbers[i];
            types[i] = int.class;
        }
        Method[] methods = METHODS.get(name);
        if (methods == null) {
            methods = new Method[] {x.getClass().getMethod(name, types), Model.class.getMethod(name, types)};
            METHODS.put(name, methods);
        }
        long want = ((Number) methods[1].invoke(model, values)).longValue();
        long got = ((Number) methods[0].invoke(x, values)).longValue();
        calls++;
        ANSWERED.merge(want < -1000000 && want > -1000008 ? name + " " + want : name, 1, Integer::sum);
        if (got != want && wrong++ < 20) {
            System.out.println(name + java.util.Arrays.toString(numbers) + " answered " + got + ", due is " + want);
        }
    }

    private static void run() throws Exception {
        DownhillWhispers x = new DownhillWhispers();
        Model model = new Model();
        List<String[]> often = new ArrayList<>();
        for (String call : CALLS) {
            String[] parts = call.split(" ");
            for (int i = Integer.parseInt(parts[1]); i > 0; i--) {
                often.add(parts);
            }
        }
        // With what tell, prepare and everything call, no object is called more than 512 times.
        int made = 0;
        while (made < 330 && wrong == 0) {
            String[] call = often.get(RANDOM.nextInt(often.size()));
            int[] numbers = numbersFor(call[0], call);
            if (RANDOM.nextInt(30) == 0) {
                made += tell(x, model);
            }
            if (call[0].equals("fits") || call[0].equals("said")) {
                made += prepare(x, model, numbers);
            }
            both(x, model, call[0], numbers);
            made++;
        }
        everything(x, model);
    }

    private static int tell(DownhillWhispers x, Model model) throws Exception {
        String text = phrase();
        both(x, model, "wipe");
        for (int i = 0; i < text.length(); i += 4) {
            int n = Math.min(4, text.length() - i);
            int bytes = 0;
            for (int j = 0; j < n; j++) {
                bytes = bytes << 8 | text.charAt(i + j);
            }
            both(x, model, "feed", bytes, n);
        }
        both(x, model, "text");
        return text.length() / 4 + 3;
    }

    /** Often a sheet with what will be heard, so that something fits. */
    private static int prepare(DownhillWhispers x, Model model, int[] numbers) throws Exception {
        if (model.whispers.size() == 8 || RANDOM.nextInt(4) == 0 || numbers[0] < 0 || numbers[0] > 3) {
            return 0;
        }
        int n = any(0, 8);
        both(x, model, "sheet", numbers[0], 16, n);
        Model m = model.twin();
        m.whispers.add(whisper(any(0, 6), any(0, 15), Math.min(Math.max(numbers[1], 1), 999)));
        for (int i = 0; i < n; i++) {
            m.minutes(1);
            both(x, model, "write", numbers[0], i, RANDOM.nextInt(3) == 0 ? -1 : m.loudness(15));
        }
        return n + 1;
    }

    private static void everything(DownhillWhispers x, Model model) throws Exception {
        for (int c = 0; c < 16; c++) {
            for (int what = 0; what < 5; what++) {
                both(x, model, "corner", c, what);
            }
        }
        for (int w = 0; w < 8; w++) {
            for (int what = 0; what < 5; what++) {
                both(x, model, "of", w, what);
            }
        }
        for (int what = -1; what < 7; what++) {
            both(x, model, "count", what);
            both(x, model, "status", what);
        }
    }

    public static void main(String[] args) throws Exception {
        int runs = args.length > 0 ? Integer.parseInt(args[0]) : 600;
        for (int i = 0; i < runs && wrong == 0; i++) {
            run();
        }
        if (args.length > 1) {
            new java.util.TreeMap<>(ANSWERED).forEach((call, n) -> System.out.println(call + ": " + n));
        }
        System.out.println(calls + " calls, " + wrong + " answers are not the same");
        if (wrong != 0) {
            System.exit(1);
        }
    }
}
