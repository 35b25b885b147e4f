/** The sentences of promises 29 to 36 that name a boundary case: rents, frosts, texts. */
public final class TextsEdgesTest extends Edges {
    public static void main(String[] args) {
        dearest();
        rents();
        frosts();
        odds();
        seed();
        feed();
        wipe();
        text();
        tokens();
        numbers();
        items();
        whispers();
        corners();
        auntsAndFrost();
        ninth();
        faults();
        end();
    }

    // ---- rents, frosts

    private static void dearest() {
        test("29 dearest: the first and the last CORNER", x -> {
            due("the first", x.dearest(), 0);
            x.build(15, HEIGHT, 91);
            due("the last", x.dearest(), 15);
        });
        test("29 dearest: of several the least", x -> {
            x.build(15, HEIGHT, 90);
            due("of 0 and 15", x.dearest(), 0);
            x.build(0, HEIGHT, 89);
            x.build(14, HEIGHT, 90);
            due("of 14 and 15", x.dearest(), 14);
            for (int c = 0; c < 16; c++) {
                x.build(c, HEIGHT, 0);
            }
            due("of all", x.dearest(), 0);
        });
        test("29 dearest: by RENT, not by HEIGHT alone", x -> {
            put(x, LIE, 0, 6);
            due("84 and 50 as 90 and 44", x.dearest(), 0);
            x.change(0, WEIGHT, 7);
            due("84 and 50 above 90 and 43", x.dearest(), 1);
        });
        test("29 dearest: nothing changes", x -> changesNothing(0, y -> y.dearest()));
    }

    private static void rents() {
        test("30 rents: the least and the most that there are", x -> {
            for (int c = 0; c < 16; c++) {
                x.build(c, HEIGHT, 99);
            }
            due("the most", x.rents(), 16 * 149);
            for (int c = 0; c < 16; c++) {
                x.build(c, HEIGHT, 0);
            }
            for (int w = 0; w < 8; w++) {
                put(x, LIE, 2 * w + 1, 999);
            }
            due("the least", x.rents(), 8 * 50);
        });
        test("30 rents: LOUD above 50 is no less", x -> {
            put(x, LIE, 15, 50);
            due("50", x.rents(), 720 + 750);
            x.change(0, WEIGHT, 51);
            due("51", x.rents(), 720 + 750);
            x.change(0, WEIGHT, 49);
            due("49", x.rents(), 720 + 751);
        });
        test("30 rents: nothing changes", x -> changesNothing(720 + 28 + 700, y -> y.rents()));
    }

    private static void frosts() {
        test("31 frosts: n 1 to 20", x -> bounds(1, 20, (y, v) -> y.frosts(v)));
        test("31 frosts: one draw and one MINUTE each", x -> {
            int z = 1;
            for (int i = 0; i < 20; i++) {
                z = z * 1103515245 + 12345;
            }
            due("frosts(20)", x.frosts(20), 0);
            due("minute", x.now(0), 20);
            due("z", x.count(6), z);
            due("frosts(1)", x.frosts(1), 0);
            due("minute then", x.now(0), 21);
            due("z then", x.count(6), z * 1103515245 + 12345);
        });
        test("31 frosts: FROST is the draw's rest by 2, of a z below 0 as well, ahead of the MINUTE", x -> {
            x.seed(2);
            x.says(WHISPER, 0);
            x.frosts(1);
            due("z", x.count(6), -2087924461);
            due("frost", x.now(3), 1);
            due("two gutters", x.of(0, AT), 2);
        });
        test("31 frosts: with rest 0 it thaws", x -> {
            x.frost(1);
            x.says(WHISPER, 0);
            x.frosts(1);
            due("z", x.count(6), 1103527590);
            due("thaw", x.now(3), 0);
            due("one gutter", x.of(0, AT), 1);
        });
        test("31 frosts: FROST stays as the last draw left it", x -> {
            int z = 3;
            x.seed(3);
            x.frosts(19);
            for (int i = 0; i < 19; i++) {
                z = z * 1103515245 + 12345;
            }
            due("frost", x.now(3), z >>> 8 & 1);
        });
        test("31 frosts: in how many it was HEARD behind it, none and all", x -> {
            due("ears 50", x.frosts(20), 0);
            x.build(15, EARS, 0);
            due("ears 0", x.frosts(20), 20);
            x.build(15, EARS, 1);
            due("ears 1", x.frosts(20), 0);
        });
        test("31 frosts: HEARD behind the MINUTE, EARS or more", x -> {
            put(x, WHISPER, 14, 49);
            due("49 and 1", x.frosts(1), 1);
            x.change(0, AT, 14);
            x.change(0, WEIGHT, 48);
            due("48 and 1", x.frosts(1), 0);
            x.build(15, HEIGHT, 7);
            x.build(15, GUTTER, 14);
            x.change(0, WEIGHT, 99);
            due("gone in the minute", x.frosts(1), 0);
        });
    }

    private static void odds() {
        test("32 odds: n 0 to 18", x -> bounds(0, 18, (y, v) -> (int) y.odds(v, 3, 0)));
        test("32 odds: m 0 to 10", x -> bounds(0, 10, (y, v) -> (int) y.odds(3, v, 0)));
        test("32 odds: what 0 and 1", x -> bounds(0, 1, (y, v) -> (int) y.odds(3, 3, v)));
        test("32 odds: of no words, 1 whatever m is", x -> {
            for (int m = 0; m <= 10; m++) {
                due("above, m " + m, x.odds(0, m, 0), 1);
                due("below, m " + m, x.odds(0, m, 1), 1);
            }
        });
        test("32 odds: of 0 tenths, 1", x -> {
            due("above", x.odds(18, 0, 0), 1);
            due("below", x.odds(18, 0, 1), 1);
            due("above of one", x.odds(1, 0, 0), 1);
            due("below of one", x.odds(1, 0, 1), 1);
        });
        test("32 odds: of 10 tenths, 0 below 1", x -> {
            due("above", x.odds(18, 10, 0), 0);
            due("below", x.odds(18, 10, 1), 1);
            due("above of one", x.odds(1, 10, 0), 0);
            due("below of one", x.odds(1, 10, 1), 1);
        });
        test("32 odds: in lowest terms, for each m", x -> {
            int[] above = {1, 9, 4, 7, 3, 1, 2, 3, 1, 1, 0};
            int[] below = {1, 10, 5, 10, 5, 2, 5, 10, 5, 10, 1};
            for (int m = 0; m <= 10; m++) {
                due("above, m " + m, x.odds(1, m, 0), above[m]);
                due("below, m " + m, x.odds(1, m, 1), below[m]);
                due("above of three, m " + m, x.odds(3, m, 0), above[m] * above[m] * above[m]);
                due("below of three, m " + m, x.odds(3, m, 1), below[m] * below[m] * below[m]);
            }
        });
        test("32 odds: of 18 words, longs", x -> {
            due("9 to the 18th", x.odds(18, 1, 0), 150094635296999121L);
            due("10 to the 18th", x.odds(18, 1, 1), 1000000000000000000L);
            due("4 to the 18th", x.odds(18, 2, 0), 68719476736L);
            due("5 to the 18th", x.odds(18, 2, 1), 3814697265625L);
            due("7 to the 18th", x.odds(18, 3, 0), 1628413597910449L);
            due("2 to the 18th", x.odds(18, 5, 1), 262144L);
            due("1 to the 18th", x.odds(18, 9, 0), 1);
        });
        test("32 odds: a long that is 0 or as great as can be is no finding", x -> {
            changesNothing(0, y -> y.odds(18, 10, 0));
            changesNothing(1000000000000000000L, y -> y.odds(18, 9, 1));
        });
    }

    private static void seed() {
        test("33 seed: any int", x -> {
            int was = 1;
            for (int v : new int[] {0, -1, Integer.MAX_VALUE, Integer.MIN_VALUE, 1, -1000001, 7}) {
                due("seed(" + v + ")", x.seed(v), was);
                due("count(6)", x.count(6), v);
                was = v;
            }
            due("status(-1)", x.status(-1), 0);
        });
    }

    // ---- THE TAPE

    private static void feed() {
        test("34 feed: n 1 to 4", x -> bounds(1, 4, (y, v) -> y.feed(59, v)));
        test("34 feed: the n lowest bytes, the highest of these first", x -> {
            due("four", x.feed(0x74686177, 4), 4);
            due("thaw", x.text(), 1);
            due("three of four", x.feed(0x3b6c6965, 3), 3);
            due("lie", x.text(), 1);
            due("one of four", x.feed(0x66726f3b, 1), 1);
            due("three behind it", x.feed(0x006c6965, 3), 4);
            due("; lie", x.text(), -1);
            due("two of four", x.feed(0x3b3b6669, 2), 2);
            due("one behind them", x.feed(0xffffff62, 1), 3);
            due("fib", x.text(), 1);
            due("kind of the second", x.of(1, 0), FIB);
        });
        test("34 feed: bytes of 128 to 255 stay bytes", x -> {
            due("0", x.feed(0, 4), 4);
            due("-1", x.feed(-1, 4), 8);
            due("least", x.feed(Integer.MIN_VALUE, 4), 12);
            x.wipe();
            x.feed(0x6c6965e5, 4);
            due("lie and 229, which is no e", x.text(), -1 - 3);
        });
        test("34 feed: FULL, behind 120 bytes", x -> {
            for (int i = 0; i < 29; i++) {
                due("feed " + i, x.feed(0, 4), 4 * i + 4);
            }
            due("119", x.feed(0, 3), 119);
            due("121", x.feed(0, 2), FULL);
            due("122", x.feed(0, 3), FULL);
            due("123", x.feed(0, 4), FULL);
            due("it has", x.count(5), 119);
            due("120", x.feed(0, 1), 120);
            due("121", x.feed(0, 1), FULL);
            due("it has 120", x.count(5), 120);
        });
        test("34 feed: FULL, four at once up to 120", x -> {
            for (int i = 0; i < 30; i++) {
                due("feed " + i, x.feed(0, 4), 4 * i + 4);
            }
            due("124", x.feed(0, 4), FULL);
        });
        test("34 feed: what is FULL brings not even the first of its bytes", x -> {
            Step almost = y -> feed(y, ";".repeat(110));
            refused(FULL, almost, y -> y.feed(0x20202020, 4));
            refused(FULL, almost, y -> y.feed(0x20202020, 3));
        });
        test("34 feed: behind wipe() and text() there is room", x -> {
            feed(x, ";".repeat(120));
            x.wipe();
            due("feed", x.feed(59, 4), 4);
            x.wipe();
            feed(x, ";".repeat(120));
            x.text();
            due("feed behind text()", x.feed(59, 1), 1);
        });
    }

    private static void wipe() {
        test("35 wipe: how many it had, none and all", x -> {
            due("none", x.wipe(), 0);
            feed(x, " ".repeat(120));
            due("all", x.wipe(), 120);
            due("none then", x.wipe(), 0);
            due("count(5)", x.count(5), 0);
        });
        test("35 wipe: what is fed behind it is all there is", x -> {
            feed(x, "frost;frost");
            x.wipe();
            feed(x, "lie");
            due("text()", x.text(), 1);
            due("thaw", x.now(3), 0);
        });
    }

    // ---- texts

    /** The TEXT has so many ITEMS, and the town is then as one in which steps were made. */
    private static void told(String text, int items, Step instead) {
        DownhillWhispers x = busyTown();
        x.wipe();
        due("text() of '" + text + "'", text(x, text), items);
        due("status(-1) behind '" + text + "'", x.status(-1), 0);
        sameTown(x, y -> y.wipe(), instead);
    }

    /** The TEXT has its FAULT there: THE TAPE is empty, nothing else has changed, no finding. */
    private static void fault(String text, int place) {
        fault(NOTHING, text, place);
    }

    private static void fault(Step before, String text, int place) {
        DownhillWhispers x = busyTown();
        before.on(x);
        x.wipe();
        due("text() of '" + text + "'", text(x, text), -1 - place);
        due("status(-1) behind '" + text + "'", x.status(-1), 0);
        sameTown(x, before, y -> y.wipe());
    }

    private static void text() {
        test("36 text: how many ITEMS, the most there is room for", x -> {
            StringBuilder most = new StringBuilder("thaw");
            for (int i = 0; i < 23; i++) {
                most.append(";thaw");
            }
            due("119 bytes", text(x, most.toString()), 24);
            due("120 bytes", text(x, most + " "), 24);
        });
        test("36 text: it is empty then", x -> {
            text(x, "frost");
            due("count(5)", x.count(5), 0);
            due("text() again", x.text(), -1);
            due("frost", x.now(3), 1);
        });
        test("36 text: with a FAULT -1 less the FAULT, the least and the most", x -> {
            due("place 0", text(x, ";"), -1);
            due("no bytes", x.text(), -1);
            due("place 119", text(x, " ".repeat(119) + ";"), -120);
            due("120 bytes, too early", text(x, " ".repeat(120)), -121);
            due("119 bytes, too early", text(x, " ".repeat(119)), -120);
            due("status(-1)", x.status(-1), 0);
        });
        test("36 text: with a FAULT nothing changes but that THE TAPE is empty", x -> {
            fault("lie;corner 3 height 1 gutter 1 sand 1 ears 1;aunts 3;thaw;x", 58);
            fault("corner 3 height 1 gutter 2 sand 3 ears 100", 39);
            fault("lie at 3 weight 0", 16);
            fault("thaw;aunts 3 3", 13);
        });
        test("36 text: item by item, the last counts", x -> {
            told("corner 3 height 4;corner 3 height 5;thaw;frost;thaw;aunts 4;aunts 9", 7, y -> {
                y.build(3, HEIGHT, 5);
                y.frost(0);
                y.aunts(9);
            });
        });
    }

    private static void tokens() {
        test("Terms 3: THE TAPE has at most 120 bytes", x -> {
            feed(x, "frost" + " ".repeat(115));
            due("count(5)", x.count(5), 120);
            due("one more", x.feed(';', 1), FULL);
            due("text()", x.text(), 1);
        });
        test("Terms 3: a TOKEN as long as can be, WORDS", x -> {
            fault("lielie", 0);
            fault("liea", 0);
            fault("liez", 0);
            fault("li", 0);
            fault("lieat 3", 0);
            fault("lie att 3", 4);
        });
        test("Terms 3: a TOKEN as long as can be, NUMBERS", x -> {
            fault("lie at 3 3", 9);
            fault("lie at 33", 7);
            told("lie at 15", 1, y -> y.says(LIE, 15));
        });
        test("Terms 3: WORDS are letters a to z", x -> {
            fault("`lie", 0);
            fault("{lie", 0);
            fault("lie`", 3);
            fault("lie{", 3);
            fault("Lie", 0);
            fault("liE", 0);
            fault("lieE", 3);
            fault("lieA", 3);
            fault("lieZ", 3);
            fault("lie\u00e9", 3);
            fault("lie\u00ec", 3);
            fault("lizz", 0);
            fault("aaa", 0);
        });
        test("Terms 3: NUMBERS are digits", x -> {
            fault("lie at /", 7);
            fault("lie at :", 7);
            fault("lie at 1/", 8);
            fault("lie at 1:", 8);
            fault("lie at -1", 7);
            fault("lie at +1", 7);
            fault("lie at 1.0", 8);
            told("lie at 0", 1, y -> y.says(LIE, 0));
            told("lie at 9", 1, y -> y.says(LIE, 9));
        });
        test("Terms 3: SIGN is ;", x -> {
            fault("lie:", 3);
            fault("lie<", 3);
            fault("lie,lie", 3);
            told("lie;lie", 2, y -> {
                y.says(LIE, 0);
                y.says(LIE, 0);
            });
        });
        test("Terms 3: blanks may stand between, ahead and behind", x -> {
            told("   lie    at   3   weight  9  ;  aunts   1  ", 2, y -> {
                put(y, LIE, 3, 9);
                y.aunts(1);
            });
        });
        test("Terms 3: no blanks need stand where TOKENS end without", x -> {
            told("lie at3weight9;aunts1;corner3height4gutter5sand6ears7", 3, y -> {
                put(y, LIE, 3, 9);
                y.aunts(1);
                y.build(3, HEIGHT, 4);
                y.build(3, GUTTER, 5);
                y.build(3, SAND, 6);
                y.build(3, EARS, 7);
            });
        });
        test("Terms 3: a blank in a TOKEN parts it", x -> {
            fault("fr ost", 0);
            fault("lie at 1 5", 9);
        });
        test("Terms 3: no other byte is a blank", x -> {
            fault("\tlie", 0);
            fault("lie\n", 3);
            fault("lie\r;", 3);
            fault("lie\0", 3);
            fault("lie\u00a0", 3);
            fault("lie!", 3);
            fault("lie\u001f", 3);
        });
    }

    private static void numbers() {
        test("Terms 3: NUMBERS, 99999 at most", x -> {
            fault("aunts 99999", 6);
            fault("aunts 100000", 6);
            fault("aunts 100001", 6);
            fault("aunts 165535", 6);
            fault("lie weight 100001", 11);
        });
        test("Terms 3: NUMBERS don't wrap around", x -> {
            fault("aunts 4294967296", 6);
            fault("aunts 4294967297", 6);
            fault("aunts 2147483648", 6);
            fault("aunts 18446744073709551616", 6);
            fault("lie weight 18446744073709551617", 11);
            fault("aunts " + "9".repeat(114), 6);
            fault("aunts 1" + "0".repeat(113), 6);
            fault("aunts 1" + "0".repeat(64), 6);
        });
        test("Terms 3: NUMBERS may begin with 0, as many as there is room for", x -> {
            told("aunts " + "0".repeat(109) + "65535", 1, y -> y.aunts(65535));
            told("aunts " + "0".repeat(114), 1, y -> y.aunts(0));
            told("lie at 0015 weight 000000999", 1, y -> put(y, LIE, 15, 999));
        });
    }

    private static void items() {
        test("Terms 3: a TEXT has an ITEM at least", x -> {
            fault("", 0);
            fault(" ", 1);
        });
        test("Terms 3: ITEM { ; ITEM }: none ahead of the first, behind the last, between two", x -> {
            fault(";thaw", 0);
            fault("thaw;", 5);
            fault("thaw; ", 6);
            fault("thaw;;thaw", 5);
            fault("thaw thaw", 5);
            fault("lie lie", 4);
            fault("aunts 3 lie", 8);
            fault("corner 3 lie", 9);
        });
        test("Terms 3: an ITEM begins with one of its WORDS", x -> {
            fault("at 3", 0);
            fault("weight 3", 0);
            fault("height 3", 0);
            fault("3", 0);
            fault("aunt 3", 0);
            fault("corners 3", 0);
            fault("freeze", 0);
        });
    }

    private static void whispers() {
        test("Terms 3: each of the seven KINDS by its WORD", x -> {
            String[] words = {"whisper", "lie", "rumour", "slander", "scandal", "secret", "fib"};
            for (int kind = 0; kind < 7; kind++) {
                int k = kind;
                told(words[kind], 1, y -> y.says(k, 0));
                told(words[kind] + " at 9 weight 8", 1, y -> put(y, k, 9, 8));
                fault(words[kind] + "s", 0);
            }
        });
        test("Terms 3: at and a CORNER, 0 to 15, 0 without", x -> {
            told("fib", 1, y -> y.says(FIB, 0));
            told("fib weight 2", 1, y -> put(y, FIB, 0, 2));
            told("fib at 0", 1, y -> y.says(FIB, 0));
            told("fib at 15", 1, y -> y.says(FIB, 15));
            fault("fib at 16", 7);
            fault("fib at 99999", 7);
            fault("fib at", 6);
            fault("fib at;lie", 6);
            fault("fib at weight 3", 7);
        });
        test("Terms 3: weight and a NUMBER, 1 to 999", x -> {
            told("fib weight 1", 1, y -> put(y, FIB, 0, 1));
            told("fib weight 999", 1, y -> put(y, FIB, 0, 999));
            fault("fib weight 0", 11);
            fault("fib weight 00", 11);
            fault("fib weight 1000", 11);
            fault("fib weight", 10);
            fault("fib weight ", 11);
            fault("fib weight at 3", 11);
        });
        test("Terms 3: at ahead of weight, each once", x -> {
            fault("fib weight 3 at 3", 13);
            fault("fib at 3 at 3", 9);
            fault("fib weight 3 weight 3", 13);
            fault("fib 3", 4);
        });
        test("Terms 3: a new WHISPER each, by numbers", x -> {
            told("fib at 1;lie at 2 weight 3", 2, y -> {
                y.says(FIB, 1);
                put(y, LIE, 2, 3);
            });
        });
    }

    private static void corners() {
        test("Terms 3: corner and a NUMBER, 0 to 15", x -> {
            told("corner 0 sand 9", 1, y -> y.build(0, SAND, 9));
            told("corner 15 sand 9", 1, y -> y.build(15, SAND, 9));
            fault("corner 16 sand 9", 7);
            fault("corner 16", 7);
            fault("corner", 6);
            fault("corner sand 9", 7);
            fault("corner;thaw", 6);
        });
        test("Terms 3: corner alone changes nothing and is an ITEM", x -> told("corner 3;corner 3", 2, NOTHING));
        test("Terms 3: height, 0 to 99", x -> {
            told("corner 3 height 0", 1, y -> y.build(3, HEIGHT, 0));
            told("corner 3 height 99", 1, y -> y.build(3, HEIGHT, 99));
            fault("corner 3 height 100", 16);
            fault("corner 3 height", 15);
            fault("corner 3 height gutter 1", 16);
        });
        test("Terms 3: gutter, a CORNER", x -> {
            told("corner 3 gutter 0", 1, y -> y.build(3, GUTTER, 0));
            told("corner 3 gutter 15", 1, y -> y.build(3, GUTTER, 15));
            fault("corner 3 gutter 16", 16);
            fault("corner 3 gutter", 15);
            fault("corner 3 gutter ;", 16);
        });
        test("Terms 3: sand, 0 to 9", x -> {
            told("corner 3 sand 0", 1, y -> y.build(3, SAND, 0));
            told("corner 3 sand 9", 1, y -> y.build(3, SAND, 9));
            fault("corner 3 sand 10", 14);
            fault("corner 3 sand", 13);
            fault("corner 3 sand x", 14);
        });
        test("Terms 3: ears, 0 to 99", x -> {
            told("corner 3 ears 0", 1, y -> y.build(3, EARS, 0));
            told("corner 3 ears 99", 1, y -> y.build(3, EARS, 99));
            fault("corner 3 ears 100", 14);
            fault("corner 3 ears", 13);
            fault("corner 3 ears ears", 14);
        });
        test("Terms 3: height, gutter, sand, ears in this order, each once", x -> {
            told("corner 3 height 1 sand 2", 1, y -> {
                y.build(3, HEIGHT, 1);
                y.build(3, SAND, 2);
            });
            told("corner 3 gutter 1 ears 2", 1, y -> {
                y.build(3, GUTTER, 1);
                y.build(3, EARS, 2);
            });
            fault("corner 3 gutter 1 height 1", 18);
            fault("corner 3 sand 1 gutter 1", 16);
            fault("corner 3 ears 1 sand 1", 16);
            fault("corner 3 ears 1 height 1", 16);
            fault("corner 3 height 1 height 1", 18);
            fault("corner 3 ears 1 ears 1", 16);
        });
        test("Terms 3: there is no cost, no at, no weight of a corner", x -> {
            fault("corner 3 cost 1", 9);
            fault("corner 3 at 1", 9);
            fault("corner 3 weight 1", 9);
        });
    }

    private static void auntsAndFrost() {
        test("Terms 3: aunts and a NUMBER, 0 to 65535", x -> {
            told("aunts 0", 1, y -> y.aunts(0));
            told("aunts 65535", 1, y -> y.aunts(65535));
            fault("aunts 65536", 6);
            fault("aunts", 5);
            fault("aunts;", 5);
            fault("aunts at", 6);
            fault("aunts 1 1", 8);
        });
        test("Terms 3: frost or thaw", x -> {
            told("frost", 1, NOTHING);
            told("thaw", 1, y -> y.frost(0));
            told("thaw;frost", 2, NOTHING);
            fault("frost 1", 6);
            fault("thaw frost", 5);
            fault("frostthaw", 0);
        });
    }

    private static void ninth() {
        test("Terms 3: the 8th WHISPER stands, the 9th's own WORD is the FAULT", x -> {
            due("eight", text(x, "lie;lie;lie;lie;lie;lie;lie;fib at 9"), 8);
            due("the 8th is", x.of(7, 0), FIB);
            due("a 9th", text(x, "  lie"), -3);
            due("whispers", x.count(1), 8);
        });
        test("Terms 3: the 9th in one TEXT", x -> {
            fault("lie;lie;lie;lie;lie;fib", 20);
            told("lie;lie;lie;lie;fib", 5, y -> {
                for (int i = 0; i < 4; i++) {
                    y.says(LIE, 0);
                }
                y.says(FIB, 0);
            });
        });
        test("Terms 3: the 9th's own WORD, not what is wrong behind it", x -> {
            fault(EIGHT_WHISPERS, "lie at 99", 0);
            fault(EIGHT_WHISPERS, "thaw;lie weight", 5);
            fault(EIGHT_WHISPERS, "thaw; fib;x", 6);
        });
        test("Terms 3: with 8 WHISPERS the other ITEMS stand", x -> {
            EIGHT_WHISPERS.on(x);
            due("text()", text(x, "frost;aunts 3;corner 3 sand 1"), 3);
            due("sand", x.corner(3, SAND), 1);
        });
        test("Terms 3: what is wrong ahead of the 9th is the FAULT", x -> fault(EIGHT_WHISPERS, "thaw x;lie", 5));
    }

    private static void faults() {
        test("Terms 3: FAULT, the first byte of the first TOKEN that can't stand there", x -> {
            fault("thaw;   x   ;   y", 8);
            fault("corner  3   height   100", 21);
            fault("lie at 16;x", 7);
        });
        test("Terms 3: FAULT, a byte that begins no TOKEN, where a TOKEN could stand", x -> {
            fault("?", 0);
            fault(" ?", 1);
            fault("thaw;?", 5);
            fault("corner ?", 7);
            fault("lie at ?", 7);
            fault("lie ?", 4);
            fault("lie\u00ff", 3);
            fault("\u0080lie", 0);
        });
        test("Terms 3: FAULT, how many bytes there are if it ends too early, blanks too", x -> {
            fault("lie at", 6);
            fault("lie at  ", 8);
            fault("lie;", 4);
            fault("lie;  ", 6);
            fault("corner  ", 8);
            fault("corner 3 ears ", 14);
            fault("aunts ", 6);
        });
        test("Terms 3: FAULT, what was fed ahead of the last text() isn't counted", x -> {
            text(x, "thaw;thaw");
            due("text()", text(x, "x"), -1);
            text(x, "x");
            due("text() again", text(x, "lie at 16"), -1 - 7);
        });
    }
}
