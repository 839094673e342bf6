/** What to write: the terms, and promises 27 to 36. */
final class WritingSentences extends Bench {
    private static final String ONE = "guesser 100 1;";
    private static final String TEN = "grid 1 10;" + ONE;

    static void all() {
        terms();
        chance();
        best();
        bestTwo();
        behind();
        waits();
        waysOf();
        shutIn();
        gain();
        buys();
        game();
    }

    private interface Asks {
        long on(JarGuess x, int m, int what);
    }

    /** All that the whats of a call answer, none of which changes anything. */
    private static void tells(String call, State state, Asks made, int m, long... due) {
        for (int what = 0; what < due.length; what++) {
            int asks = what;
            asked(call + ": what " + what, state, x -> made.on(x, m, asks), due[what]);
        }
    }

    private static State list(String text, int... numbers) {
        return () -> written(text, numbers);
    }

    private static void terms() {
        section("Terms");
        says("A number v (0 to 2000) written now WINS in WAYS of all t (of the grid) that are nearer to v than to each GUESS"
                + " of THE LIST.", () -> {
            State two = list(TEN, 4, 8);
            for (int v = 0; v < 15; v++) {
                long due = 0;
                for (int t = 1; t <= 10; t++) {
                    due += Math.abs(t - v) < Math.abs(t - 4) && Math.abs(t - v) < Math.abs(t - 8) ? 1 : 0;
                }
                int at = v;
                asked("v " + v, two, x -> x.chance(at, 0), due);
            }
            asked("below the grid", two, x -> x.chance(0, 0), 1);
            asked("far above", two, x -> x.chance(2000, 0), 0);
            asked("a written one", two, x -> x.chance(4, 0), 0);
            asked("between", two, x -> x.chance(6, 0), 1);
            asked("alone, far above", () -> told(TEN), x -> x.chance(2000, 0), 10);
            asked("alone, 0", () -> told(TEN), x -> x.chance(0, 0), 10);
        });
        says("BEST: the v from LOW to HIGH with the most, the least.", () -> {
            tells("above 5", list(TEN, 5), (x, m, what) -> x.best(m, what), 0, 6, 5);
            tells("below 6", list(TEN, 6), (x, m, what) -> x.best(m, what), 0, 5, 5);
            tells("the least", list("grid 1 9;" + ONE, 5), (x, m, what) -> x.best(m, what), 0, 4, 4);
            tells("LOW", list("grid 1 9;prior 1 8;" + ONE, 2), (x, m, what) -> x.best(m, what), 0, 1, 9);
            tells("HIGH", list("grid 1 9;prior 9 8;" + ONE, 8), (x, m, what) -> x.best(m, what), 0, 9, 9);
            tells("LOW of a high grid", list("grid 999 1198;" + ONE, 1197, 998), (x, m, what) -> x.best(m, what), 0, 999, 99);
            tells("HIGH above 999", list("grid 999 1000;" + ONE, 999), (x, m, what) -> x.best(m, what), 0, 1000, 1);
            tells("none wins", list("grid 1 3;" + ONE, 1, 2, 3), (x, m, what) -> x.best(m, what), 0, 1, 0);
            tells("one number", list("grid 7 7;" + ONE, 6), (x, m, what) -> x.best(m, what), 0, 7, 1);
            tells("not below LOW", list("grid 5 9;" + ONE, 9), (x, m, what) -> x.best(m, what), 0, 8, 4);
            tells("not above HIGH", list("grid 5 9;" + ONE, 4), (x, m, what) -> x.best(m, what), 0, 5, 5);
        });
        says("BEST TWO: v and w above v, both written now (each t that is nearer to one of both): the most, the least v,"
                + " then w.", () -> {
            tells("on both sides", list(TEN, 5), (x, m, what) -> x.bestTwo(m, what), 0, 4, 6, 9);
            tells("all, once", list(TEN), (x, m, what) -> x.bestTwo(m, what), 0, 1, 2, 10);
            tells("one is enough", list(TEN, 1), (x, m, what) -> x.bestTwo(m, what), 0, 1, 2, 9);
            tells("the highest two", list("grid 1 3;" + ONE, 4, 1), (x, m, what) -> x.bestTwo(m, what), 0, 2, 3, 2);
            tells("two numbers", list("grid 7 8;" + ONE), (x, m, what) -> x.bestTwo(m, what), 0, 7, 8, 2);
            tells("none wins", list("grid 1 3;" + ONE, 1, 2, 3), (x, m, what) -> x.bestTwo(m, what), 0, 1, 2, 0);
            tells("the least v", list("grid 1 9;" + ONE, 3, 7), (x, m, what) -> x.bestTwo(m, what), 0, 2, 4, 4);
            tells("the least w", list("grid 1 6;" + ONE, 2, 6), (x, m, what) -> x.bestTwo(m, what), 0, 1, 3, 3);
        });
        says("BEHIND ME: of all v from LOW to HIGH that which WINS in the most WAYS, if one more writes BEST behind it"
                + " (for herself, by THE LIST with v; she WINS where she is nearer than all, v too); the least.", () -> {
            tells("three numbers", list("grid 1 3;" + ONE), (x, m, what) -> x.behind(m, what), 0, 2, 2, 1, 1);
            tells("four numbers", list("grid 1 4;" + ONE), (x, m, what) -> x.behind(m, what), 0, 2, 2, 3, 2);
            tells("one number", list("grid 7 7;" + ONE), (x, m, what) -> x.behind(m, what), 0, 7, 1, 7, 0);
            tells("none is left", list("grid 7 7;" + ONE, 7), (x, m, what) -> x.behind(m, what), 0, 7, 0, 7, 0);
            tells("LOW", list("grid 1 3;prior 1 8;" + ONE, 2), (x, m, what) -> x.behind(m, what), 0, 1, 9, 3, 1);
            tells("HIGH", list("grid 1 3;prior 3 8;" + ONE, 2), (x, m, what) -> x.behind(m, what), 0, 3, 9, 1, 1);
            tells("by THE LIST", list("grid 1 9;" + ONE, 5), (x, m, what) -> x.behind(m, what), 0, 4, 4, 6, 4);
            tells("the weights", () -> told(HALL), (x, m, what) -> x.behind(m, what), 0, 5, 25, 4, 16);
            tells("200 numbers", () -> told("grid 999 1198;"), (x, m, what) -> x.behind(m, what), 0, 1098, 100, 1099, 100);
        });
        says("SHUT IN is a GUESS by two numbers, one below and one above its own: its WAYS are those of its own number alone,"
                + " if that is of the grid and it WINS for that.", () -> {
            JarGuess x = written("grid 3 7;prior 5 2;" + ONE, 2, 3, 5, 5, 7, 8);
            long[] of = {0, 5, 9, 0, 5, 0};
            for (int k = 0; k < 6; k++) {
                due("guess " + k, x.shutIn(k, 0), of[k]);
            }
            due("alone", written("grid 3 7;" + ONE, 5).shutIn(0, 0), 1);
            due("0", written("grid 1 7;" + ONE, 0).shutIn(0, 0), 0);
            due("2000", written("grid 1 7;" + ONE, 2000).shutIn(0, 0), 0);
        });
        says("GAIN of k GUESSES (0, 1: BEST, 2: BEST TWO): prize times their WAYS, less price times k times OUT.", () -> {
            State ten = list(TEN + "price 7;prize 30;", 5);
            asked("none", ten, x -> x.gain(0, 0), 0);
            asked("one", ten, x -> x.gain(1, 0), 30 * 5 - 7 * 10);
            asked("two", ten, x -> x.gain(2, 0), 30 * 9 - 2 * 7 * 10);
            asked("one, by one", ten, x -> x.gain(1, 1), 30 * 10 - 7 * 30);
            asked("two, by one", ten, x -> x.gain(2, 1), 30 * 20 - 2 * 7 * 30);
        });
        says("A GAME of n (1 to 3), on a grid of at most 24: they write one behind the other a number of the grid"
                + " (no other GUESSES), each knowing all ahead and that those behind do the best for themselves;"
                + " each wants the most WEIGHT of t for which he WINS; of like ones the least number.", () -> {
            plays("one of 24", "grid 1 24;", 1, 1, 24);
            plays("two of 24", "grid 1 24;", 2, 12, 13, 12, 12);
            plays("two of five", "grid 1 5;", 2, 3, 2, 3, 2);
            plays("two of one", "grid 9 9;", 2, 9, 9, 1, 0);
            plays("three of two", "grid 8 9;", 3, 8, 9, 8, 1, 1, 0);
            plays("three of three", "grid 1 3;", 3, 1, 2, 3, 1, 1, 1);
            plays("by weight", "grid 1 3;prior 3 8;", 2, 3, 2, 9, 2);
            plays("24 high ones", "grid 999 1022;", 2, 1010, 1011, 12, 12);
        });
    }

    private static void plays(String call, String text, int n, long... due) {
        for (int i = 0; i < n; i++) {
            int at = i;
            asked(call + ": number " + i, list(text + ONE, 1, 9), x -> x.game(n, at), due[i]);
            asked(call + ": weight " + i, list(text + ONE, 1, 9), x -> x.game(n, 10 + at), due[n + i]);
        }
    }

    private static void chance() {
        promise(27);
        says("WAYS in which v, written now, WINS.", () -> {
            int[][] of = {{0, 4}, {3, 9}, {4, 16}, {5, 0}, {6, 0}, {7, 9}, {8, 4}, {2000, 0}};
            for (int[] one : of) {
                asked("chance(" + one[0] + ", 0)", Bench::hall, x -> x.chance(one[0], 0), one[1]);
            }
            asked("by three", Bench::hall, x -> x.chance(4, 3), 12600);
            asked("where nothing fits", Bench::unfit, x -> x.chance(4, 4), 0);
        });
        says("-3: v, m.", () -> {
            bounds("chance by 0", Bench::busy, (x, v) -> x.chance(v, 0), 0, 2000, -3);
            countedBy("chance of 4", (x, m) -> x.chance(4, m));
            refused("neither", Bench::busy, x -> x.chance(2001, 4), -3);
        });
    }

    private static void best() {
        promise(28);
        says("BEST, what 0: v, 1: its WAYS.", () -> {
            tells("by 0", Bench::hall, (x, m, what) -> x.best(m, what), 0, 4, 16);
            tells("by 3", Bench::hall, (x, m, what) -> x.best(m, what), 3, 4, 12600);
            tells("where nothing fits", Bench::unfit, (x, m, what) -> x.best(m, what), 4, 1, 0);
            tells("200 numbers", () -> told("grid 999 1198;prior 999 0;"), (x, m, what) -> x.best(m, what), 0, 999, 1800);
        });
        says("-2", () -> bounds("best by 3", Bench::busy, (x, what) -> x.best(3, what), 0, 1, -2));
        says("-3: m.", () -> {
            countedBy("best of what 0", (x, m) -> x.best(m, 0));
            countedBy("best of what 1", (x, m) -> x.best(m, 1));
        });
    }

    private static void bestTwo() {
        promise(29);
        says("BEST TWO, what 0: v, 1: w, 2: WAYS of both.", () -> {
            tells("by 0", Bench::hall, (x, m, what) -> x.bestTwo(m, what), 0, 4, 7, 25);
            tells("by 3", Bench::hall, (x, m, what) -> x.bestTwo(m, what), 3, 1, 4, 12600);
            tells("where nothing fits", Bench::unfit, (x, m, what) -> x.bestTwo(m, what), 4, 1, 2, 0);
            tells("200 numbers", () -> told("grid 999 1198;"), (x, m, what) -> x.bestTwo(m, what), 0, 999, 1000, 200);
        });
        says("-2", () -> bounds("bestTwo by 3", Bench::busy, (x, what) -> x.bestTwo(3, what), 0, 2, -2));
        says("-3: m", () -> {
            for (int what = 0; what <= 2; what++) {
                int asks = what;
                countedBy("bestTwo of what " + what, (x, m) -> x.bestTwo(m, asks));
            }
        });
        says("-5: the grid has one number.", () -> {
            for (int what = 0; what <= 2; what++) {
                int asks = what;
                refused("one number, what " + what, () -> told("grid 7 7;"), x -> x.bestTwo(0, asks), -5);
                due("two numbers, what " + what, told("grid 7 8;").bestTwo(0, asks), new long[] {7, 8, 2}[what]);
            }
            refused("one number at 999", () -> told("grid 999 999;" + ONE), x -> x.bestTwo(0, 0), -5);
        });
    }

    private static void behind() {
        promise(30);
        says("BEHIND ME, what 0: v, 1: my WAYS then, 2: what she writes, 3: hers.", () -> {
            tells("empty", () -> told(HALL), (x, m, what) -> x.behind(m, what), 0, 5, 25, 4, 16);
            tells("by 0", Bench::hall, (x, m, what) -> x.behind(m, what), 0, 2, 9, 7, 9);
            tells("where nothing fits", Bench::unfit, (x, m, what) -> x.behind(m, what), 4, 1, 0, 1, 0);
        });
        says("-2", () -> bounds("behind by 3", Bench::busy, (x, what) -> x.behind(3, what), 0, 3, -2));
        says("-3: m.", () -> {
            for (int what = 0; what <= 3; what++) {
                int asks = what;
                countedBy("behind of what " + what, (x, m) -> x.behind(m, asks));
            }
        });
    }

    private static void waits() {
        promise(31);
        says("Whether to wait, what 0: 1, if my WAYS are more when she writes BEST first and I write BEST then,"
                + " than by BEHIND ME, else 0; 1: my WAYS by waiting.", () -> {
            tells("more", () -> told("grid 1 4;"), (x, m, what) -> x.waits(m, what), 0, 1, 3);
            tells("alike", () -> told("grid 1 2;"), (x, m, what) -> x.waits(m, what), 0, 0, 1);
            tells("alike, by THE LIST", list("grid 1 9;" + ONE, 5), (x, m, what) -> x.waits(m, what), 0, 0, 4);
            tells("less", list("grid 1 3;prior 2 8;" + ONE, 1, 3), (x, m, what) -> x.waits(m, what), 0, 0, 0);
            tells("one number", () -> told("grid 7 7;"), (x, m, what) -> x.waits(m, what), 0, 0, 0);
            tells("none is left", list("grid 7 7;" + ONE, 7), (x, m, what) -> x.waits(m, what), 0, 0, 0);
            tells("the hall, empty", () -> told(HALL), (x, m, what) -> x.waits(m, what), 0, 1, 40);
            tells("the hall", Bench::hall, (x, m, what) -> x.waits(m, what), 0, 0, 9);
            tells("more than hers alone isn't enough", list("grid 1 3;prior 1 3;" + ONE, 3), (x, m, what) -> x.waits(m, what), 0,
                    0, 9);
        });
        says("-2", () -> bounds("waits by 3", Bench::busy, (x, what) -> x.waits(3, what), 0, 1, -2));
        says("-3: m.", () -> {
            countedBy("waits of what 0", (x, m) -> x.waits(m, 0));
            countedBy("waits of what 1", (x, m) -> x.waits(m, 1));
        });
    }

    private static void waysOf() {
        promise(32);
        says("WAYS of a GUESS that WINS.", () -> {
            long[][] of = {{25, 28800}, {16, 12600}, {0, 0}};
            for (int k = 0; k < 3; k++) {
                int at = k;
                asked("guess " + k + " by 0", Bench::hall, x -> x.waysOf(at, 0), of[k][0]);
                asked("guess " + k + " by 3", Bench::hall, x -> x.waysOf(at, 3), of[k][1]);
            }
            asked("the whole grid", list("grid 999 1198;prior 999 0;" + ONE, 0), x -> x.waysOf(0, 0), 1800);
            asked("the earlier of two alike", list(TEN, 5, 5), x -> x.waysOf(0, 0), 10);
            asked("the later of two alike", list(TEN, 5, 5), x -> x.waysOf(1, 0), 0);
            asked("the last of 40", Bench::full, x -> x.waysOf(39, 0), 0);
        });
        says("-2: the GUESS", () -> {
            bounds("waysOf by 0", Bench::busy, (x, k) -> x.waysOf(k, 0), 0, 2, -2);
            bounds("waysOf by 4 of 40", Bench::full, (x, k) -> x.waysOf(k, 4), 0, 39, -2);
            refused("of nobody", () -> told(HALL), x -> x.waysOf(0, 0), -2);
        });
        says("-3: m.", () -> ofFirst("waysOf", (x, m) -> x.waysOf(0, m)));
    }

    /** As countedBy(), for calls that want a guess: an empty list has none. */
    private static void ofFirst(String call, CallOf made) {
        bounds(call + " of one guess", list(TEN, 5), made, 0, 1, -3);
        bounds(call + " of three guesses", Bench::hall, made, 0, 3, -3);
        bounds(call + " of four guesses", Bench::unfit, made, 0, 4, -3);
        bounds(call + " of five guesses", Bench::five, made, 0, 4, -3);
        refused(call + " with 4 of three, busy", Bench::busy, x -> made.on(x, 4), -3);
    }

    private static void shutIn() {
        promise(33);
        says("WAYS of a GUESS that is SHUT IN.", () -> {
            long[][] of = {{9, 16200}, {7, 12600}, {0, 0}};
            for (int k = 0; k < 3; k++) {
                int at = k;
                asked("guess " + k + " by 0", Bench::hall, x -> x.shutIn(at, 0), of[k][0]);
                asked("guess " + k + " by 3", Bench::hall, x -> x.shutIn(at, 3), of[k][1]);
            }
            asked("LOW", list("grid 3 7;" + ONE, 3), x -> x.shutIn(0, 0), 1);
            asked("below LOW", list("grid 3 7;" + ONE, 2), x -> x.shutIn(0, 0), 0);
            asked("HIGH", list("grid 3 7;" + ONE, 7), x -> x.shutIn(0, 0), 1);
            asked("above HIGH", list("grid 3 7;" + ONE, 8), x -> x.shutIn(0, 0), 0);
            asked("what it has no WAYS for", list(TEN, 5, 9), x -> x.shutIn(1, 1), 0);
        });
        says("-2", () -> {
            bounds("shutIn by 0", Bench::busy, (x, k) -> x.shutIn(k, 0), 0, 2, -2);
            bounds("shutIn by 4 of 40", Bench::full, (x, k) -> x.shutIn(k, 4), 0, 39, -2);
            refused("of nobody", () -> told(HALL), x -> x.shutIn(0, 0), -2);
        });
        says("-3.", () -> ofFirst("shutIn", (x, m) -> x.shutIn(0, m)));
    }

    private static void gain() {
        promise(34);
        says("GAIN.", () -> {
            long[][] of = {{0, 0}, {197, 127800}, {254, 3600}};
            for (int k = 0; k < 3; k++) {
                int many = k;
                asked("of " + k + " by 0", Bench::hall, x -> x.gain(many, 0), of[k][0]);
                asked("of " + k + " by 3", Bench::hall, x -> x.gain(many, 3), of[k][1]);
            }
            asked("a loss", () -> told("grid 7 7;price 99;prize 10;"), x -> x.gain(1, 0), -89);
            asked("a loss by two", () -> told("grid 7 8;price 99;prize 0;"), x -> x.gain(2, 0), -396);
            asked("where nothing fits", Bench::unfit, x -> x.gain(2, 4), 0);
            String most = "grid 1 200;prior 10 0;price 0;prize 9999;guesser 1 20 copy 10;";
            asked("the most", list(most, 0, 0, 0, 0), x -> x.gain(1, 4), 9999L * 200 * 9 * 10 * 410 * 410 * 410);
            asked("the most lost", list(most + "price 99;prize 0;", 0, 0, 0, 0), x -> x.gain(2, 4),
                    -2 * 99L * 200 * 9 * 10 * 410 * 410 * 410);
        });
        says("-3: k (0 to 2), m", () -> {
            for (int k : new int[] {LEAST, -1, 3, MOST}) {
                refused("gain(" + k + ", 0)", Bench::busy, x -> x.gain(k, 0), -3);
            }
            for (int k = 0; k <= 2; k++) {
                int many = k;
                State free = list("grid 1 9;price 0;" + ONE, 5, 6, 5);
                for (int m : new int[] {LEAST, -1, 4, 5, MOST}) {
                    refused("gain(" + k + ", " + m + ")", free, x -> x.gain(many, m), -3);
                }
                due("gain(" + k + ", 3)", free.make().gain(many, 3) >= 0 ? 1 : 0, 1);
                refused("gain(" + k + ", 5) of five", Bench::five, x -> x.gain(many, 5), -3);
                due("gain(" + k + ", 4) of five", five().gain(many, 4) != -3 ? 1 : 0, 1);
                refused("gain(" + k + ", 1) of none", JarGuess::new, x -> x.gain(many, 1), -3);
            }
        });
        says("-5: 2, and the grid has one number.", () -> {
            refused("two of one number", () -> told("grid 7 7;"), x -> x.gain(2, 0), -5);
            asked("one of one number", () -> told("grid 7 7;"), x -> x.gain(1, 0), 90);
            asked("none of one number", () -> told("grid 7 7;"), x -> x.gain(0, 0), 0);
            asked("two of two numbers", () -> told("grid 7 8;"), x -> x.gain(2, 0), 160);
        });
    }

    private static void buys() {
        promise(35);
        says("How many GUESSES (0 to 2) bring the most GAIN, the fewest.", () -> {
            asked("two", Bench::hall, x -> x.buys(0), 2);
            asked("one", Bench::hall, x -> x.buys(3), 1);
            asked("none", () -> told("price 99;prize 98;"), x -> x.buys(0), 0);
            asked("none, for nothing", () -> told("price 10;prize 10;"), x -> x.buys(0), 0);
            asked("one, for a coin", () -> told("price 10;prize 11;"), x -> x.buys(0), 1);
            asked("one, for one coin in all", () -> told("grid 7 7;price 9;prize 10;"), x -> x.buys(0), 1);
            asked("none as good as one and two", () -> told("price 0;prize 0;"), x -> x.buys(0), 0);
            asked("one as good as two", () -> told("price 0;prize 9;"), x -> x.buys(0), 1);
            asked("two as good as one", list("grid 1 3;price 1;prize 3;" + ONE, 2), x -> x.buys(0), 0);
            asked("two, for a coin each", list("grid 1 3;price 1;prize 4;" + ONE, 2), x -> x.buys(0), 2);
            asked("one number", () -> told("grid 7 7;"), x -> x.buys(0), 1);
            asked("one number, for nothing", list("grid 7 7;price 0;" + ONE, 7), x -> x.buys(0), 0);
            asked("where nothing fits", Bench::unfit, x -> x.buys(4), 0);
        });
        says("-3.", () -> countedBy("buys", (x, m) -> x.buys(m)));
    }

    private static void game() {
        promise(36);
        says("A GAME, what 0 + i: what the i-th writes, 10 + i: his WEIGHT.", () -> {
            long[][] of = {{1, 41}, {5, 4, 25, 16}, {3, 6, 5, 16, 16, 9}};
            for (int n = 1; n <= 3; n++) {
                int many = n;
                for (int i = 0; i < n; i++) {
                    int at = i;
                    asked("what " + i + " writes of " + n, Bench::hall, x -> x.game(many, at), of[n - 1][i]);
                    asked("the weight of " + i + " of " + n, Bench::hall, x -> x.game(many, 10 + at), of[n - 1][n + i]);
                }
            }
        });
        says("-3: n", () -> bounds("game", Bench::busy, (x, n) -> x.game(n, 0), 1, 3, -3));
        says("-2: what (i from 0 to n less 1)", () -> {
            for (int n = 1; n <= 3; n++) {
                int many = n;
                bounds("numbers of " + n, Bench::busy, (x, what) -> x.game(many, what), 0, n - 1, -2);
                bounds("weights of " + n, Bench::busy, (x, what) -> x.game(many, what), 10, 10 + n - 1, -2);
                refused("20 of " + n, Bench::busy, x -> x.game(many, 20), -2);
                refused("5 of " + n, Bench::busy, x -> x.game(many, 5), -2);
            }
        });
        says("-4: the grid has more than 24.", () -> {
            for (int n = 1; n <= 3; n++) {
                int many = n;
                refused("25 numbers", () -> told("grid 1 25;"), x -> x.game(many, many - 1), -4);
                refused("25 numbers, the weight", () -> told("grid 1 25;"), x -> x.game(many, 10), -4);
                refused("200 numbers", () -> told("grid 999 1198;"), x -> x.game(many, 0), -4);
                due("24 numbers", told("grid 1 24;").game(many, 0), new long[] {1, 12, 18}[n - 1]);
                due("24 high numbers", told("grid 976 999;").game(many, 0), 975 + new long[] {1, 12, 18}[n - 1]);
            }
        });
    }
}
