import java.util.ArrayList;
import java.util.List;

/** The list of guesses, comers, who wins and means: the terms, and promises 9 to 19. */
final class ListSentences extends Bench {
    private static final String ONE = "guesser 100 1;";
    private static final String COMERS = "guesser 100 5;guesser 50 0 copy 5;guesser 200 20 copy 10;jar 100;";

    static void all() {
        terms();
        chances();
        comers();
        toldGuesses();
        write();
        strike();
        list();
        judge();
        perform();
        come();
        leader();
        winner();
        wins();
        mean();
        nearest();
    }

    private static void terms() {
        section("Terms");
        says("THE LIST: GUESSES in order, 40 at most", () -> {
            JarGuess x = full();
            due("there are", x.count(1), 40);
            for (int k = 0; k < 40; k++) {
                due("number " + k, x.list(k, 0), k);
                due("guesser " + k, x.list(k, 1), k % 2);
            }
            refused("a 41st written", Bench::full, y -> y.write(0, 5), -4);
            refused("a 41st come", Bench::full, y -> y.come(1, 1), -4);
            refused("a 41st told", () -> row(full(), 0, 3, 5), y -> y.perform(0), 0);
        });
        says("each of a GUESSER, a number 0 to 2000.", () -> {
            JarGuess x = wrote(told(SIX), 0, 0, 5, 2000);
            due("the first guesser", x.list(0, 1), 0);
            due("the least number", x.list(0, 0), 0);
            due("the sixth guesser", x.list(1, 1), 5);
            due("the greatest number", x.list(1, 0), 2000);
            bounds("write", () -> told(SIX), (y, v) -> y.write(5, v), 0, 2000, -3);
            bounds("write", () -> told(SIX), (y, g) -> y.write(g, 2000), 0, 5, -2);
            x = row(told(SIX), 0, 3, 0, 52000, 52001);
            due("told ones", x.perform(0), 2);
            x = row(told(SIX), 0, 3, 60000);
            due("told one of nobody", x.perform(0), 0);
        });
        says("SIGHT of a GUESSER for t: t times LEAN by 100, cut.", () -> {
            JarGuess x = told("guesser 33 0;guesser 199 0;guesser 1 0;guesser 200 0;guesser 100 0;");
            due("99 of 100", x.sight(0, 3), 0);
            due("132 of 100", x.sight(0, 4), 1);
            due("199 of 100", x.sight(1, 1), 1);
            due("198801 of 100", x.sight(1, 999), 1988);
            due("99 times 1", x.sight(2, 99), 0);
            due("100 times 1", x.sight(2, 100), 1);
            due("999 times 200", x.sight(3, 999), 1998);
            due("as it is", x.sight(4, 567), 567);
            x = wrote(told("grid 999 1198;guesser 150 0;"), 0, 1797);
            due("beyond 999, in odds", x.odds(1198, 1), 10);
            due("cut there too", wrote(told("grid 999 1198;guesser 150 0;"), 0, 1795).odds(1197, 1), 10);
        });
        says("GOAL at a place of THE LIST: the mean of all GUESSES ahead of it, cut", () -> {
            JarGuess x = written(ONE, 1, 2, 2, 2000, 0, 0);
            long[] goals = {-1, 1, 1, 1, 501, 401};
            for (int k = 0; k < 6; k++) {
                due("the goal at " + k, x.list(k, 2), goals[k]);
            }
            due("at place 39", full().list(39, 2), 19);
            due("of 0", written(ONE, 0, 9).list(1, 2), 0);
            JarGuess y = told(ONE);
            for (int i = 0; i < 40; i++) {
                y.write(0, 2000);
            }
            due("of the greatest", y.list(39, 2), 2000);
            due("those behind don't count", x.list(1, 2), 1);
        });
        says("(none, if hidden, or at the first place)", () -> {
            JarGuess x = written("hidden;" + ONE, 5, 6, 7);
            for (int k = 0; k < 3; k++) {
                due("hidden, at " + k, x.list(k, 2), -1);
            }
            due("shown, at 0", written(ONE, 5).list(0, 2), -1);
            due("shown, at 1", written(ONE, 5, 6).list(1, 2), 5);
        });
    }

    /** CHANCE of a guess of the third guesser behind one that is 10 for t = 10 (and, by half, for t = 20). */
    private static long chanceBehind(String more, int first, int goal, int v, int t) {
        JarGuess x = told("guesser 100 0;guesser 50 0;guesser 100 2 copy 3;" + more);
        wrote(x, first, goal, 2, v);
        long by = x.odds(t, 1);
        if (by != 10) {
            fail("the test's own first guess has " + by);
        }
        return x.odds(t, 2) / by;
    }

    private static void chances() {
        says("with a GOAL: COPY times (2 SPREAD and 1) if v is the GOAL", () -> {
            due("the goal, far from what is seen", chanceBehind("", 1, 10, 10, 20), 15);
            due("next to it", chanceBehind("", 1, 10, 11, 20), 0);
            due("below it", chanceBehind("", 1, 10, 9, 20), 0);
            JarGuess x = wrote(told("guesser 50 0;guesser 100 20 copy 10;"), 0, 10, 1, 10);
            due("the most", x.odds(21, 2), 10 * (10 * 41 + 0));
            x = wrote(told("guesser 50 0;guesser 100 0 copy 1;"), 0, 10, 1, 10);
            due("the least", x.odds(21, 2), 10 * 1);
        });
        says("and 10 less COPY if v is no farther than SPREAD from SIGHT, both together", () -> {
            due("seen and the goal", chanceBehind("", 0, 10, 10, 10), 15 + 7);
            due("seen, below", chanceBehind("", 0, 10, 8, 10), 7);
            due("too far below", chanceBehind("", 0, 10, 7, 10), 0);
            due("seen, above", chanceBehind("", 0, 10, 12, 10), 7);
            due("too far above", chanceBehind("", 0, 10, 13, 10), 0);
            JarGuess x = wrote(told("guesser 100 0;guesser 100 20 copy 10;"), 0, 10, 1, 11);
            due("who always copies, and didn't", x.odds(10, 2), 0);
            x = wrote(told("guesser 100 0;guesser 100 20;"), 0, 10, 1, 10);
            due("who never copies", x.odds(10, 2), 100);
        });
        says("without a GOAL 10, if v is no farther than SPREAD from SIGHT; else 0", () -> {
            for (int off = -4; off <= 4; off++) {
                int due = Math.abs(off) <= 2 ? 10 : 0;
                due("the first, off by " + off, written("guesser 100 2 copy 7;", 50 + off).odds(50, 1), due);
                due("hidden, off by " + off, chanceBehind("hidden;", 0, 10, 10 + off, 10), due);
            }
            due("SPREAD 0", written("guesser 100 0 copy 10;", 50).odds(50, 1), 10);
            due("SPREAD 0, next to it", written("guesser 100 0 copy 10;", 51).odds(50, 1), 0);
            due("SPREAD 20", written("guesser 100 20 copy 10;", 70).odds(50, 1), 10);
            due("SPREAD 20, next to it", written("guesser 100 20 copy 10;", 71).odds(50, 1), 0);
        });
        says("each of 10 times (2 SPREAD and 1).", () -> {
            long sum = 0;
            long hidden = 0;
            for (int v = 0; v <= 40; v++) {
                sum += chanceBehind("", 1, 10, v, 20);
                hidden += chanceBehind("hidden;", 1, 10, v, 20);
            }
            due("all with a goal", sum, 50);
            due("all without one", hidden, 50);
        });
        says("CHANCE that a GUESS is v, if there are t:", () -> {
            due("if there are 10", chanceBehind("", 0, 10, 12, 10), 7);
            due("if there are 20", chanceBehind("", 1, 10, 12, 20), 0);
        });
        says("For t that GUESS WINS that is nearest to t; of like near ones the earlier.", () -> {
            JarGuess x = written(ONE, 8, 4, 8, 4, 12);
            int[][] of = {{1, 1}, {4, 1}, {5, 1}, {6, 0}, {7, 0}, {8, 0}, {9, 0}, {10, 0}, {11, 4}, {12, 4}, {999, 4}};
            for (int[] one : of) {
                due("for " + one[0], x.leader(one[0]), one[1]);
            }
            due("the other way", written(ONE, 4, 8).leader(6), 0);
            due("one ahead of 0", written(ONE, 0, 2).leader(1), 0);
            due("far away", written(ONE, 2000, 1999).leader(999), 1);
            due("the only one", written(ONE, 2000).leader(1), 0);
        });
    }

    // ---- comers, by a second program

    private static final class Drawn {
        private int x;
        private final int[][] guessers;
        private final int jar;

        Drawn(int seed, int jar, int[]... guessers) {
            this.x = seed;
            this.jar = jar;
            this.guessers = guessers;
        }

        int draw() {
            x = (int) (1103515245L * x + 12345L);
            return (int) ((x & 0xffffffffL) >> 16);
        }

        int[] next(List<int[]> ahead, boolean hidden) {
            int g = draw() % guessers.length;
            int[] one = guessers[g];
            boolean copies = draw() % 10 < one[2];
            if (copies && !hidden && !ahead.isEmpty()) {
                long sum = 0;
                for (int[] guess : ahead) {
                    sum += guess[1];
                }
                return new int[] {g, (int) (sum / ahead.size())};
            }
            int v = jar * one[0] / 100 - one[1] + draw() % (2 * one[1] + 1);
            return new int[] {g, v < 0 ? 0 : v > 2000 ? 2000 : v};
        }

        long[] all(int n, boolean hidden) {
            List<int[]> ahead = new ArrayList<>();
            long[] told = new long[n];
            for (int i = 0; i < n; i++) {
                int[] one = next(ahead, hidden);
                ahead.add(one);
                told[i] = 10000L * one[0] + one[1];
            }
            return told;
        }
    }

    private static long[] come(String text, int seed, int n) {
        JarGuess x = told(text);
        due("come(" + seed + ", " + n + ")", x.come(seed, n), n);
        long[] told = new long[n];
        for (int k = 0; k < n; k++) {
            told[k] = 10000L * x.list(k, 1) + x.list(k, 0);
        }
        return told;
    }

    private static void comers() {
        int[][] of = {{100, 5, 0}, {50, 0, 5}, {200, 20, 10}};
        says("A COMER by DRAWS (x, an int; a DRAW: x becomes 1103515245 x + 12345, it is x >>> 16)", () -> {
            for (int seed : new int[] {0, 1, -1, 2, 65535, 65536, -65536, 12345, MOST, LEAST, LEAST + 1, 1103515245}) {
                dueAll("seed " + seed, come(COMERS, seed, 40), new Drawn(seed, 100, of).all(40, false));
            }
            dueAll("by hand, seed 0", come("guesser 100 20;jar 500;", 0, 2), 514, 483);
        });
        says("GUESSER DRAW modulo GUESSERS", () -> {
            int[][] six = {{11, 1, 0}, {22, 2, 1}, {33, 3, 0}, {44, 4, 0}, {55, 5, 0}, {66, 6, 0}};
            dueAll("of six", come(SIX + "jar 999;", 7, 40), new Drawn(7, 999, six).all(40, false));
            for (long one : come("guesser 100 0;jar 9;", 7, 40)) {
                due("of one", one, 9);
            }
        });
        says("then DRAW modulo 10: below COPY it writes the GOAL, if there is one", () -> {
            dueAll("COPY 10", come("guesser 100 0 copy 10;guesser 200 0 copy 10;jar 50;", 3, 40),
                    new Drawn(3, 50, new int[][] {{100, 0, 10}, {200, 0, 10}}).all(40, false));
            long[] all = come("guesser 100 20 copy 10;jar 500;", 9, 40);
            for (int k = 1; k < 40; k++) {
                due("always the goal, at " + k, all[k], all[0]);
            }
            for (int copy = 0; copy <= 10; copy++) {
                String text = "guesser 100 20 copy " + copy + ";jar 500;";
                dueAll("COPY " + copy, come(text, 21, 40), new Drawn(21, 500, new int[] {100, 20, copy}).all(40, false));
                dueAll("hidden, COPY " + copy, come("hidden;" + text, 21, 40),
                        new Drawn(21, 500, new int[] {100, 20, copy}).all(40, true));
            }
        });
        says("else, by one DRAW more, SIGHT for JAR less SPREAD and DRAW modulo (2 SPREAD and 1), 0 at least, 2000 at most.",
                () -> {
            dueAll("SPREAD 20", come("guesser 100 20;jar 500;", 5, 40), new Drawn(5, 500, new int[] {100, 20, 0}).all(40, false));
            dueAll("SPREAD 0", come("guesser 70 0;jar 10;", 5, 3), 7, 7, 7);
            dueAll("0 at least", come("guesser 1 20;jar 10;", 3, 40), new Drawn(3, 10, new int[] {1, 20, 0}).all(40, false));
            dueAll("some of these", come("guesser 1 20;jar 10;", 3, 6), 13, 0, 0, 0, 0, 3);
            dueAll("2000 at most", come("guesser 200 20;jar 999;", 3, 40), new Drawn(3, 999, new int[] {200, 20, 0}).all(40, false));
            dueAll("some of those", come("guesser 200 20;jar 999;", 3, 3), 2000, 1989, 1984);
        });
    }

    private static void toldGuesses() {
        says("TOLD GUESSES in a ROW: 10000 times the GUESSER, and the number.", () -> {
            JarGuess x = row(told(SIX), 0, 3, 0, 2000, 10000, 12000, 50000, 52000);
            due("six good ones", x.perform(0), 6);
            int[][] due = {{0, 0}, {0, 2000}, {1, 0}, {1, 2000}, {5, 0}, {5, 2000}};
            for (int k = 0; k < 6; k++) {
                due("guesser " + k, x.list(k, 1), due[k][0]);
                due("number " + k, x.list(k, 0), due[k][1]);
            }
        });
        says("It can't be at the first with: 1 no such GUESSER, number; 2 there are 40.", () -> {
            long[] bad = {2001, 9999, 12001, 19999, 52001, 60000, 60001, -1, -5, -9999, -10000, -8000, Long.MAX_VALUE,
                Long.MIN_VALUE, 1L << 32, (1L << 32) * 10000, (1L << 32) * 10000 + 5, -(1L << 32) * 10000};
            for (long one : bad) {
                JarGuess x = row(told(SIX), 0, 3, 5, one, 5);
                due("the place of " + one, x.judge(0, 0), 1);
                due("why " + one, x.judge(0, 1), 1);
                due("as far as " + one, x.perform(0), 1);
            }
            JarGuess x = row(told(HALL), 0, 3, 19999);
            due("of two guessers: number", x.judge(0, 1), 1);
            x = row(told(HALL), 0, 3, 20000);
            due("of two guessers: the third", x.judge(0, 1), 1);
            x = row(full(), 0, 3, 5, 20000);
            due("there are 40: place", x.judge(0, 0), 0);
            due("there are 40", x.judge(0, 1), 2);
            x = row(full(), 0, 3, 20000, 5);
            due("there are 40, and no such guesser", x.judge(0, 1), 1);
            x = full();
            x.strike(1);
            row(x, 0, 3, 5, 6, 20000);
            due("the 40th is good", x.judge(0, 0), 1);
            due("the 41st isn't", x.judge(0, 1), 2);
        });
    }

    private static void write() {
        promise(9);
        says("A GUESS is written: how many there are.", () -> {
            JarGuess x = told(HALL);
            for (int i = 1; i <= 40; i++) {
                due("the " + i + ". one", x.write(i % 2, 50 * i), i);
                due("its number", x.list(i - 1, 0), 50 * i);
                due("its guesser", x.list(i - 1, 1), i % 2);
                due("there are", x.count(1), i);
            }
            due("the first stays", x.list(0, 0), 50);
        });
        says("-2: the GUESSER", () -> {
            bounds("write of 5", Bench::busy, (x, g) -> x.write(g, 5), 0, 1, -2);
            refused("without guessers", JarGuess::new, x -> x.write(0, 5), -2);
        });
        says("-3: the number", () -> {
            bounds("write by 1", Bench::busy, (x, v) -> x.write(1, v), 0, 2000, -3);
        });
        says("-4: there are 40.", () -> {
            refused("a 41st", Bench::full, x -> x.write(0, 5), -4);
            State nearly = () -> {
                JarGuess x = full();
                x.strike(1);
                return x;
            };
            due("the 40th", nearly.make().write(1, 2000), 40);
        });
    }

    private static void strike() {
        promise(10);
        says("The latest n GUESSES are struck: how many are left.", () -> {
            asked("none of three", Bench::hall, x -> x.strike(0), 3);
            asked("none of none", JarGuess::new, x -> x.strike(0), 0);
            JarGuess x = hall();
            due("one of three", x.strike(1), 2);
            due("the last is", x.list(1, 0), 6);
            due("behind it", x.list(2, 0), -2);
            due("two of two", x.strike(2), 0);
            x = full();
            due("39 of 40", x.strike(39), 1);
            due("the first stays", x.list(0, 0), 0);
            x = full();
            due("all 40", x.strike(40), 0);
            due("none is left", x.count(1), 0);
            due("then one comes first", x.write(1, 77), 1);
            due("it is", x.list(0, 0), 77);
        });
        says("-3: n is below 0 or above what there is.", () -> {
            bounds("strike", Bench::busy, (x, n) -> x.strike(n), 0, 3, -3);
            bounds("strike of none", JarGuess::new, (x, n) -> x.strike(n), 0, 0, -3);
            bounds("strike of 40", Bench::full, (x, n) -> x.strike(n), 0, 40, -3);
        });
    }

    private static void list() {
        promise(11);
        says("Of the k-th GUESS, what 0: its number, 1: its GUESSER", () -> {
            asked("number 0", Bench::hall, x -> x.list(0, 0), 5);
            asked("number 1", Bench::hall, x -> x.list(1, 0), 6);
            asked("guesser 0", Bench::hall, x -> x.list(0, 1), 0);
            asked("guesser 1", Bench::hall, x -> x.list(1, 1), 1);
            asked("number 39", Bench::full, x -> x.list(39, 0), 39);
            asked("guesser 39", Bench::full, x -> x.list(39, 1), 1);
        });
        says("2: its GOAL (NONE)", () -> {
            asked("of the first", Bench::hall, x -> x.list(0, 2), -1);
            asked("of the second", Bench::hall, x -> x.list(1, 2), 5);
            asked("of the third", Bench::hall, x -> x.list(2, 2), 5);
            asked("0, not none", () -> written(ONE, 0, 7), x -> x.list(1, 2), 0);
            asked("hidden", () -> written("hidden;" + ONE, 5, 7), x -> x.list(1, 2), -1);
        });
        says("3: how far it is from JAR (NONE: not told)", () -> {
            asked("below", Bench::hall, x -> x.list(0, 3), 1);
            asked("on it", Bench::hall, x -> x.list(1, 3), 0);
            asked("above", () -> written("jar 1;" + ONE, 2000), x -> x.list(0, 3), 1999);
            asked("far below", () -> written("jar 999;" + ONE, 0), x -> x.list(0, 3), 999);
            asked("not told", () -> written(ONE, 5), x -> x.list(0, 3), -1);
            JarGuess x = hall();
            x.jar(0);
            due("not told any more", x.list(1, 3), -1);
        });
        says("4: the first GUESS of the same number (its place, perhaps its own)", () -> {
            asked("its own", Bench::hall, x -> x.list(0, 4), 0);
            asked("its own, the second", Bench::hall, x -> x.list(1, 4), 1);
            asked("an earlier one", Bench::hall, x -> x.list(2, 4), 0);
            asked("the first of three", () -> written(ONE, 9, 7, 7, 7), x -> x.list(3, 4), 1);
            asked("a later one doesn't count", () -> written(ONE, 9, 7, 7, 7), x -> x.list(1, 4), 1);
            asked("its own at 39", Bench::full, x -> x.list(39, 4), 39);
        });
        says("-2.", () -> {
            bounds("list of what 0", Bench::busy, (x, k) -> x.list(k, 0), 0, 2, -2);
            bounds("list of what 4", Bench::full, (x, k) -> x.list(k, 4), 0, 39, -2);
            bounds("list of the first", Bench::busy, (x, what) -> x.list(0, what), 0, 4, -2);
            refused("an empty one", () -> told(HALL), x -> x.list(0, 0), -2);
            JarGuess x = hall();
            x.strike(1);
            due("a struck one", x.list(2, 0), -2);
        });
    }

    private static State rowed(State state, int sort, long... values) {
        return () -> row(state.make(), 1, sort, values);
    }

    private static void judge() {
        promise(12);
        says("TOLD GUESSES in a ROW, judged as if written", () -> {
            asked("two good ones", Bench::busy, x -> x.judge(0, 0), -1);
            asked("a good and a bad one", rowed(Bench::hall, 2, 5, 99999), x -> x.judge(1, 0), 1);
            asked("three", rowed(Bench::busy, 3, 12000, 5, 5), x -> x.judge(1, 2), (5 + 6 + 5 + 2000 + 5 + 5) / 6);
            due("nothing is written", busy().count(1), 3);
        });
        says("what 0: the first place that can't be (NONE)", () -> {
            asked("none", rowed(Bench::hall, 3, 5, 6), x -> x.judge(1, 0), -1);
            asked("no numbers", rowed(Bench::hall, 3), x -> x.judge(1, 0), -1);
            asked("the first", rowed(Bench::hall, 3, 2001, 5), x -> x.judge(1, 0), 0);
            asked("the first of two", rowed(Bench::hall, 3, 5, 20000, 30000), x -> x.judge(1, 0), 1);
            asked("place 37 of a list of three", () -> {
                JarGuess x = hall();
                x.numbers(1, 0, 40);
                return x;
            }, x -> x.judge(1, 0), 37);
            asked("forty good ones", () -> {
                JarGuess x = told(HALL);
                x.numbers(1, 0, 40);
                return x;
            }, x -> x.judge(1, 0), -1);
            asked("place 39", () -> {
                JarGuess x = told(HALL);
                x.numbers(1, 2, 40);
                x.put(1, 39, 20000);
                return x;
            }, x -> x.judge(1, 0), 39);
            asked("without guessers", rowed(JarGuess::new, 3, 0), x -> x.judge(1, 0), 0);
        });
        says("1: why (0)", () -> {
            asked("all good", rowed(Bench::hall, 3, 5, 6), x -> x.judge(1, 1), 0);
            asked("no numbers", rowed(Bench::full, 3), x -> x.judge(1, 1), 0);
            asked("no such guesser", rowed(Bench::hall, 3, 20000), x -> x.judge(1, 1), 1);
            asked("no such number", rowed(Bench::hall, 3, 2001), x -> x.judge(1, 1), 1);
            asked("there are 40", rowed(Bench::full, 3, 5), x -> x.judge(1, 1), 2);
            asked("the first place's", rowed(Bench::full, 3, 5, 20000), x -> x.judge(1, 1), 2);
        });
        says("2: the mean of THE LIST then (NONE: none)", () -> {
            asked("with all", rowed(Bench::hall, 3, 10008, 9), x -> x.judge(1, 2), 33 / 5);
            asked("cut", rowed(Bench::hall, 3, 3), x -> x.judge(1, 2), 19 / 4);
            asked("as far as they can be", rowed(Bench::hall, 3, 100, 2001, 2000), x -> x.judge(1, 2), 116 / 4);
            asked("none can be", rowed(Bench::hall, 3, 2001, 2000), x -> x.judge(1, 2), 5);
            asked("up to 40", rowed(Bench::full, 3, 2000), x -> x.judge(1, 2), 19);
            asked("of them alone", rowed(() -> told(HALL), 3, 7, 8), x -> x.judge(1, 2), 7);
            asked("none at all", rowed(() -> told(HALL), 3), x -> x.judge(1, 2), -1);
            asked("none that can be", rowed(() -> told(HALL), 3, 2001), x -> x.judge(1, 2), -1);
            asked("of 0", rowed(() -> told(HALL), 3, 0), x -> x.judge(1, 2), 0);
        });
        says("-2: the ROW, what", () -> {
            bounds("judge of what 0", rowed(() -> row(busy(), 3, 0, 5), 0, 7), (x, row) -> x.judge(row, 0), 0, 3, -2);
            bounds("judge of row 0", Bench::busy, (x, what) -> x.judge(0, what), 0, 2, -2);
            refused("what of a missing row", Bench::busy, x -> x.judge(1, 3), -2);
        });
        says("-6.", () -> {
            for (int what = 0; what <= 2; what++) {
                int asks = what;
                refused("judge(1, " + what + ")", Bench::busy, x -> x.judge(1, asks), -6);
                refused("judge(3, " + what + ") at first", JarGuess::new, x -> x.judge(3, asks), -6);
            }
        });
    }

    private static void perform() {
        promise(13);
        says("They are written as far as they can be: how many.", () -> {
            JarGuess x = row(hall(), 1, 3, 12000, 9, 20001, 5);
            due("two of four", x.perform(1), 2);
            due("there are", x.count(1), 5);
            due("the fourth's guesser", x.list(3, 1), 1);
            due("the fourth's number", x.list(3, 0), 2000);
            due("the fifth's guesser", x.list(4, 1), 0);
            due("the fifth's number", x.list(4, 0), 9);
            due("the row stays", x.judge(1, 0), 2);
            asked("no numbers", rowed(Bench::hall, 3), y -> y.perform(1), 0);
            asked("none can be", rowed(Bench::hall, 3, 2001, 5), y -> y.perform(1), 0);
            asked("there are 40", rowed(Bench::full, 3, 5), y -> y.perform(1), 0);
            x = told(HALL);
            x.numbers(0, 2, 40);
            x.put(0, 39, 12000);
            due("all forty", x.perform(0), 40);
            due("the last", x.list(39, 0), 2000);
            x.strike(2);
            due("two more", x.perform(0), 2);
            due("full", x.count(1), 40);
        });
        says("-2", () -> {
            bounds("perform", rowed(Bench::busy, 0, 7), (x, row) -> x.perform(row), 0, 3, -2);
        });
        says("-6.", () -> {
            refused("perform(1)", Bench::busy, x -> x.perform(1), -6);
            refused("perform(0) at first", JarGuess::new, x -> x.perform(0), -6);
        });
    }

    private static void come() {
        promise(14);
        says("COMERS: how many GUESSES there are then.", () -> {
            JarGuess x = told(COMERS);
            due("one", x.come(1, 1), 1);
            due("three more", x.come(2, 3), 4);
            due("36 more", x.come(3, 36), 40);
            x = wrote(told("guesser 100 0 copy 10;jar 9;"), 0, 5, 0, 7);
            x.come(1, 2);
            due("they copy from what stood there", x.list(2, 0), 6);
            due("and from one another", x.list(3, 0), 6);
            JarGuess y = told(COMERS);
            y.come(1, 8);
            JarGuess z = told(COMERS);
            z.come(1, 8);
            dueAll("twice by one seed", look(y), look(z));
        });
        says("-3: n (1 to 40)", () -> {
            bounds("come", () -> told(COMERS), (x, n) -> x.come(1, n), 1, 40, -3);
            refused("come(1, 0)", Bench::busy, x -> x.come(1, 0), -3);
            refused("come(1, 41)", Bench::busy, x -> x.come(1, 41), -3);
        });
        says("-5: no GUESSERS, JAR isn't told", () -> {
            refused("no guessers", () -> told("jar 5;"), x -> x.come(1, 1), -5);
            refused("no jar", () -> written(ONE, 5), x -> x.come(1, 1), -5);
            refused("neither", JarGuess::new, x -> x.come(1, 1), -5);
            JarGuess x = told(ONE);
            x.jar(1);
            due("when it is told", x.come(1, 1), 1);
            x.jar(0);
            due("when it isn't any more", x.come(1, 1), -5);
        });
        says("-4: there would be more than 40.", () -> {
            refused("38 behind three", Bench::busy, x -> x.come(1, 38), -4);
            due("37 behind three", busy().come(1, 37), 40);
            refused("one behind 40", Bench::full, x -> x.come(1, 1), -4);
            refused("40 behind one", () -> written("jar 5;" + ONE, 5), x -> x.come(1, 40), -4);
            due("39 behind one", written("jar 5;" + ONE, 5).come(1, 39), 40);
        });
    }

    private static void leader() {
        promise(15);
        says("The GUESS (its place) that WINS for t.", () -> {
            asked("5", Bench::hall, x -> x.leader(5), 0);
            asked("6", Bench::hall, x -> x.leader(6), 1);
            asked("1", Bench::hall, x -> x.leader(1), 0);
            asked("999", Bench::hall, x -> x.leader(999), 1);
            asked("the last of 40", Bench::full, x -> x.leader(39), 39);
            asked("beyond it", Bench::full, x -> x.leader(999), 39);
            asked("when there is a grid above 999", () -> written("grid 999 1198;" + ONE, 5), x -> x.leader(1), 0);
        });
        says("NONE: none", () -> {
            asked("nobody", () -> told(HALL), x -> x.leader(5), -1);
            asked("nobody, 1", JarGuess::new, x -> x.leader(1), -1);
            asked("nobody, 999", JarGuess::new, x -> x.leader(999), -1);
            JarGuess x = hall();
            x.strike(3);
            due("nobody any more", x.leader(5), -1);
        });
        says("-3: t isn't 1 to 999 (as numbers alone).", () -> {
            bounds("leader", Bench::busy, (x, t) -> x.leader(t), 1, 999, -3);
            refused("0, and nobody", JarGuess::new, x -> x.leader(0), -3);
            refused("1000, and nobody", JarGuess::new, x -> x.leader(1000), -3);
            refused("1000 of the grid", () -> written("grid 999 1198;" + ONE, 5), x -> x.leader(1000), -3);
        });
    }

    private static void winner() {
        promise(16);
        says("The GUESS that WINS for JAR.", () -> {
            asked("6", Bench::hall, x -> x.winner(), 1);
            JarGuess x = hall();
            x.jar(1);
            due("1", x.winner(), 0);
            x.jar(999);
            due("999", x.winner(), 1);
            due("of like near ones the earlier", written("jar 6;" + ONE, 8, 4).winner(), 0);
            due("off the grid", written("grid 1 3;jar 50;" + ONE, 1, 49).winner(), 1);
        });
        says("-5: JAR isn't told", () -> {
            refused("with guesses", () -> written(ONE, 5), x -> x.winner(), -5);
            refused("without", JarGuess::new, x -> x.winner(), -5);
        });
        says("NONE: THE LIST is empty.", () -> {
            asked("nobody", () -> told(HALL), x -> x.winner(), -1);
        });
    }

    private static void wins() {
        promise(17);
        State some = () -> written("grid 5 9;prior 5 2;" + ONE, 8, 4, 2000, 0, 8, 9);
        says("Of numbers t of the grid for which a GUESS WINS, what 0: how many", () -> {
            long[] many = {3, 1, 0, 0, 0, 1};
            for (int k = 0; k < 6; k++) {
                int of = k;
                asked("how many of " + k, some, x -> x.wins(of, 0), many[k]);
            }
            asked("the whole grid", () -> written("grid 999 1198;" + ONE, 0), x -> x.wins(0, 0), 200);
            asked("the only number", () -> written("grid 7 7;" + ONE, 2000), x -> x.wins(0, 0), 1);
            asked("the earlier of two alike", () -> written("grid 1 9;" + ONE, 5, 5), x -> x.wins(0, 0), 9);
            asked("the later of two alike", () -> written("grid 1 9;" + ONE, 5, 5), x -> x.wins(1, 0), 0);
            asked("where both are alike near, the earlier", () -> written("grid 1 9;" + ONE, 3, 7), x -> x.wins(0, 0), 5);
            asked("the earlier, the other way", () -> written("grid 1 9;" + ONE, 7, 3), x -> x.wins(0, 0), 5);
        });
        says("1: the least, 2: the greatest (NONE)", () -> {
            long[][] of = {{6, 8}, {5, 5}, {-1, -1}, {-1, -1}, {-1, -1}, {9, 9}};
            for (int k = 0; k < 6; k++) {
                int at = k;
                asked("the least of " + k, some, x -> x.wins(at, 1), of[k][0]);
                asked("the greatest of " + k, some, x -> x.wins(at, 2), of[k][1]);
            }
            asked("LOW", () -> written("grid 999 1198;" + ONE, 0), x -> x.wins(0, 1), 999);
            asked("HIGH", () -> written("grid 999 1198;" + ONE, 0), x -> x.wins(0, 2), 1198);
        });
        says("3: WEIGHT of all together", () -> {
            long[] together = {7 + 5 + 3, 9, 0, 0, 0, 1};
            for (int k = 0; k < 6; k++) {
                int of = k;
                asked("together of " + k, some, x -> x.wins(of, 3), together[k]);
            }
            asked("the most", () -> written("grid 1 200;prior 5 0;" + ONE, 0), x -> x.wins(0, 3), 1800);
        });
        says("-2: the GUESS, what.", () -> {
            bounds("wins of what 0", Bench::busy, (x, k) -> x.wins(k, 0), 0, 2, -2);
            bounds("wins of what 3", Bench::full, (x, k) -> x.wins(k, 3), 0, 39, -2);
            bounds("wins of the first", Bench::busy, (x, what) -> x.wins(0, what), 0, 3, -2);
            refused("of nobody", () -> told(HALL), x -> x.wins(0, 0), -2);
        });
    }

    private static void mean() {
        promise(18);
        State ten = () -> written(ONE, 9, 2, 8, 4, 5, 6, 7, 3, 1, 1000);
        says("Of THE LIST, what 0: the mean (cut)", () -> {
            asked("1045 of ten", ten, x -> x.mean(0), 104);
            asked("16 of three", Bench::hall, x -> x.mean(0), 5);
            asked("of 40", Bench::full, x -> x.mean(0), 19);
            asked("of one", () -> written(ONE, 2000), x -> x.mean(0), 2000);
            asked("of 0", () -> written(ONE, 0, 0), x -> x.mean(0), 0);
        });
        says("1: the middle (of an even many the lesser one of both)", () -> {
            asked("of ten", ten, x -> x.mean(1), 5);
            asked("of nine", () -> written(ONE, 9, 2, 8, 4, 5, 6, 7, 3, 1), x -> x.mean(1), 5);
            asked("of one", () -> written(ONE, 7), x -> x.mean(1), 7);
            asked("of two", () -> written(ONE, 9, 4), x -> x.mean(1), 4);
            asked("of two, the other way", () -> written(ONE, 4, 9), x -> x.mean(1), 4);
            asked("of three", () -> written(ONE, 5, 9, 1), x -> x.mean(1), 5);
            asked("of four alike by two", () -> written(ONE, 7, 3, 7, 3), x -> x.mean(1), 3);
            asked("of three alike", () -> written(ONE, 7, 7, 3, 7), x -> x.mean(1), 7);
            asked("of 40", Bench::full, x -> x.mean(1), 19);
            asked("0", () -> written(ONE, 0, 2000), x -> x.mean(1), 0);
        });
        says("2: the mean of the first nine (or as many as there are)", () -> {
            asked("of ten", ten, x -> x.mean(2), 5);
            asked("of nine", () -> written(ONE, 9, 2, 8, 4, 5, 6, 7, 3, 10), x -> x.mean(2), 6);
            asked("of eight", () -> written(ONE, 9, 2, 8, 4, 5, 6, 7, 3), x -> x.mean(2), 5);
            asked("of one", () -> written(ONE, 9), x -> x.mean(2), 9);
            asked("of 40", Bench::full, x -> x.mean(2), 4);
            asked("the ninth counts", () -> written(ONE, 0, 0, 0, 0, 0, 0, 0, 0, 90, 900), x -> x.mean(2), 10);
        });
        says("3: the least, 4: the greatest.", () -> {
            asked("the least of ten", ten, x -> x.mean(3), 1);
            asked("the greatest of ten", ten, x -> x.mean(4), 1000);
            asked("the least first", () -> written(ONE, 1, 2, 3), x -> x.mean(3), 1);
            asked("the greatest first", () -> written(ONE, 3, 2, 1), x -> x.mean(4), 3);
            asked("the least last", () -> written(ONE, 3, 2, 0), x -> x.mean(3), 0);
            asked("the greatest last", () -> written(ONE, 3, 2, 2000), x -> x.mean(4), 2000);
            asked("the least second of two", () -> written(ONE, 9, 4), x -> x.mean(3), 4);
            asked("the least second of three", () -> written(ONE, 9, 4, 6), x -> x.mean(3), 4);
            asked("the greatest second of three", () -> written(ONE, 4, 9, 6), x -> x.mean(4), 9);
            asked("the least of one", () -> written(ONE, 2000), x -> x.mean(3), 2000);
            asked("the greatest of one", () -> written(ONE, 0), x -> x.mean(4), 0);
        });
        says("NONE: none", () -> {
            for (int what = 0; what <= 4; what++) {
                int asks = what;
                asked("mean(" + what + ")", () -> told(HALL), x -> x.mean(asks), -1);
            }
        });
        says("-2 (as numbers alone).", () -> {
            bounds("mean", Bench::busy, (x, what) -> x.mean(what), 0, 4, -2);
            bounds("mean of none", JarGuess::new, (x, what) -> x.mean(what), 0, 4, -2);
        });
    }

    private static void nearest() {
        promise(19);
        State ten = () -> written(ONE, 1, 2, 3, 4, 5, 6, 7, 8, 9, 1000);
        says("Which is nearest to JAR: 0 the mean, 1 the middle, 2 the mean of the first nine, 3 the GUESS that WINS", () -> {
            due("the mean", jarred(ten, 104).nearest(), 0);
            due("the middle", written("jar 4;" + ONE, 1, 4, 9).nearest(), 0);
            due("the middle alone", written("jar 2;" + ONE, 1, 2, 9).nearest(), 1);
            due("the first nine", written("jar 17;" + ONE, 0, 0, 0, 0, 0, 40, 40, 40, 40, 900).nearest(), 2);
            due("the guess", jarred(ten, 6).nearest(), 3);
            due("the guess, far", jarred(ten, 999).nearest(), 3);
            asked("of three", Bench::hall, x -> x.nearest(), 3);
        });
        says("of like ones the first.", () -> {
            due("all four", written("jar 9;" + ONE, 5).nearest(), 0);
            due("the middle and two more", jarred(ten, 5).nearest(), 1);
            due("the first nine and a guess", written("jar 20;" + ONE, 0, 0, 0, 0, 0, 40, 40, 80, 20, 900).nearest(), 2);
            due("below and above alike", written("jar 5;" + ONE, 4, 4, 6, 6, 6).nearest(), 0);
            due("the mean below, the middle above", written("jar 5;" + ONE, 0, 6, 6).nearest(), 0);
        });
        says("-5: JAR isn't told", () -> {
            refused("with guesses", ten, x -> x.nearest(), -5);
            refused("without", JarGuess::new, x -> x.nearest(), -5);
        });
        says("NONE: THE LIST is empty.", () -> {
            asked("nobody", () -> told(HALL), x -> x.nearest(), -1);
        });
    }

    private static JarGuess jarred(State state, int jar) {
        JarGuess x = state.make();
        x.jar(jar);
        return x;
    }
}
