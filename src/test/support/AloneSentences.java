/** Some who guess alone, shown and hidden lists, jars: the terms, and promises 37 to 41. */
final class AloneSentences extends Bench {
    private static final String SPREADS = "guesser 100 1;guesser 100 2;guesser 1 0;guesser 200 20 copy 10;jar 9;";

    static void all() {
        terms();
        alone();
        fewest();
        fetes();
        holds();
        layersFor();
    }

    private static State spreads() {
        return () -> told(SPREADS);
    }

    /** All choices, one by one. */
    private static long byChoices(int spread, int n, int far, int off) {
        if (n == 0) {
            return Math.abs(off) <= far ? 1 : 0;
        }
        long many = 0;
        for (int one = -spread; one <= spread; one++) {
            many += byChoices(spread, n - 1, far, off + one);
        }
        return many;
    }

    private static void terms() {
        section("Terms");
        says("ALONE: n (1 to 8) of one GUESSER, without GOALS, each no farther than SPREAD from SIGHT, all alike likely:"
                + " in how many of all (2 SPREAD and 1 to the n-th) the mean of how far they are off is no farther than d"
                + " from 0 (off together no farther than n times d).", () -> {
            JarGuess x = told(SPREADS);
            for (int n = 1; n <= 8; n++) {
                for (int d = 0; d <= 2; d++) {
                    due("SPREAD 1, " + n + ", " + d, x.alone(0, n, d), byChoices(1, n, n * d, 0));
                    due("SPREAD 2, " + n + ", " + d, x.alone(1, n, d), byChoices(2, n, n * d, 0));
                    due("SPREAD 0, " + n + ", " + d, x.alone(2, n, d), 1);
                }
            }
            due("of three, all", x.alone(0, 3, 1), 27);
            due("of three, none off together", x.alone(0, 3, 0), 7);
            due("SPREAD 20, 4, 19", x.alone(3, 4, 19), byChoices(20, 4, 76, 0));
            due("SPREAD 20, 3, 5", x.alone(3, 3, 5), byChoices(20, 3, 15, 0));
            due("all of 41 to the eighth", x.alone(3, 8, 20), 7984925229121L);
            // 153 to 160 together on one side: 0 to 7 are lacking, shared out among eight in 6435 ways.
            due("but those off by more than 152", x.alone(3, 8, 19), 7984925229121L - 2 * 6435);
        });
        says("FETES by a SEED: so many (1 to 40) of n COMERS (1 to 30) each, THE LIST empty at first each time, all DRAWS one"
                + " behind the other, shown or hidden as asked", () -> {
            JarGuess x = fair(false);
            due("one fete of one", x.fetes(5, 1, 1, true, 0), off(5, 1, 1, false)[0]);
            due("40 of 30", x.fetes(5, 40, 30, true, 0), off(5, 40, 30, false)[0]);
            due("40 of 30, hidden", x.fetes(5, 40, 30, false, 0), off(5, 40, 30, true)[0]);
            due("shown and hidden differ", off(5, 40, 30, true)[0] != off(5, 40, 30, false)[0] ? 1 : 0, 1);
            JarGuess y = fair(true);
            due("shown, though the text hides it", y.fetes(5, 40, 30, true, 0), off(5, 40, 30, false)[0]);
            due("hidden, as the text hides it", y.fetes(5, 40, 30, false, 0), off(5, 40, 30, true)[0]);
            for (int seed : new int[] {0, -1, 1, MOST, LEAST, 65536}) {
                due("seed " + seed, x.fetes(seed, 7, 5, true, 0), off(seed, 7, 5, false)[0]);
            }
            wrote(x, 0, 2000, 0, 2000);
            due("what is written doesn't count", x.fetes(5, 3, 4, true, 0), off(5, 3, 4, false)[0]);
        });
        says("OFF: how far the mean of each (cut) is from JAR, together", () -> {
            due("a lean of 50", told("guesser 50 0;jar 10;").fetes(1, 4, 3, true, 0), 20);
            due("a lean of 200", told("guesser 200 0;jar 10;").fetes(1, 4, 3, true, 0), 40);
            due("cut", told("guesser 15 0;jar 9;").fetes(1, 1, 2, true, 0), 8);
            for (int n = 1; n <= 6; n++) {
                due("of " + n, fair(false).fetes(9, 11, n, false, 0), off(9, 11, n, true)[0]);
            }
        });
        says("WON: how far the GUESS that WINS is", () -> {
            due("a lean of 50", told("guesser 50 0;jar 10;").fetes(1, 4, 3, true, 1), 20);
            for (int n = 1; n <= 6; n++) {
                due("of " + n, fair(false).fetes(9, 11, n, true, 1), off(9, 11, n, false)[1]);
            }
        });
        says("BEATEN: in how many the mean is nearer than the GUESS that WINS.", () -> {
            due("never, alike", told("guesser 50 0;jar 10;").fetes(1, 40, 3, true, 2), 0);
            due("one is its own mean", fair(false).fetes(9, 40, 1, false, 2), 0);
            for (int n = 2; n <= 6; n++) {
                due("of " + n, fair(false).fetes(11, 40, n, false, 2), off(11, 40, n, true)[2]);
            }
            due("some are", off(11, 40, 4, true)[2] > 0 ? 1 : 0, 1);
        });
        says("A JAR of LAYERS (1 to 99) with RINGS (1 to 30): the middle 1, ring r has 6 r: each layer 1 and all rings;"
                + " every second layer lacks its outer ring; of all together AIR (0 to 99) hundredths, cut, are lacking.", () -> {
            JarGuess x = new JarGuess();
            for (int layers : new int[] {1, 2, 3, 4, 50, 98, 99}) {
                for (int rings : new int[] {1, 2, 3, 29, 30}) {
                    for (int air : new int[] {0, 1, 50, 98, 99}) {
                        due(layers + " layers, " + rings + " rings, " + air, x.holds(layers, rings, air),
                                byLayers(layers, rings, air));
                    }
                }
            }
            due("one layer", x.holds(1, 2, 0), 1 + 6 + 12);
            due("the second lacks its outer ring", x.holds(2, 2, 0), 19 + 7);
            due("the third doesn't", x.holds(3, 2, 0), 19 + 7 + 19);
            due("one ring: the middle alone", x.holds(2, 1, 0), 8);
            due("0.07 is cut", x.holds(1, 1, 1), 7);
            due("6.93 is cut", x.holds(1, 1, 99), 1);
            due("1.00 isn't", x.holds(49, 1, 1), 199 - 1);
        });
    }

    private static JarGuess fair(boolean hidden) {
        return told((hidden ? "hidden;" : "") + "guesser 130 20 copy 3;guesser 70 20 copy 3;jar 100;");
    }

    /** OFF, WON and BEATEN of the fair, by a second program. */
    private static long[] off(int seed, int many, int n, boolean hidden) {
        int x = seed;
        long[] sums = new long[3];
        for (int i = 0; i < many; i++) {
            int together = 0;
            int won = MOST;
            for (int k = 0; k < n; k++) {
                x = x * 1103515245 + 12345;
                int sight = (x >>> 16) % 2 == 0 ? 130 : 70;
                x = x * 1103515245 + 12345;
                int v;
                if ((x >>> 16) % 10 < 3 && k > 0 && !hidden) {
                    v = together / k;
                } else {
                    x = x * 1103515245 + 12345;
                    v = sight - 20 + (x >>> 16) % 41;
                }
                together += v;
                won = Math.min(won, Math.abs(v - 100));
            }
            int off = Math.abs(together / n - 100);
            sums[0] += off;
            sums[1] += won;
            sums[2] += off < won ? 1 : 0;
        }
        return sums;
    }

    private static long byLayers(int layers, int rings, int air) {
        long all = 0;
        for (int layer = 1; layer <= layers; layer++) {
            all += 1;
            for (int r = 1; r <= (layer % 2 == 0 ? rings - 1 : rings); r++) {
                all += 6 * r;
            }
        }
        return all - all * air / 100;
    }

    private static void alone() {
        promise(37);
        says("ALONE.", () -> {
            asked("SPREAD 1, 1, 0", spreads(), x -> x.alone(0, 1, 0), 1);
            asked("SPREAD 1, 1, 1", spreads(), x -> x.alone(0, 1, 1), 3);
            asked("SPREAD 1, 8, 0", spreads(), x -> x.alone(0, 8, 0), 1107);
            asked("SPREAD 20, 1, 19", spreads(), x -> x.alone(3, 1, 19), 39);
            asked("SPREAD 20, 1, 20", spreads(), x -> x.alone(3, 1, 20), 41);
        });
        says("-2: the GUESSER", () -> {
            bounds("alone", spreads(), (x, g) -> x.alone(g, 1, 1), 0, 3, -2);
            bounds("alone, busy", Bench::busy, (x, g) -> x.alone(g, 8, 20), 0, 1, -2);
            refused("without guessers", JarGuess::new, x -> x.alone(0, 1, 1), -2);
        });
        says("-3: n, d (0 to 20).", () -> {
            bounds("alone of n", Bench::busy, (x, n) -> x.alone(0, n, 1), 1, 8, -3);
            bounds("alone of d", Bench::busy, (x, d) -> x.alone(0, 8, d), 0, 20, -3);
            refused("neither", Bench::busy, x -> x.alone(0, 9, 21), -3);
        });
    }

    private static void fewest() {
        promise(38);
        says("The fewest (1 to 8) so that ALONE is p hundredths (0 to 100) of all or more.", () -> {
            int[][] of = {{0, 1}, {1, 1}, {60, 1}, {61, 2}, {76, 2}, {77, 3}, {84, 3}, {85, 4}, {88, 4}, {89, 5}, {91, 5},
                {92, 6}, {94, 6}, {95, 7}, {96, 8}};
            for (int[] one : of) {
                asked("SPREAD 2, by " + one[0], spreads(), x -> x.fewest(1, 1, one[0]), one[1]);
            }
            asked("all, as none is farther", spreads(), x -> x.fewest(1, 2, 100), 1);
            asked("all of SPREAD 0", spreads(), x -> x.fewest(2, 0, 100), 1);
            asked("all of SPREAD 20", spreads(), x -> x.fewest(3, 20, 100), 1);
            asked("a third is 33", spreads(), x -> x.fewest(0, 0, 33), 1);
        });
        says("NONE: not by 8", () -> {
            asked("SPREAD 2, by 97", spreads(), x -> x.fewest(1, 1, 97), -1);
            asked("a third isn't 34", spreads(), x -> x.fewest(0, 0, 34), -1);
            asked("not all of them", spreads(), x -> x.fewest(3, 19, 100), -1);
        });
        says("-2", () -> {
            bounds("fewest", spreads(), (x, g) -> x.fewest(g, 1, 1), 0, 3, -2);
            refused("without guessers", JarGuess::new, x -> x.fewest(0, 1, 1), -2);
            refused("busy", Bench::busy, x -> x.fewest(2, 1, 1), -2);
        });
        says("-3: d, p (as numbers alone).", () -> {
            bounds("fewest of d", Bench::busy, (x, d) -> x.fewest(0, d, 1), 0, 20, -3);
            bounds("fewest of p", Bench::busy, (x, p) -> x.fewest(0, 1, p), 0, 100, -3);
            bounds("fewest of p, not by 8", spreads(), (x, p) -> x.fewest(3, 0, p), 0, 100, -3);
            refused("neither", Bench::busy, x -> x.fewest(0, 21, 101), -3);
        });
    }

    private static void fetes() {
        promise(39);
        says("FETES, what 0: OFF, 1: WON, 2: BEATEN.", () -> {
            long[] shown = off(11, 40, 4, false);
            long[] hidden = off(11, 40, 4, true);
            for (int what = 0; what <= 2; what++) {
                int asks = what;
                asked("shown: what " + what, () -> fair(true), x -> x.fetes(11, 40, 4, true, asks), shown[what]);
                asked("hidden: what " + what, () -> fair(false), x -> x.fetes(11, 40, 4, false, asks), hidden[what]);
                asked("busy: what " + what, Bench::busy, x -> x.fetes(11, 40, 30, true, asks) >= 0 ? 1 : 0, 1);
            }
            dueAll("the second program's", shown, 678, 642, 10);
        });
        says("-2: what", () -> {
            bounds("fetes of what", Bench::busy, (x, what) -> x.fetes(1, 1, 1, true, what), 0, 2, -2);
        });
        says("-3: how many, n", () -> {
            bounds("fetes of so many", Bench::busy, (x, many) -> x.fetes(1, many, 30, true, 0), 1, 40, -3);
            bounds("fetes of n", Bench::busy, (x, n) -> x.fetes(1, 40, n, false, 0), 1, 30, -3);
            refused("neither", Bench::busy, x -> x.fetes(1, 0, 0, true, 0), -3);
        });
        says("-5: no GUESSERS, JAR isn't told.", () -> {
            refused("no guessers", () -> told("jar 5;"), x -> x.fetes(1, 1, 1, true, 0), -5);
            refused("no jar", () -> told("guesser 100 1;"), x -> x.fetes(1, 1, 1, true, 0), -5);
            refused("neither", JarGuess::new, x -> x.fetes(1, 1, 1, false, 2), -5);
            JarGuess x = told("guesser 100 0;");
            x.jar(1);
            due("when it is told", x.fetes(1, 1, 1, true, 0), 0);
        });
    }

    private static void holds() {
        promise(40);
        says("How many a JAR of LAYERS, RINGS, AIR has.", () -> {
            asked("the least", Bench::busy, x -> x.holds(1, 1, 0), 7);
            asked("the most", Bench::busy, x -> x.holds(99, 30, 0), 267489);
            asked("mostly air", Bench::busy, x -> x.holds(99, 30, 99), 2675);
        });
        says("-3.", () -> {
            bounds("holds of layers", Bench::busy, (x, n) -> x.holds(n, 1, 0), 1, 99, -3);
            bounds("holds of rings", Bench::busy, (x, n) -> x.holds(1, n, 0), 1, 30, -3);
            bounds("holds of air", Bench::busy, (x, n) -> x.holds(1, 1, n), 0, 99, -3);
            refused("none of these", Bench::busy, x -> x.holds(0, 0, -1), -3);
        });
    }

    private static void layersFor() {
        promise(41);
        says("The fewest LAYERS by which a JAR of RINGS, AIR has so many (1 to 9999) or more.", () -> {
            int[][] of = {{1, 1}, {7, 1}, {8, 2}, {9, 3}, {15, 3}, {16, 4}, {17, 5}, {392, 98}, {393, 99}, {399, 99}};
            for (int[] one : of) {
                asked(one[0] + " by one ring", Bench::busy, x -> x.layersFor(one[0], 1, 0), one[1]);
            }
            asked("9999 by 30 rings", Bench::busy, x -> x.layersFor(9999, 30, 0), 4);
            for (int air = 0; air <= 99; air += 9) {
                int lacking = air;
                int layers = 1;
                while (layers < 99 && byLayers(layers, 5, air) < 500) {
                    layers++;
                }
                asked("500 with air " + air, Bench::busy, x -> x.layersFor(500, 5, lacking),
                        byLayers(layers, 5, air) < 500 ? -1 : layers);
            }
        });
        says("NONE: not by 99", () -> {
            asked("400 by one ring", Bench::busy, x -> x.layersFor(400, 1, 0), -1);
            asked("9999 by one ring", Bench::busy, x -> x.layersFor(9999, 1, 0), -1);
            asked("2675, mostly air", Bench::busy, x -> x.layersFor(2675, 30, 99), 99);
            asked("2676, mostly air", Bench::busy, x -> x.layersFor(2676, 30, 99), -1);
        });
        says("-3.", () -> {
            bounds("layersFor of sweets", Bench::busy, (x, n) -> x.layersFor(n, 30, 0), 1, 9999, -3);
            bounds("layersFor of rings", Bench::busy, (x, n) -> x.layersFor(1, n, 0), 1, 30, -3);
            bounds("layersFor of air", Bench::busy, (x, n) -> x.layersFor(1, 1, n), 0, 99, -3);
            refused("ahead of NONE", Bench::busy, x -> x.layersFor(9999, 1, 100), -3);
            refused("none of these", Bench::busy, x -> x.layersFor(0, 0, -1), -3);
        });
    }
}
