/** Odds of how many there are: the terms, and promises 20 to 26. */
final class OddsSentences extends Bench {
    private static final String SHARP = "guesser 100 0;";

    static void all() {
        terms();
        odds();
        out();
        likeliest();
        span();
        expect();
        copied();
        copier();
    }

    private static void terms() {
        section("Terms");
        says("WAYS of t by the first m GUESSES (0 to 4, not more than there are): WEIGHT of t times all their CHANCES", () -> {
            JarGuess x = five();
            long[][] of = {{3, 0, 0, 0, 0}, {5, 0, 0, 0, 0}, {7, 70, 700, 12600, 226800}, {9, 90, 900, 16200, 291600},
                {7, 70, 700, 12600, 226800}, {5, 0, 0, 0, 0}};
            for (int t = 2; t <= 7; t++) {
                for (int m = 0; m <= 4; m++) {
                    due("WAYS of " + t + " by " + m, x.odds(t, m), of[t - 2][m]);
                }
            }
            due("by 5", x.odds(5, 5), -3);
            due("by -1", x.odds(5, -1), -3);
            due("by 4 of three", hall().odds(5, 4), -3);
            due("by 1 of none", told(HALL).odds(5, 1), -3);
        });
        says("OUT of m: WAYS of all t of the grid together.", () -> {
            JarGuess x = five();
            long[] of = {41, 230, 2300, 41400, 745200};
            for (int m = 0; m <= 4; m++) {
                due("OUT of " + m, x.out(m), of[m]);
                long sum = 0;
                for (int t = 1; t <= 9; t++) {
                    sum += x.odds(t, m);
                }
                due("all WAYS by " + m, sum, of[m]);
            }
            due("LOW and HIGH count", told("grid 4 5;prior 4 1;").out(0), 9 + 8);
        });
        says("All below with m is counted in WAYS by m; THE LIST is looked at whole for who WINS.", () -> {
            JarGuess x = wrote(told("grid 1 9;guesser 100 1;"), 0, 5, 0, 2, 0, 7);
            due("by none: 4 wins 4", x.chance(4, 0), 1);
            due("by one: 4 wins 4", x.chance(4, 1), 10);
            due("by one: 6 wins 6, up to the third guess", x.chance(6, 1), 10);
            due("by two: nothing fits", x.chance(6, 2), 0);
            due("by none: 8 wins 8 and 9", x.chance(8, 0), 2);
            due("by one: what 8 wins has no WAYS", x.chance(8, 1), 0);
            due("by one, the third guess", x.waysOf(2, 1), 0);
            due("by one, the first guess", x.waysOf(0, 1), 30);
            due("by none, the third guess", x.waysOf(2, 0), 3);
        });
    }

    private static void odds() {
        promise(20);
        says("WAYS of t.", () -> {
            asked("LOW", Bench::hall, x -> x.odds(1, 0), 1);
            asked("HIGH", Bench::hall, x -> x.odds(9, 0), 1);
            asked("5 by three", Bench::hall, x -> x.odds(5, 3), 16200);
            asked("none", Bench::hall, x -> x.odds(7, 3), 0);
            asked("the most", () -> written("grid 1 20;prior 10 0;guesser 1 20 copy 10;", 0, 0, 0, 0), x -> x.odds(20, 4),
                    9L * 10 * 410 * 410 * 410);
            asked("of 1198", () -> written("grid 999 1198;guesser 150 0;", 1797), x -> x.odds(1198, 1), 10);
        });
        says("-3: t is not of the grid, m.", () -> {
            bounds("odds by 0", Bench::busy, (x, t) -> x.odds(t, 0), 1, 9, -3);
            bounds("odds by 0 without a text", JarGuess::new, (x, t) -> x.odds(t, 0), 1, 100, -3);
            bounds("odds by 0 on a high grid", () -> told("grid 999 1198;"), (x, t) -> x.odds(t, 0), 999, 1198, -3);
            countedBy("odds of 5", (x, m) -> x.odds(5, m));
            refused("neither", Bench::busy, x -> x.odds(10, 4), -3);
        });
    }

    private static void out() {
        promise(21);
        says("OUT.", () -> {
            asked("by 0", Bench::hall, x -> x.out(0), 41);
            asked("by 3", Bench::hall, x -> x.out(3), 41400);
            asked("0", Bench::unfit, x -> x.out(4), 0);
            asked("200 numbers", () -> told("grid 999 1198;"), x -> x.out(0), 200);
            asked("one number", () -> told("grid 999 999;"), x -> x.out(0), 1);
            asked("the most", () -> written("grid 1 200;prior 10 0;guesser 1 20 copy 10;", 0, 0, 0, 0), x -> x.out(4),
                    200L * 9 * 10 * 410 * 410 * 410);
        });
        says("-3: m.", () -> countedBy("out", (x, m) -> x.out(m)));
    }

    private static void likeliest() {
        promise(22);
        says("The likeliest t, the least.", () -> {
            asked("by weight", Bench::hall, x -> x.likeliest(0), 5);
            asked("all alike", JarGuess::new, x -> x.likeliest(0), 1);
            asked("five alike", () -> written("guesser 100 2;", 50), x -> x.likeliest(1), 48);
            asked("LOW", () -> written(SHARP, 1), x -> x.likeliest(1), 1);
            asked("HIGH", () -> written(SHARP, 100), x -> x.likeliest(1), 100);
            asked("two peaks", () -> told("grid 4 6;prior 5 0;"), x -> x.likeliest(0), 4);
            asked("above 999", () -> written("grid 999 1198;guesser 150 0;", 1797), x -> x.likeliest(1), 1198);
        });
        says("NONE: OUT is 0", () -> {
            asked("nothing fits", Bench::unfit, x -> x.likeliest(4), -1);
            asked("nothing fits the first", () -> written(SHARP, 101), x -> x.likeliest(1), -1);
            asked("but by none", () -> written(SHARP, 101), x -> x.likeliest(0), 1);
        });
        says("-3 (as numbers alone).", () -> {
            countedBy("likeliest", (x, m) -> x.likeliest(m));
            refused("where OUT of four is 0", Bench::unfit, x -> x.likeliest(5), -3);
        });
    }

    private static void span() {
        promise(23);
        says("The least (what 0), the greatest t (1) that has WAYS, how many have (2).", () -> {
            asked("the least by 0", Bench::hall, x -> x.span(0, 0), 1);
            asked("the greatest by 0", Bench::hall, x -> x.span(0, 1), 9);
            asked("how many by 0", Bench::hall, x -> x.span(0, 2), 9);
            asked("the least by 3", Bench::hall, x -> x.span(3, 0), 4);
            asked("the greatest by 3", Bench::hall, x -> x.span(3, 1), 6);
            asked("how many by 3", Bench::hall, x -> x.span(3, 2), 3);
            State last = () -> written(SHARP, 100);
            asked("the least is HIGH", last, x -> x.span(1, 0), 100);
            asked("the greatest is HIGH", last, x -> x.span(1, 1), 100);
            asked("one", last, x -> x.span(1, 2), 1);
            State first = () -> written(SHARP, 1);
            asked("the greatest is LOW", first, x -> x.span(1, 1), 1);
            asked("200", () -> told("grid 999 1198;"), x -> x.span(0, 2), 200);
        });
        says("NONE: none (2: 0)", () -> {
            asked("the least", Bench::unfit, x -> x.span(4, 0), -1);
            asked("the greatest", Bench::unfit, x -> x.span(4, 1), -1);
            asked("how many", Bench::unfit, x -> x.span(4, 2), 0);
        });
        says("-2", () -> {
            bounds("span by 3", Bench::busy, (x, what) -> x.span(3, what), 0, 2, -2);
            refused("where none has", Bench::unfit, x -> x.span(4, 3), -2);
        });
        says("-3.", () -> {
            for (int what = 0; what <= 2; what++) {
                int asks = what;
                countedBy("span of what " + what, (x, m) -> x.span(m, asks));
            }
        });
    }

    private static void expect() {
        promise(24);
        says("The mean of t by WAYS: the whole number (what 0), the rest of OUT (1)", () -> {
            asked("18 of 4", () -> told("grid 3 6;"), x -> x.expect(0, 0), 4);
            asked("its rest", () -> told("grid 3 6;"), x -> x.expect(0, 1), 2);
            asked("81 of 13", () -> told("grid 3 7;prior 7 8;"), x -> x.expect(0, 0), 6);
            asked("the rest of 81 of 13", () -> told("grid 3 7;prior 7 8;"), x -> x.expect(0, 1), 3);
            asked("one number", () -> told("grid 7 7;"), x -> x.expect(0, 0), 7);
            asked("its rest", () -> told("grid 7 7;"), x -> x.expect(0, 1), 0);
            asked("by three", Bench::hall, x -> x.expect(3, 0), 5);
            asked("by three, the rest", Bench::hall, x -> x.expect(3, 1), 0);
            asked("HIGH", () -> written("grid 999 1198;guesser 150 0;", 1797), x -> x.expect(1, 0), 1198);
            asked("two, weighed by 10", () -> written("grid 3 4;guesser 100 1;", 3), x -> x.expect(1, 1), 10);
        });
        says("2: the least t up to which (with it) half of OUT or more are.", () -> {
            asked("just half", () -> told("grid 3 6;"), x -> x.expect(0, 2), 4);
            asked("of an odd many", () -> told("grid 3 7;"), x -> x.expect(0, 2), 5);
            asked("HIGH alone", () -> told("grid 3 7;prior 7 8;"), x -> x.expect(0, 2), 7);
            asked("LOW alone", () -> told("grid 3 7;prior 3 8;"), x -> x.expect(0, 2), 3);
            asked("one number", () -> told("grid 7 7;"), x -> x.expect(0, 2), 7);
            asked("those with WAYS", () -> written("guesser 100 2;", 50), x -> x.expect(1, 2), 50);
            asked("less than half by one", () -> told("grid 1 2;prior 2 1;"), x -> x.expect(0, 2), 2);
            asked("just half by the first", () -> told("grid 1 2;prior 2 0;"), x -> x.expect(0, 2), 1);
        });
        says("NONE: OUT is 0", () -> {
            for (int what = 0; what <= 2; what++) {
                int asks = what;
                asked("expect(4, " + what + ")", Bench::unfit, x -> x.expect(4, asks), -1);
            }
        });
        says("-2", () -> {
            bounds("expect by 3", Bench::busy, (x, what) -> x.expect(3, what), 0, 2, -2);
            refused("where OUT is 0", Bench::unfit, x -> x.expect(4, 3), -2);
        });
        says("-3.", () -> {
            for (int what = 0; what <= 2; what++) {
                int asks = what;
                countedBy("expect of what " + what, (x, m) -> x.expect(m, asks));
            }
        });
    }

    private static void copied() {
        promise(25);
        says("In how many WAYS by m GUESSES the k-th of these was copied (its CHANCE by GOAL alone).", () -> {
            asked("the third", Bench::hall, x -> x.copied(2, 3), 23 * 100 * 12);
            asked("the second never copies", Bench::hall, x -> x.copied(1, 3), 0);
            asked("the first has no goal", Bench::hall, x -> x.copied(0, 3), 0);
            asked("the third, by four", Bench::five, x -> x.copied(2, 4), 23 * 100 * 12 * 18);
            asked("the fourth, by four", Bench::five, x -> x.copied(3, 4), 23 * 100 * 18 * 12);
            asked("the second of two", () -> written("grid 5 5;guesser 100 0 copy 5;", 5, 5), x -> x.copied(1, 2), 50);
            asked("of three", () -> written("grid 5 5;guesser 100 0 copy 5;", 5, 5, 5), x -> x.copied(1, 3), 500);
            asked("not the goal", () -> written("grid 5 6;guesser 100 1 copy 5;", 5, 6), x -> x.copied(1, 2), 0);
            asked("hidden", () -> written("hidden;grid 5 5;guesser 100 0 copy 10;", 5, 5), x -> x.copied(1, 2), 0);
            asked("where nothing fits", Bench::unfit, x -> x.copied(2, 4), 0);
        });
        says("-3: m", () -> {
            for (int m : new int[] {-1, 4, 5, LEAST, MOST}) {
                refused("copied(0, " + m + ")", Bench::hall, x -> x.copied(0, m), -3);
            }
            refused("copied(0, 5) of five", Bench::five, x -> x.copied(0, 5), -3);
            due("copied(0, 4) of five", five().copied(0, 4), 0);
            refused("copied(0, 1) of none", () -> told(HALL), x -> x.copied(0, 1), -3);
        });
        says("-2: it is not among these.", () -> {
            for (int m = 1; m <= 4; m++) {
                int by = m;
                bounds("copied by " + m, Bench::five, (x, k) -> x.copied(k, by), 0, m - 1, -2);
            }
            refused("by none", Bench::hall, x -> x.copied(0, 0), -2);
            refused("by none of none", JarGuess::new, x -> x.copied(0, 0), -2);
        });
    }

    private static void copier() {
        promise(26);
        says("Which of the first m was most likely copied (the most WAYS, more than 0), the first.", () -> {
            asked("the third", Bench::hall, x -> x.copier(3), 2);
            asked("the third, as likely as the fourth", Bench::five, x -> x.copier(4), 2);
            State three = () -> written("grid 5 5;guesser 100 0 copy 5;", 5, 5, 5, 5);
            asked("the first that can be", three, x -> x.copier(4), 1);
            State likelier = () -> wrote(told("grid 5 5;guesser 100 0 copy 1;guesser 100 0 copy 9;"), 0, 5, 0, 5, 1, 5, 1, 5);
            asked("the likelier", likelier, x -> x.copier(4), 2);
            asked("of the first two", likelier, x -> x.copier(2), 1);
            State earlier = () -> wrote(told("grid 5 5;guesser 100 0 copy 1;guesser 100 0 copy 9;"), 0, 5, 1, 5, 0, 5, 0, 5);
            asked("the likelier, the earlier one", earlier, x -> x.copier(4), 1);
            asked("ahead of one that can't be", () -> wrote(told("grid 5 5;guesser 100 0 copy 1;guesser 100 0;"), 0, 5, 0, 5, 1, 5),
                    x -> x.copier(3), 1);
            asked("the fourth", () -> wrote(told("grid 5 5;guesser 100 0;guesser 100 0 copy 1;"), 0, 5, 0, 5, 0, 5, 1, 5),
                    x -> x.copier(4), 3);
        });
        says("NONE: none", () -> {
            asked("by none", Bench::hall, x -> x.copier(0), -1);
            asked("by one", Bench::hall, x -> x.copier(1), -1);
            asked("by two", Bench::hall, x -> x.copier(2), -1);
            asked("where nothing fits", Bench::unfit, x -> x.copier(4), -1);
            asked("hidden", () -> written("hidden;grid 5 5;guesser 100 0 copy 10;", 5, 5), x -> x.copier(2), -1);
        });
        says("-3.", () -> countedBy("copier", (x, m) -> x.copier(m)));
    }
}
