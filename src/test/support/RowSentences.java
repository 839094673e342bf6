/** Rows of numbers, images, counts and the codes of refused calls: the terms, and promises 42 to 47. */
final class RowSentences extends Bench {
    static void all() {
        terms();
        codes();
        numbers();
        put();
        copy();
        image();
        restore();
        count();
    }

    private static void terms() {
        section("Terms");
        says("ROWS OF NUMBERS 0 to 3 are MISSING at first", () -> {
            for (int row = 0; row <= 3; row++) {
                int at = row;
                refused("row " + row, JarGuess::new, x -> x.put(at, 0, 1), -6);
            }
            bounds("rows", JarGuess::new, (x, row) -> x.numbers(row, 0, 1), 0, 3, -2);
        });
        says("or have 0 to 40 numbers of 8 bits (sort 0), 16 (1), 32 (2), 64 (3).", () -> {
            bounds("numbers", Bench::busy, (x, n) -> x.numbers(0, 0, n), 0, 40, -3);
            bounds("sorts", Bench::busy, (x, sort) -> x.numbers(0, sort, 1), 0, 3, -2);
            JarGuess x = new JarGuess();
            for (int sort = 0; sort <= 3; sort++) {
                x.numbers(sort, sort, 40);
                int bits = 8 << sort;
                long most = bits == 64 ? Long.MAX_VALUE : (1L << bits - 1) - 1;
                due("the most of " + bits, x.put(sort, 39, most), most);
                due("one more wraps around", x.put(sort, 39, most + 1), -most - 1);
                due("the least of " + bits, x.put(sort, 0, -most - 1), -most - 1);
                due("one less wraps around", x.put(sort, 0, -most - 2), most);
                due("no 41st", x.put(sort, 40, 0), -7);
            }
        });
        says("IMAGES 0 to 1: THE FETE, THE LIST, JAR (none at first).", () -> {
            bounds("image", Bench::busy, (x, i) -> x.image(i), 0, 1, -2);
            refused("restore(0) at first", JarGuess::new, x -> x.restore(0), -5);
            refused("restore(1) at first", JarGuess::new, x -> x.restore(1), -5);
            JarGuess x = hall();
            x.jar(8);
            long[] before = lookAtList(x);
            x.image(1);
            x.fete(0);
            x.restore(1);
            dueAll("restored", lookAtList(x), before);
            due("the jar", x.count(6), 8);
        });
        says("The constants: `NONE = -1`: There is none.", () -> {
            due("NONE", JarGuess.NONE, -1);
            due("there is none", new JarGuess().leader(5), JarGuess.NONE);
        });
    }

    /** Every call that can be refused, with all that is wrong with it; it answers what the document tells first. */
    private static void codes() {
        says("Refused calls answer by a code and change nothing", () -> {
            refused("feed", RowSentences::taped, x -> x.feed(1, 2, 3, 4, 5), -5);
            refused("fete", Bench::busy, x -> x.fete(41), -3);
            refused("guesser", Bench::busy, x -> x.guesser(2, 0), -2);
            refused("sight", Bench::busy, x -> x.sight(0, 0), -3);
            refused("weight", Bench::busy, x -> x.weight(10), -3);
            refused("jar", Bench::busy, x -> x.jar(1000), -3);
            refused("write", Bench::busy, x -> x.write(0, 2001), -3);
            refused("strike", Bench::busy, x -> x.strike(4), -3);
            refused("come", Bench::busy, x -> x.come(1, 38), -4);
            refused("perform", Bench::busy, x -> x.perform(1), -6);
            refused("numbers", Bench::busy, x -> x.numbers(0, 1, 41), -3);
            refused("put", Bench::busy, x -> x.put(0, 2, 9), -7);
            refused("copy", Bench::busy, x -> x.copy(1), -6);
            refused("image", Bench::busy, x -> x.image(2), -2);
            refused("restore", Bench::busy, x -> x.restore(1), -5);
        });
        says("-2 there is none such", () -> {
            due("guesser", busy().guesser(6, 0), -2);
            due("guess", busy().list(3, 0), -2);
            due("row", busy().copy(4), -2);
            due("image", busy().image(2), -2);
        });
        says("-3 a number can't be", () -> {
            due("a jar", busy().jar(1000), -3);
            due("a guess", busy().write(0, 2001), -3);
        });
        says("-4 too many", () -> {
            due("a guess", full().write(0, 5), -4);
            due("comers", full().come(1, 1), -4);
            due("a grid", new JarGuess().game(1, 0), -4);
        });
        says("-5 it can't be now", () -> {
            due("feed", taped().feed(1, 2, 3, 4, 5), -5);
            due("winner", new JarGuess().winner(), -5);
            due("restore", new JarGuess().restore(0), -5);
        });
        says("-6 a ROW OF NUMBERS is MISSING", () -> {
            due("put", busy().put(1, 0, 1), -6);
            due("copy", busy().copy(1), -6);
            due("judge", busy().judge(1, 0), -6);
            due("perform", busy().perform(1), -6);
        });
        says("-7 it has no such number", () -> {
            due("put", busy().put(0, 2, 1), -7);
            due("of none", busy().put(3, 0, 1), -7);
        });
        says("-30 less the FAULT: a text.", () -> {
            due("1", tell(new JarGuess(), "?"), -31);
            due("4", tell(new JarGuess(), SIX + "guesser"), -34);
        });
        says("(Of several that which the call tells first; all these ahead of NONE.)", () -> {
            severalOfTheList();
            severalOfOdds();
            severalOfTheRest();
        });
    }

    private static JarGuess taped() {
        JarGuess x = busy();
        x.fete(0);
        feedText(x, "price 7;" + " ".repeat(692));
        return x;
    }

    private static void severalOfTheList() {
        refused("sight: guesser, t", Bench::busy, x -> x.sight(2, 0), -2);
        refused("write: guesser, number, 40", Bench::full, x -> x.write(2, 2001), -2);
        refused("write: guesser, 40", Bench::full, x -> x.write(2, 5), -2);
        refused("write: guesser, number", Bench::busy, x -> x.write(2, 2001), -2);
        refused("write: number, 40", Bench::full, x -> x.write(0, 2001), -3);
        refused("judge: row, what", Bench::busy, x -> x.judge(4, 3), -2);
        refused("judge: what, missing", Bench::busy, x -> x.judge(1, 3), -2);
        refused("come: n, no guessers, no jar", JarGuess::new, x -> x.come(1, 0), -3);
        refused("come: n, too many", Bench::full, x -> x.come(1, 41), -3);
        refused("come: no jar, too many", () -> jarless(full()), x -> x.come(1, 1), -5);
        refused("come: no jar, 40", () -> jarless(hall()), x -> x.come(1, 40), -5);
        refused("leader: t ahead of none", JarGuess::new, x -> x.leader(1000), -3);
        refused("winner: no jar ahead of none", JarGuess::new, x -> x.winner(), -5);
        refused("mean: what ahead of none", JarGuess::new, x -> x.mean(5), -2);
        refused("nearest: no jar ahead of none", JarGuess::new, x -> x.nearest(), -5);
        refused("guesser: what ahead of none", () -> told(SIX), x -> x.guesser(0, 5), -2);
        refused("list: guess ahead of none", JarGuess::new, x -> x.list(0, 2), -2);
        refused("wins: guess ahead of none", () -> told(SIX), x -> x.wins(0, 1), -2);
    }

    private static JarGuess jarless(JarGuess x) {
        x.jar(0);
        return x;
    }

    private static void severalOfOdds() {
        refused("likeliest: m ahead of none", Bench::unfit, x -> x.likeliest(5), -3);
        refused("span: what, m", Bench::busy, x -> x.span(4, 3), -2);
        refused("span: what ahead of none", Bench::unfit, x -> x.span(4, 3), -2);
        refused("span: m ahead of none", Bench::unfit, x -> x.span(5, 0), -3);
        refused("expect: what, m", Bench::busy, x -> x.expect(4, 3), -2);
        refused("expect: what ahead of none", Bench::unfit, x -> x.expect(4, 3), -2);
        refused("expect: m ahead of none", Bench::unfit, x -> x.expect(5, 0), -3);
        refused("copied: m, guess", Bench::busy, x -> x.copied(4, 4), -3);
        refused("copier: m ahead of none", Bench::busy, x -> x.copier(-1), -3);
        refused("best: what, m", Bench::busy, x -> x.best(4, 2), -2);
        refused("bestTwo: what, m, one number", () -> told("grid 7 7;"), x -> x.bestTwo(1, 3), -2);
        refused("bestTwo: what, one number", () -> told("grid 7 7;"), x -> x.bestTwo(0, 3), -2);
        refused("bestTwo: what, m", Bench::busy, x -> x.bestTwo(4, 3), -2);
        refused("bestTwo: m, one number", () -> told("grid 7 7;"), x -> x.bestTwo(1, 0), -3);
        refused("behind: what, m", Bench::busy, x -> x.behind(4, 4), -2);
        refused("waits: what, m", Bench::busy, x -> x.waits(4, 2), -2);
        refused("waysOf: guess, m", Bench::busy, x -> x.waysOf(3, 4), -2);
        refused("shutIn: guess, m", Bench::busy, x -> x.shutIn(3, 4), -2);
        refused("gain: m, one number", () -> told("grid 7 7;"), x -> x.gain(2, 1), -3);
        refused("gain: k, one number", () -> told("grid 7 7;"), x -> x.gain(3, 0), -3);
    }

    private static void severalOfTheRest() {
        refused("game: n, what, grid", JarGuess::new, x -> x.game(0, 20), -3);
        refused("game: n, what", Bench::busy, x -> x.game(4, 4), -3);
        refused("game: n, grid", JarGuess::new, x -> x.game(4, 0), -3);
        refused("game: what, grid", JarGuess::new, x -> x.game(1, 1), -2);
        refused("alone: guesser, n, d", Bench::busy, x -> x.alone(2, 0, 21), -2);
        refused("fewest: guesser, d, p", Bench::busy, x -> x.fewest(2, 21, 101), -2);
        refused("fewest: p ahead of none", () -> told("guesser 1 20;"), x -> x.fewest(0, 0, 101), -3);
        refused("fetes: what, many, n, no jar", JarGuess::new, x -> x.fetes(1, 0, 0, true, 3), -2);
        refused("fetes: what, many", Bench::busy, x -> x.fetes(1, 41, 1, true, 3), -2);
        refused("fetes: what, no jar", JarGuess::new, x -> x.fetes(1, 1, 1, true, 3), -2);
        refused("fetes: many, no jar", JarGuess::new, x -> x.fetes(1, 41, 1, true, 0), -3);
        refused("fetes: n, no jar", JarGuess::new, x -> x.fetes(1, 1, 31, true, 0), -3);
        refused("layersFor: rings ahead of none", JarGuess::new, x -> x.layersFor(9999, 0, 99), -3);
        refused("numbers: row, n", Bench::busy, x -> x.numbers(4, 0, 41), -2);
        refused("numbers: sort, n", Bench::busy, x -> x.numbers(0, 4, 41), -2);
        refused("put: row, i", Bench::busy, x -> x.put(4, 40, 1), -2);
        refused("put: missing, i", Bench::busy, x -> x.put(1, -1, 1), -6);
        refused("restore: no such, none made", JarGuess::new, x -> x.restore(2), -2);
    }

    private static void numbers() {
        promise(42);
        says("A ROW OF NUMBERS has n numbers of a sort, all 0 (in place of another one): 0.", () -> {
            JarGuess x = told(SIX);
            due("40", x.numbers(0, 2, 40), 0);
            due("all good ones", x.perform(0), 40);
            for (int k = 0; k < 40; k++) {
                due("number " + k, x.list(k, 0), 0);
            }
            x.strike(40);
            row(x, 0, 3, 7, 8, 9);
            due("in its place", x.numbers(0, 0, 2), 0);
            due("two", x.perform(0), 2);
            due("all 0", x.mean(4), 0);
            due("no third", x.put(0, 2, 1), -7);
            due("of 8 bits", x.put(0, 1, 300), 44);
            due("more in its place", x.numbers(0, 1, 3), 0);
            due("all three 0", x.judge(0, 2), 0);
            due("the third", x.put(0, 2, 300), 300);
            due("without numbers", x.numbers(0, 1, 0), 0);
            due("it isn't missing", x.judge(0, 0), -1);
            due("it has none", x.put(0, 0, 1), -7);
            due("another row is", x.put(1, 0, 1), -6);
        });
        says("-2: no such ROW, sort", () -> {
            bounds("numbers of a row", Bench::busy, (x, row) -> x.numbers(row, 1, 1), 0, 3, -2);
            bounds("numbers of a sort", Bench::busy, (x, sort) -> x.numbers(0, sort, 1), 0, 3, -2);
            refused("neither", Bench::busy, x -> x.numbers(4, 4, 1), -2);
        });
        says("-3, and the ROW stays: n is below 0 or above 40.", () -> {
            bounds("numbers of n", Bench::busy, (x, n) -> x.numbers(2, 3, n), 0, 40, -3);
            JarGuess x = busy();
            x.numbers(1, 0, 41);
            due("a missing row stays", x.put(1, 0, 1), -6);
            x.numbers(0, 0, -1);
            due("its sort stays", x.put(0, 1, 300), 300);
            due("its number stays", x.perform(0), 2);
            due("it is", x.list(3, 0), 5);
        });
    }

    private static void put() {
        promise(43);
        says("Number i of a ROW OF NUMBERS is v, cut to its sort: as it is there.", () -> {
            JarGuess x = told(SIX);
            for (int sort = 0; sort < 4; sort++) {
                x.numbers(sort, sort, 3);
            }
            long[][] of = {{0, 127, 127}, {0, 128, -128}, {0, 255, -1}, {0, 256, 0}, {0, -128, -128}, {0, -129, 127},
                {0, Long.MIN_VALUE, 0}, {0, Long.MAX_VALUE, -1}, {1, 32767, 32767}, {1, 32768, -32768}, {1, 65535, -1},
                {1, 65536, 0}, {1, -32769, 32767}, {2, MOST, MOST}, {2, MOST + 1L, LEAST}, {2, (1L << 32) + 5, 5},
                {2, LEAST - 1L, MOST}, {3, Long.MAX_VALUE, Long.MAX_VALUE}, {3, Long.MIN_VALUE, Long.MIN_VALUE}, {3, 1L << 40, 1L << 40}};
            for (long[] one : of) {
                due("sort " + one[0] + ": " + one[1], x.put((int) one[0], 1, one[1]), one[2]);
            }
            x.put(1, 0, 12000);
            x.put(1, 1, 65536 + 1999);
            x.put(1, 2, 7);
            due("they are there", x.perform(1), 3);
            due("the first", x.list(0, 0), 2000);
            due("the second, cut", x.list(1, 0), 1999);
            due("the third", x.list(2, 0), 7);
        });
        says("-2: no such ROW", () -> bounds("put", () -> row(busy(), 1, 0, 5), (x, row) -> row == 3 ? 0 : x.put(row, 0, 1), 0, 3, -2));
        says("-6", () -> {
            refused("row 1", Bench::busy, x -> x.put(1, 0, 1), -6);
            refused("row 3 at first", JarGuess::new, x -> x.put(3, 0, 1), -6);
        });
        says("-7.", () -> {
            bounds("put of two", Bench::busy, (x, i) -> x.put(0, i, 1), 0, 1, -7);
            refused("put of none", Bench::busy, x -> x.put(3, 0, 1), -7);
            bounds("put of 40", () -> {
                JarGuess x = told(SIX);
                x.numbers(2, 2, 40);
                return x;
            }, (x, i) -> x.put(2, i, 9), 0, 39, -7);
        });
    }

    private static void copy() {
        promise(44);
        says("Numbers of all GUESSES come into a ROW from its first place on, as many as it has places: how many.", () -> {
            State three = () -> written("guesser 100 1;", 300, 5, 77);
            JarGuess x = row(three.make(), 0, 1, 1, 2, 3, 4, 9);
            due("three into five", x.copy(0), 3);
            x.strike(3);
            due("five are there", x.perform(0), 5);
            long[] of = {300, 5, 77, 4, 9};
            for (int k = 0; k < 5; k++) {
                due("place " + k, x.list(k, 0), of[k]);
            }
            x = row(three.make(), 0, 0, 1, 2);
            due("three into two", x.copy(0), 2);
            x.perform(0);
            due("cut to its sort", x.list(3, 0), 44);
            due("the second", x.list(4, 0), 5);
            asked("three into none", () -> row(three.make(), 0, 0), y -> y.copy(0), 0);
            asked("none into two", () -> row(told(SIX), 0, 0, 1, 2), y -> y.copy(0), 0);
            x = full();
            x.numbers(3, 3, 40);
            due("40 into 40", x.copy(3), 40);
            due("the list stays", x.count(1), 40);
            x.strike(40);
            due("all are there", x.perform(3), 40);
            due("the last", x.list(39, 0), 39);
            due("its guesser is not", x.list(39, 1), 0);
        });
        says("-2: the ROW", () -> bounds("copy", () -> row(busy(), 1, 0, 5), (x, row) -> x.copy(row), 0, 3, -2));
        says("-6.", () -> {
            refused("row 1", Bench::busy, x -> x.copy(1), -6);
            refused("row 3 at first", JarGuess::new, x -> x.copy(3), -6);
        });
    }

    private static void image() {
        promise(45);
        says("An IMAGE is made: 0.", () -> {
            JarGuess x = hall();
            long[] before = lookAtList(x);
            due("0", x.image(0), 0);
            dueAll("all stays", lookAtList(x), before);
            x.strike(2);
            x.jar(9);
            long[] later = lookAtList(x);
            due("1", x.image(1), 0);
            x.write(1, 2000);
            x.restore(0);
            dueAll("the first", lookAtList(x), before);
            x.restore(1);
            dueAll("the second", lookAtList(x), later);
            x.restore(0);
            due("in place of another one", x.image(1), 0);
            x.fete(0);
            x.restore(1);
            dueAll("the second then", lookAtList(x), before);
            x = full();
            due("of a full list", x.image(0), 0);
            long[] all = lookAtList(x);
            x.strike(40);
            x.restore(0);
            dueAll("a full list", lookAtList(x), all);
            x = new JarGuess();
            due("of a new one", x.image(0), 0);
            due("is made", x.restore(0), 0);
        });
        says("-2.", () -> bounds("image", Bench::busy, (x, i) -> x.image(i), 0, 1, -2));
    }

    private static void restore() {
        promise(46);
        says("All that is in an IMAGE is as it was: 0.", () -> {
            JarGuess x = wrote(told("grid 3 8;hidden;prior 5 1;price 1;prize 2;jar 4;" + SIX), 5, 2000, 3, 0);
            long[] before = lookAtList(x);
            x.image(0);
            tell(x, HALL);
            wrote(x, 0, 5, 1, 6, 0, 5, 0, 8);
            due("restored", x.restore(0), 0);
            dueAll("as it was", lookAtList(x), before);
            x.write(0, 7);
            x.jar(0);
            due("once more", x.restore(0), 0);
            dueAll("as it was once more", lookAtList(x), before);
            x.strike(1);
            x.write(1, 1999);
            due("the image is no part of the list", x.restore(0), 0);
            dueAll("as it was the third time", lookAtList(x), before);
            row(x, 2, 2, 5, 6);
            feedText(x, "jar 5;");
            due("the rest isn't in it", x.restore(0), 0);
            due("a row stays", x.put(2, 1, 70000), 70000);
            due("the tape stays", x.count(8), 20);
        });
        says("-2", () -> {
            for (int i : new int[] {LEAST, -1, 2, MOST}) {
                refused("restore(" + i + ")", Bench::busy, x -> x.restore(i), -2);
            }
        });
        says("-5: none was made.", () -> {
            refused("restore(1)", Bench::busy, x -> x.restore(1), -5);
            refused("restore(0)", Bench::hall, x -> x.restore(0), -5);
            JarGuess x = hall();
            x.image(1);
            due("of the other one", x.restore(0), -5);
            due("of this one", x.restore(1), 0);
        });
    }

    private static void count() {
        promise(47);
        says("0 GUESSERS, 1 GUESSES, 2 LOW, 3 HIGH, 4 price, 5 prize, 6 JAR (0), 7 1 if hidden, else 0, 8 bytes on THE TAPE,"
                + " 9 LINES, 10 unlike numbers on THE LIST, 11 coins taken (price times GUESSES).", () -> {
            long[] of = {2, 3, 1, 9, 3, 20, 6, 0, 40, 7, 2, 9};
            for (int what = 0; what < of.length; what++) {
                int asks = what;
                asked("count(" + what + ")", Bench::busy, x -> x.count(asks), of[what]);
                asked("count(" + what + ") of a new one", JarGuess::new, x -> x.count(asks),
                        what == 2 ? 1 : what == 3 ? 100 : what == 4 ? 10 : what == 5 ? 100 : 0);
            }
            due("six guessers", told(SIX).count(0), 6);
            due("40 guesses", full().count(1), 40);
            due("40 unlike ones", full().count(10), 40);
            due("coins of 40", full().count(11), 120);
            JarGuess x = told("price 99;guesser 1 1;");
            for (int i = 0; i < 40; i++) {
                x.write(0, 2000);
            }
            due("none unlike", x.count(10), 1);
            due("the most coins", x.count(11), 3960);
            due("hidden", told("hidden;").count(7), 1);
            due("LINES", told("hidden;".repeat(100)).count(9), 100);
        });
        says("NONE for others.", () -> {
            for (int what : new int[] {LEAST, -1, 12, 13, MOST}) {
                asked("count(" + what + ")", Bench::busy, x -> x.count(what), -1);
            }
        });
    }
}
