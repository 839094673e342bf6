import java.util.Arrays;

/** Promise by promise: calls with the answers that the document asks for, reckoned by hand or by a second program. */
public final class PromiseTest extends Bench {
    public static void main(String[] args) {
        Runnable[] promises = {PromiseTest::newObject, PromiseTest::feed, PromiseTest::fete, PromiseTest::fault,
            PromiseTest::guesser, PromiseTest::sight, PromiseTest::weight, PromiseTest::jar, PromiseTest::write,
            PromiseTest::strike, PromiseTest::list, PromiseTest::judge, PromiseTest::perform, PromiseTest::come,
            PromiseTest::leader, PromiseTest::winner, PromiseTest::wins, PromiseTest::mean, PromiseTest::nearest,
            PromiseTest::odds, PromiseTest::out, PromiseTest::likeliest, PromiseTest::span, PromiseTest::expect,
            PromiseTest::copied, PromiseTest::copier, PromiseTest::chance, PromiseTest::best, PromiseTest::bestTwo,
            PromiseTest::behind, PromiseTest::waits, PromiseTest::waysOf, PromiseTest::shutIn, PromiseTest::gain,
            PromiseTest::buys, PromiseTest::game, PromiseTest::alone, PromiseTest::fewest, PromiseTest::fetes,
            PromiseTest::holds, PromiseTest::layersFor, PromiseTest::numbers, PromiseTest::put, PromiseTest::copy,
            PromiseTest::image, PromiseTest::restore, PromiseTest::count};
        for (int i = 0; i < promises.length; i++) {
            promise(i + 1);
            try {
                promises[i].run();
            } catch (RuntimeException e) {
                fail("a call threw " + e);
            }
        }
        System.out.println(wrong == 0 ? promises.length + " promises are kept" : wrong + " answers are not as due");
        if (wrong != 0) {
            System.exit(1);
        }
    }

    private static void newObject() {
        JarGuess x = new JarGuess();
        int[] counts = {0, 0, 1, 100, 10, 100, 0, 0, 0, 0, 0, 0};
        for (int what = 0; what < counts.length; what++) {
            due("count(" + what + ")", x.count(what), counts[what]);
        }
        due("fault(0)", x.fault(0), 0);
        due("fault(1)", x.fault(1), -1);
        due("weight(100)", x.weight(100), 1);
        due("put", x.put(0, 0, 1), -6);
        due("restore(0)", x.restore(0), -5);
        due("NONE", JarGuess.NONE, -1);
    }

    private static void feed() {
        JarGuess x = new JarGuess();
        due("first", x.feed(0x6a617220, 0x373b6775, 0x65737365, 0x72203930, 0x20323b20), 20);
        due("fete(20): jar 7;guesser 90 2;", x.fete(20), 2);
        due("jar", x.count(6), 7);
        due("lean", x.guesser(0, 0), 90);
        due("spread", x.guesser(0, 1), 2);
        for (int i = 1; i <= 35; i++) {
            due("feed " + i, x.feed(0x20202020, 0x20202020, 0x20202020, 0x20202020, 0x20202020), 20 * i);
        }
        due("feed 36", x.feed(0x21212121, 1, 2, 3, 4), -5);
        due("taped", x.count(8), 700);
        due("fete(700)", x.fete(700), 0);
    }

    private static void fete() {
        JarGuess x = new JarGuess();
        due("-1", x.fete(-1), -3);
        due("1", x.fete(1), -3);
        due("0", x.fete(0), 0);
        due("two grids", tell(x, "grid 1 5;\ngrid 2 6;"), 2);
        due("low", x.count(2), 2);
        due("high", x.count(3), 6);
        due("dense", tell(x, "grid3 7;guesser100 2copy7;hidden;price99;prize9999;jar999;"), 6);
        due("price", x.count(4), 99);
        due("copy", x.guesser(0, 2), 7);
        due("hidden", x.count(7), 1);
        x.write(0, 5);
        feedText(x, "jar 5;");
        due("above the tape", x.fete(21), -3);
        due("the tape stays", x.count(8), 20);
        due("only its begin is read", x.fete(4), -32);
        due("the tape is empty", x.count(8), 0);
        due("the list stays", x.count(1), 1);
        due("the jar stays", x.count(6), 999);
        due("the grid stays", x.count(3), 7);
        due("the lines stay", x.count(9), 6);
        due("a fault late in the text", tell(x, "grid 1 2;guesser 1 1;jar 3;jar 0;"), -33);
        due("the guesser stays", x.guesser(0, 1), 2);
        due("the grid stays too", x.count(2), 3);
        due("empty", x.fete(0), 0);
        int[] counts = {0, 0, 1, 100, 10, 100, 0, 0, 0, 0, 0, 0};
        for (int what = 0; what < counts.length; what++) {
            due("count(" + what + ") as without a text", x.count(what), counts[what]);
        }
        due("jar in a text", tell(x, "jar 8;"), 1);
        due("no jar in the next", tell(x, "price 1;"), 1);
        due("it isn't told", x.count(6), 0);
    }

    private static void badText(String text, int kind, int place) {
        JarGuess x = new JarGuess();
        due(text, tell(x, text), -30 - kind);
        due(text + ": kind", x.fault(0), kind);
        due(text + ": place", x.fault(1), place);
    }

    private static void goodText(String text, int lines) {
        JarGuess x = new JarGuess();
        due(text, tell(x, text), lines);
        due(text + ": kind", x.fault(0), 0);
        due(text + ": place", x.fault(1), -1);
    }

    private static void fault() {
        badText("X;", 1, 0);
        badText("\tjar 1;", 1, 0);
        badText("jar\r1;", 1, 3);
        badText("jar 5,;", 1, 5);
        badText("jar \u00e9;", 1, 4);
        badText("jar 12345;", 1, 4);
        badText("jar 00005;", 1, 4);
        badText("12345", 1, 0);
        badText("gridX 1;", 1, 4);
        badText("x", 2, 0);
        badText(";", 2, 0);
        badText("5;", 2, 0);
        badText("jars 5;", 2, 0);
        badText("har 5;", 2, 0);
        badText("jat 5;", 2, 0);
        badText("ja 5;", 2, 0);
        badText("copy 5;", 2, 0);
        badText("jar;", 2, 3);
        badText("jar x;", 2, 4);
        badText("jar 5", 2, 5);
        badText("jar 5 \n ", 2, 8);
        badText("jar 5;;", 2, 6);
        badText("jar 5 5;", 2, 6);
        badText("grid 1;", 2, 6);
        badText("hidden hidden;", 2, 7);
        badText("guesser 1 1 copy;", 2, 16);
        badText("guesser 1 1 copy 1 copy 1;", 2, 19);
        badText("guesser 1 1 7;", 2, 12);
        badText("guesser 1 copy 1;", 2, 10);
        badText("jar 0;", 3, 4);
        badText("jar 1000;", 3, 4);
        badText("grid 0 5;", 3, 5);
        badText("grid 1000 1000;", 3, 5);
        badText("grid 5 4;", 3, 7);
        badText("grid 1 201;", 3, 7);
        badText("prior 1000 1;", 3, 6);
        badText("prior 999 9;", 3, 10);
        badText("guesser 0 1;", 3, 8);
        badText("guesser 201 1;", 3, 8);
        badText("guesser 200 21;", 3, 12);
        badText("guesser 200 20 copy 11;", 3, 20);
        badText("price 100;", 3, 6);
        badText("jar 0; X", 3, 4);
        badText("jar x 12345", 2, 4);
        String six = "guesser 1 0;guesser 1 0;guesser 1 0;guesser 1 0;guesser 1 0;guesser 1 0;";
        goodText(six, 6);
        badText(six + " guesser 0 0;", 4, 73);
        badText(six + "guesser", 4, 72);
        goodText("jar 0005;", 1);
        goodText("grid 1 200;grid 999 1198;prior 0 0;prior 999 8;price 0;prize 0;prize 9999;jar 1;jar 999;", 9);
        goodText("guesser 1 0 copy 0;guesser 200 20 copy 10;", 2);
        goodText(" \n", 0);
        JarGuess x = new JarGuess();
        tell(x, "jar 0;");
        due("not read", x.fete(1), -3);
        due("what was read counts", x.fault(0), 3);
        due("fault(2)", x.fault(2), -1);
        due("fault(-1)", x.fault(-1), -1);
        tell(x, "jar 1;");
        due("a good one", x.fault(0), 0);
        due("its place", x.fault(1), -1);
    }

    private static void guesser() {
        JarGuess x = hall();
        int[][] of = {{100, 1, 4, 2, 2}, {120, 2, 0, 1, 1}};
        for (int g = 0; g < 2; g++) {
            for (int what = 0; what < 5; what++) {
                due("guesser(" + g + "," + what + ")", x.guesser(g, what), of[g][what]);
            }
        }
        due("what 5", x.guesser(0, 5), -2);
        due("what -1", x.guesser(0, -1), -2);
        due("g 2", x.guesser(2, 0), -2);
        due("g -1", x.guesser(-1, 0), -2);
        x.strike(2);
        due("struck", x.guesser(1, 3), 0);
        due("none", x.guesser(1, 4), -1);
        due("the first", x.guesser(0, 4), 0);
    }

    private static void sight() {
        JarGuess x = told("guesser 90 2;guesser 200 0;");
        due("7", x.sight(0, 7), 6);
        due("1", x.sight(0, 1), 0);
        due("999", x.sight(0, 999), 899);
        due("999 by 200", x.sight(1, 999), 1998);
        due("0", x.sight(0, 0), -3);
        due("1000", x.sight(0, 1000), -3);
        due("g 2", x.sight(2, 5), -2);
        due("both", x.sight(-1, 0), -2);
    }

    private static void weight() {
        JarGuess x = told("grid 1 9;prior 5 2;");
        int[] of = {1, 3, 5, 7, 9, 7, 5, 3, 1};
        for (int t = 1; t <= 9; t++) {
            due("weight(" + t + ")", x.weight(t), of[t - 1]);
        }
        due("0", x.weight(0), -3);
        due("10", x.weight(10), -3);
        x = told("prior 5 8;");
        due("steep", x.weight(5), 9);
        due("a step", x.weight(6), 1);
        due("two steps", x.weight(3), 1);
        x = told("prior 5 8;prior 0 0;");
        due("level", x.weight(100), 9);
        due("flat", told("jar 5;").weight(5), 1);
        x = told("grid 999 1198;prior 999 1;");
        due("beyond 999", x.weight(1001), 7);
        due("high", x.weight(1198), 1);
        due("above", x.weight(1199), -3);
    }

    private static void jar() {
        JarGuess x = new JarGuess();
        due("7", x.jar(7), 0);
        due("1000", x.jar(1000), -3);
        due("-1", x.jar(-1), -3);
        due("999", x.jar(999), 7);
        due("0", x.jar(0), 999);
        due("count", x.count(6), 0);
        tell(x, "jar 5;");
        due("told", x.jar(1), 5);
    }

    private static void write() {
        JarGuess x = told("guesser 100 0;");
        due("no guesser, no number", x.write(1, -1), -2);
        due("-1", x.write(-1, 5), -2);
        due("below", x.write(0, -1), -3);
        due("above", x.write(0, 2001), -3);
        due("nothing written", x.count(1), 0);
        for (int i = 1; i <= 40; i++) {
            due("the " + i + ". one", x.write(0, i == 1 ? 0 : 2000), i);
        }
        due("first", x.list(0, 0), 0);
        due("last", x.list(39, 0), 2000);
        due("a 41st", x.write(0, 5), -4);
        due("a 41st that can't be", x.write(0, 2001), -3);
        due("a 41st of nobody", x.write(1, 5), -2);
    }

    private static void strike() {
        JarGuess x = hall();
        due("-1", x.strike(-1), -3);
        due("4", x.strike(4), -3);
        due("0", x.strike(0), 3);
        due("2", x.strike(2), 1);
        due("what is left", x.list(0, 0), 5);
        due("what is gone", x.list(1, 0), -2);
        due("1", x.strike(1), 0);
        due("0 of none", x.strike(0), 0);
        due("1 of none", x.strike(1), -3);
    }

    private static void list() {
        JarGuess x = hall();
        x.write(1, 2000);
        int[][] of = {{5, 0, -1, 1, 0}, {6, 1, 5, 0, 1}, {5, 0, 5, 1, 0}, {2000, 1, 5, 1994, 3}};
        for (int k = 0; k < of.length; k++) {
            for (int what = 0; what < 5; what++) {
                due("list(" + k + "," + what + ")", x.list(k, what), of[k][what]);
            }
        }
        due("k 4", x.list(4, 0), -2);
        due("k -1", x.list(-1, 0), -2);
        due("what 5", x.list(0, 5), -2);
        due("what -1", x.list(0, -1), -2);
        x.jar(0);
        due("not told", x.list(0, 3), -1);
        due("no goals", written("hidden;guesser 1 1;", 5, 6).list(1, 2), -1);
        due("a goal of 0", written("guesser 1 1;", 0, 6).list(1, 2), 0);
    }

    private static void judged(String call, JarGuess x, int row, int place, int why, int mean) {
        due(call + ": place", x.judge(row, 0), place);
        due(call + ": why", x.judge(row, 1), why);
        due(call + ": mean", x.judge(row, 2), mean);
    }

    private static void judge() {
        JarGuess x = hall();
        due("row 4", x.judge(4, 0), -2);
        due("row -1", x.judge(-1, 0), -2);
        due("what 3 of a missing one", x.judge(0, 3), -2);
        due("what -1", x.judge(0, -1), -2);
        due("missing", x.judge(3, 0), -6);
        row(x, 0, 3, 12000, 10009, 20001, 5);
        judged("guesser 2", x, 0, 2, 1, (5 + 6 + 5 + 2000 + 9) / 5);
        row(x, 0, 3, 7, 2001);
        judged("number", x, 0, 1, 1, 23 / 4);
        row(x, 0, 3, -1);
        judged("below 0", x, 0, 0, 1, 5);
        row(x, 0, 3, Long.MIN_VALUE);
        judged("far below 0", x, 0, 0, 1, 5);
        row(x, 0, 3, Long.MAX_VALUE);
        judged("far above", x, 0, 0, 1, 5);
        row(x, 0, 3, (1L << 32) + 5);
        judged("5 in its low half", x, 0, 0, 1, 5);
        row(x, 0, 0);
        judged("no numbers", x, 0, -1, 0, 5);
        due("nothing written", x.count(1), 3);
        x.strike(3);
        judged("nothing at all", x, 0, -1, 0, -1);
        row(x, 0, 1, 9999);
        judged("none good", x, 0, 0, 1, -1);
        for (int i = 0; i < 39; i++) {
            x.write(0, 4);
        }
        row(x, 0, 2, 44, 10003, 99999);
        judged("41", x, 0, 1, 2, (39 * 4 + 44) / 40);
        row(x, 0, 2, 44, 99999);
        judged("41, and it can't be", x, 0, 1, 1, (39 * 4 + 44) / 40);
        judged("without guessers", rowed(new JarGuess(), 0), 0, 0, 1, -1);
        x.strike(39);
        x.numbers(0, 2, 40);
        judged("40 good ones", x, 0, -1, 0, 0);
    }

    private static JarGuess rowed(JarGuess x, long... values) {
        row(x, 0, 3, values);
        return x;
    }

    private static void perform() {
        JarGuess x = hall();
        due("row 4", x.perform(4), -2);
        due("row -1", x.perform(-1), -2);
        due("missing", x.perform(1), -6);
        row(x, 1, 2, 12000, 9, 20001, 5);
        due("two of four", x.perform(1), 2);
        due("there are", x.count(1), 5);
        due("guesser", x.list(3, 1), 1);
        due("number", x.list(3, 0), 2000);
        due("guesser of the next", x.list(4, 1), 0);
        due("number of the next", x.list(4, 0), 9);
        row(x, 2, 0);
        due("none", x.perform(2), 0);
        x.numbers(3, 0, 40);
        due("up to 40", x.perform(3), 35);
        due("full", x.count(1), 40);
        due("none more", x.perform(3), 0);
    }

    private static void comers(String call, JarGuess x, int[]... due) {
        for (int k = 0; k < due.length; k++) {
            due(call + ": guesser " + k, x.list(k, 1), due[k][0]);
            due(call + ": number " + k, x.list(k, 0), due[k][1]);
        }
    }

    private static void come() {
        String three = "guesser 100 5;guesser 50 0 copy 5;guesser 200 20 copy 10;";
        JarGuess x = told(three);
        due("n 0", x.come(1, 0), -3);
        due("n 41", x.come(1, 41), -3);
        due("no jar", x.come(1, 1), -5);
        due("no jar, too many", x.come(1, 40), -5);
        x.jar(100);
        due("8", x.come(1, 8), 8);
        comers("seed 1", x, new int[][] {{2, 207}, {0, 100}, {2, 153}, {2, 153}, {1, 50}, {2, 132}, {1, 50}, {2, 120}});
        due("33 more", x.come(1, 33), -4);
        due("as it was", x.count(1), 8);
        due("32 more", x.come(-2, 32), 40);
        x.strike(40);
        x.come(-7, 8);
        comers("seed -7", x, new int[][] {{1, 50}, {1, 50}, {1, 50}, {0, 105}, {1, 63}, {2, 63}, {1, 63}, {2, 63}});
        x = told(three + "hidden;jar 100;");
        x.come(1, 8);
        comers("hidden", x, new int[][] {{2, 207}, {0, 100}, {2, 206}, {0, 102}, {0, 101}, {1, 50}, {2, 218}, {0, 99}});
        x = told("guesser 200 20;jar 999;");
        x.come(3, 3);
        comers("2000 at most", x, new int[][] {{0, 2000}, {0, 1989}, {0, 1984}});
        x = told("guesser 1 20;jar 10;");
        x.come(3, 6);
        comers("0 at least", x, new int[][] {{0, 13}, {0, 0}, {0, 0}, {0, 0}, {0, 0}, {0, 3}});
        due("no guessers", told("jar 5;").come(1, 1), -5);
    }

    private static void leader() {
        JarGuess x = hall();
        due("5", x.leader(5), 0);
        due("6", x.leader(6), 1);
        due("1", x.leader(1), 0);
        due("999", x.leader(999), 1);
        due("0", x.leader(0), -3);
        due("1000", x.leader(1000), -3);
        due("a tie", written("guesser 1 1;", 8, 4).leader(6), 0);
        due("nobody", new JarGuess().leader(5), -1);
        due("nobody, 0", new JarGuess().leader(0), -3);
    }

    private static void winner() {
        JarGuess x = hall();
        due("6", x.winner(), 1);
        x.jar(5);
        due("5", x.winner(), 0);
        x.jar(0);
        due("not told", x.winner(), -5);
        x.jar(5);
        x.strike(3);
        due("nobody", x.winner(), -1);
        x.jar(0);
        due("nobody, not told", x.winner(), -5);
    }

    private static void wins() {
        JarGuess x = hall();
        int[][] of = {{5, 1, 5, 25}, {4, 6, 9, 16}, {0, -1, -1, 0}};
        for (int k = 0; k < of.length; k++) {
            for (int what = 0; what < 4; what++) {
                due("wins(" + k + "," + what + ")", x.wins(k, what), of[k][what]);
            }
        }
        due("k 3", x.wins(3, 0), -2);
        due("k -1", x.wins(-1, 0), -2);
        due("what 4", x.wins(0, 4), -2);
        due("what -1", x.wins(0, -1), -2);
        x = written("grid 5 9;guesser 1 1;", 8, 4, 2000, 0);
        due("a tie at 6 is the earlier's", x.wins(0, 1), 6);
        due("off the grid", x.wins(1, 2), 5);
        due("too far", x.wins(2, 0), 0);
        due("behind 4", x.wins(3, 2), -1);
    }

    private static void mean() {
        JarGuess x = written("guesser 1 1;", 9, 2, 8, 4, 5, 6, 7, 3, 1, 1000);
        int[] of = {104, 5, 5, 1, 1000};
        for (int what = 0; what < 5; what++) {
            due("mean(" + what + ")", x.mean(what), of[what]);
        }
        due("5", x.mean(5), -2);
        due("-1", x.mean(-1), -2);
        x.strike(1);
        due("the middle of nine", x.mean(1), 5);
        x.strike(5);
        due("the mean of four", x.mean(0), 5);
        due("of the first four", x.mean(2), 5);
        due("the middle of four", x.mean(1), 4);
        x = new JarGuess();
        for (int what = 0; what < 5; what++) {
            due("none: mean(" + what + ")", x.mean(what), -1);
        }
        due("none: mean(5)", x.mean(5), -2);
        due("alike ones", written("guesser 1 1;", 7, 3, 7, 3).mean(1), 3);
        x = written("guesser 1 1;", 9);
        for (int what = 0; what < 5; what++) {
            due("one: mean(" + what + ")", x.mean(what), 9);
        }
        x.write(0, 4);
        due("two: the middle", x.mean(1), 4);
        due("two: the least", x.mean(3), 4);
        due("two: the greatest", x.mean(4), 9);
        due("the middle ahead", written("guesser 1 1;", 5, 9, 1).mean(1), 5);
    }

    private static void nearest() {
        JarGuess x = written("guesser 1 1;", 1, 2, 3, 4, 5, 6, 7, 8, 9, 1000);
        due("not told", x.nearest(), -5);
        x.jar(104);
        due("the mean", x.nearest(), 0);
        x.jar(5);
        due("the middle, of three", x.nearest(), 1);
        x.jar(6);
        due("the guess", x.nearest(), 3);
        x = written("jar 17;guesser 1 1;", 0, 0, 0, 0, 0, 40, 40, 40, 40, 900);
        due("the first nine", x.nearest(), 2);
        x.strike(10);
        due("none", x.nearest(), -1);
        x.jar(0);
        due("none, not told", x.nearest(), -5);
        due("all alike", written("jar 9;guesser 1 1;", 5).nearest(), 0);
    }

    private static void odds() {
        JarGuess x = hall();
        long[][] of = {{7, 70, 700, 12600}, {9, 90, 900, 16200}, {7, 70, 700, 12600}, {5, 0, 0, 0}};
        for (int t = 4; t <= 7; t++) {
            for (int m = 0; m < 4; m++) {
                due("odds(" + t + "," + m + ")", x.odds(t, m), of[t - 4][m]);
            }
        }
        due("t 0", x.odds(0, 0), -3);
        due("t 10", x.odds(10, 0), -3);
        due("m 4", x.odds(5, 4), -3);
        due("m -1", x.odds(5, -1), -3);
        x.write(0, 5);
        x.write(0, 5);
        due("m 4 of five", x.odds(5, 4), 16200 * 18);
        due("m 5 of five", x.odds(5, 5), -3);
        due("hidden", written("hidden;guesser 100 1 copy 10;", 5, 5).odds(6, 2), 100);
        due("all copied", written("guesser 100 1 copy 10;", 5, 5).odds(6, 2), 300);
        due("far, but copied", written("guesser 100 1 copy 10;guesser 100 1;", 5, 7, 6).odds(6, 3), 0);
        x = told("guesser 100 1 copy 5;guesser 100 20;");
        x.write(1, 5);
        x.write(0, 5);
        due("copied and not seen", x.odds(20, 2), 10 * 15);
        due("copied or seen", x.odds(6, 2), 10 * 20);
        x = written("grid 999 1198;guesser 200 20;", 2000);
        due("sight beyond 1998", x.odds(1010, 1), 10);
        due("and too far", x.odds(1011, 1), 0);
    }

    private static void out() {
        JarGuess x = hall();
        long[] of = {41, 230, 2300, 41400};
        for (int m = 0; m < 4; m++) {
            due("out(" + m + ")", x.out(m), of[m]);
        }
        due("m 4", x.out(4), -3);
        due("m -1", x.out(-1), -3);
        x.write(0, 9);
        due("m 4 of four", x.out(4), 0);
        x = written("grid 1 20;prior 10 0;guesser 1 20 copy 10;", 0, 0, 0, 0);
        due("the most", x.out(4), 20L * 9 * 10 * 410 * 410 * 410);
        due("200 numbers", told("grid 999 1198;").out(0), 200);
        due("200 numbers, steep", told("grid 800 999;prior 999 8;").out(0), 208);
    }

    private static void likeliest() {
        JarGuess x = hall();
        due("m 0", x.likeliest(0), 5);
        due("m 3", x.likeliest(3), 5);
        due("m 4", x.likeliest(4), -3);
        due("m -1", x.likeliest(-1), -3);
        x.write(0, 9);
        due("none", x.likeliest(4), -1);
        due("the least", written("guesser 100 2;", 50).likeliest(1), 48);
        due("the last", written("guesser 100 0;", 100).likeliest(1), 100);
        due("the first", written("guesser 100 0;", 1).likeliest(1), 1);
    }

    private static void span() {
        JarGuess x = hall();
        int[][] of = {{1, 9, 9}, {4, 6, 3}, {4, 6, 3}, {4, 6, 3}, {-1, -1, 0}};
        x.write(0, 9);
        for (int m = 0; m <= 4; m++) {
            for (int what = 0; what < 3; what++) {
                due("span(" + m + "," + what + ")", x.span(m, what), of[m][what]);
            }
        }
        due("what 3", x.span(0, 3), -2);
        due("what -1", x.span(0, -1), -2);
        due("m 5", x.span(5, 0), -3);
        due("both", x.span(5, 3), -2);
    }

    private static void expect() {
        JarGuess x = told("grid 3 6;");
        due("whole", x.expect(0, 0), 4);
        due("rest", x.expect(0, 1), 2);
        due("half", x.expect(0, 2), 4);
        x = told("grid 3 7;prior 7 8;");
        due("whole", x.expect(0, 0), (18 + 63) / 13);
        due("rest", x.expect(0, 1), (18 + 63) % 13);
        due("half", x.expect(0, 2), 7);
        due("half by the first", told("grid 3 7;prior 3 8;").expect(0, 2), 3);
        x = told("grid 7 7;");
        due("one number", x.expect(0, 0), 7);
        due("one number, rest", x.expect(0, 1), 0);
        due("one number, half", x.expect(0, 2), 7);
        x = hall();
        x.write(0, 9);
        due("m 3", x.expect(3, 0), 5);
        due("m 3, rest", x.expect(3, 1), 0);
        due("m 3, half", x.expect(3, 2), 5);
        for (int what = 0; what < 3; what++) {
            due("none: expect(4," + what + ")", x.expect(4, what), -1);
        }
        due("what 3", x.expect(4, 3), -2);
        due("what -1", x.expect(4, -1), -2);
        due("m 5", x.expect(5, 0), -3);
        due("both", x.expect(5, 3), -2);
    }

    private static void copied() {
        JarGuess x = hall();
        due("the third", x.copied(2, 3), 27600);
        due("the second", x.copied(1, 3), 0);
        due("the first", x.copied(0, 3), 0);
        due("k 3", x.copied(3, 3), -2);
        due("k 2 of 2", x.copied(2, 2), -2);
        due("k -1", x.copied(-1, 3), -2);
        due("m 4", x.copied(0, 4), -3);
        due("both", x.copied(9, 9), -3);
        due("m 0", x.copied(0, 0), -2);
        due("hidden", written("hidden;guesser 100 1 copy 10;", 5, 5).copied(1, 2), 0);
        x = written("grid 5 5;guesser 100 0 copy 5;", 5, 5, 5);
        due("by goal alone", x.copied(1, 3), 500);
    }

    private static void copier() {
        JarGuess x = hall();
        due("m 3", x.copier(3), 2);
        due("m 2", x.copier(2), -1);
        due("m 0", x.copier(0), -1);
        due("m 4", x.copier(4), -3);
        due("m -1", x.copier(-1), -3);
        due("the first of like ones", written("grid 5 5;guesser 100 0 copy 5;", 5, 5, 5).copier(3), 1);
        x = told("grid 5 5;guesser 100 0 copy 1;guesser 100 0 copy 9;");
        x.write(0, 5);
        x.write(0, 5);
        x.write(1, 5);
        due("the likelier", x.copier(3), 2);
    }

    private static void chance() {
        JarGuess x = hall();
        int[][] of = {{0, 4}, {3, 9}, {4, 16}, {5, 0}, {6, 0}, {7, 9}, {8, 4}, {2000, 0}};
        for (int[] one : of) {
            due("chance(" + one[0] + ",0)", x.chance(one[0], 0), one[1]);
        }
        due("by m", x.chance(4, 3), 12600);
        due("v -1", x.chance(-1, 0), -3);
        due("v 2001", x.chance(2001, 0), -3);
        due("m 4", x.chance(4, 4), -3);
        due("nobody else", told(HALL).chance(2000, 0), 41);
    }

    private static void best() {
        JarGuess x = hall();
        due("v", x.best(0, 0), 4);
        due("its ways", x.best(0, 1), 16);
        due("v by 3", x.best(3, 0), 4);
        due("its ways by 3", x.best(3, 1), 12600);
        due("what 2", x.best(0, 2), -2);
        due("what -1", x.best(0, -1), -2);
        due("m 4", x.best(4, 0), -3);
        due("both", x.best(4, 2), -2);
        x = told(HALL);
        due("the least", x.best(0, 0), 1);
        due("all", x.best(0, 1), 41);
        x = written("grid 7 7;guesser 100 0;", 7);
        due("nothing left: v", x.best(0, 0), 7);
        due("nothing left", x.best(0, 1), 0);
    }

    private static void bestTwo() {
        JarGuess x = hall();
        long[] of = {4, 7, 25};
        long[] by3 = {1, 4, 12600};
        for (int what = 0; what < 3; what++) {
            due("bestTwo(0," + what + ")", x.bestTwo(0, what), of[what]);
            due("bestTwo(3," + what + ")", x.bestTwo(3, what), by3[what]);
        }
        due("what 3", x.bestTwo(0, 3), -2);
        due("what -1", x.bestTwo(0, -1), -2);
        due("m 4", x.bestTwo(4, 0), -3);
        x = told(HALL);
        due("v", x.bestTwo(0, 0), 1);
        due("w", x.bestTwo(0, 1), 2);
        due("all, once", x.bestTwo(0, 2), 41);
        x = told("grid 7 7;");
        due("one number", x.bestTwo(0, 0), -5);
        due("one number, m", x.bestTwo(1, 0), -3);
        due("one number, what", x.bestTwo(1, 3), -2);
    }

    private static void behind() {
        JarGuess x = told(HALL);
        long[] first = {5, 25, 4, 16};
        long[] fourth = {2, 9, 7, 9};
        JarGuess y = hall();
        for (int what = 0; what < 4; what++) {
            due("empty: behind(0," + what + ")", x.behind(0, what), first[what]);
            due("behind(0," + what + ")", y.behind(0, what), fourth[what]);
        }
        due("what 4", x.behind(0, 4), -2);
        due("what -1", x.behind(0, -1), -2);
        due("m 1", x.behind(1, 0), -3);
        due("both", x.behind(1, 4), -2);
        x = told("grid 7 7;");
        due("one number: mine", x.behind(0, 1), 1);
        due("one number: she", x.behind(0, 2), 7);
        due("one number: hers", x.behind(0, 3), 0);
        x = told("grid 1 3;");
        due("a tie is mine: v", x.behind(0, 0), 2);
        due("a tie is mine", x.behind(0, 1), 2);
    }

    private static void waits() {
        JarGuess x = told(HALL);
        due("wait", x.waits(0, 0), 1);
        due("mine", x.waits(0, 1), 40);
        due("what 2", x.waits(0, 2), -2);
        due("what -1", x.waits(0, -1), -2);
        due("m 1", x.waits(1, 0), -3);
        due("both", x.waits(1, 2), -2);
        x = hall();
        due("don't", x.waits(0, 0), 0);
        due("mine then", x.waits(0, 1), 9);
        x = told("grid 1 2;");
        due("alike: don't", x.waits(0, 0), 0);
        due("alike", x.waits(0, 1), 1);
        x = written("grid 1 3;prior 1 3;guesser 1 1;", 3);
        due("as good as mine, better than hers", x.waits(0, 0), 0);
        due("as good as mine", x.waits(0, 1), 9);
    }

    private static void waysOf() {
        JarGuess x = hall();
        long[][] of = {{25, 28800}, {16, 12600}, {0, 0}};
        for (int k = 0; k < 3; k++) {
            due("waysOf(" + k + ",0)", x.waysOf(k, 0), of[k][0]);
            due("waysOf(" + k + ",3)", x.waysOf(k, 3), of[k][1]);
        }
        due("k 3", x.waysOf(3, 0), -2);
        due("k -1", x.waysOf(-1, 0), -2);
        due("m 4", x.waysOf(0, 4), -3);
        due("both", x.waysOf(3, 4), -2);
    }

    private static void shutIn() {
        JarGuess x = hall();
        x.write(0, 10);
        long[][] of = {{9, 16200}, {7, 12600}, {0, 0}, {0, 0}};
        for (int k = 0; k < 4; k++) {
            due("shutIn(" + k + ",0)", x.shutIn(k, 0), of[k][0]);
            due("shutIn(" + k + ",3)", x.shutIn(k, 3), of[k][1]);
        }
        due("k 4", x.shutIn(4, 0), -2);
        due("k -1", x.shutIn(-1, 0), -2);
        due("m 5", x.shutIn(0, 5), -3);
        due("both", x.shutIn(4, 5), -2);
    }

    private static void gain() {
        JarGuess x = hall();
        long[][] of = {{0, 0}, {197, 127800}, {254, 3600}};
        for (int k = 0; k < 3; k++) {
            due("gain(" + k + ",0)", x.gain(k, 0), of[k][0]);
            due("gain(" + k + ",3)", x.gain(k, 3), of[k][1]);
        }
        due("k 3", x.gain(3, 0), -3);
        due("k -1", x.gain(-1, 0), -3);
        due("m 4", x.gain(0, 4), -3);
        x = told("grid 7 7;price 99;prize 10;");
        due("one number", x.gain(2, 0), -5);
        due("one number, m", x.gain(2, 1), -3);
        due("a loss", x.gain(1, 0), -89);
    }

    private static void buys() {
        JarGuess x = hall();
        due("two", x.buys(0), 2);
        due("one", x.buys(3), 1);
        due("m 4", x.buys(4), -3);
        due("m -1", x.buys(-1), -3);
        due("none", told("price 99;prize 98;").buys(0), 0);
        due("the fewest of like ones", told("price 0;prize 0;").buys(0), 0);
        due("one as good as two", told("price 0;prize 9;").buys(0), 1);
        due("one number", told("grid 7 7;price 0;").buys(0), 1);
        due("for a coin", told("grid 7 7;price 0;prize 1;").buys(0), 1);
    }

    private static void game() {
        int[][] hall = {{1, 41}, {5, 4, 25, 16}, {3, 6, 5, 16, 16, 9}};
        int[][] flat = {{1, 24}, {12, 13, 12, 12}, {18, 6, 7, 12, 6, 6}};
        int[][] one = {{4, 9}, {4, 4, 9, 0}, {4, 4, 4, 9, 0, 0}};
        JarGuess x = hall();
        JarGuess y = written("grid 1 24;guesser 1 1;", 12, 13);
        JarGuess z = told("grid 4 4;prior 4 1;");
        for (int n = 1; n <= 3; n++) {
            for (int i = 0; i < 2 * n; i++) {
                int what = i < n ? i : 10 + i - n;
                due("hall: game(" + n + "," + what + ")", x.game(n, what), hall[n - 1][i]);
                due("flat: game(" + n + "," + what + ")", y.game(n, what), flat[n - 1][i]);
                due("one: game(" + n + "," + what + ")", z.game(n, what), one[n - 1][i]);
            }
            due("what n", x.game(n, n), -2);
            due("what 10 + n", x.game(n, 10 + n), -2);
            due("what -1", x.game(n, -1), -2);
            due("what 9", x.game(n, 9), -2);
        }
        due("n 0", x.game(0, 0), -3);
        due("n 4", x.game(4, 9), -3);
        x = told("grid 1 25;");
        due("25", x.game(1, 0), -4);
        due("25, what", x.game(1, 1), -2);
        due("25, n", x.game(0, 0), -3);
        due("nothing is written", y.count(1), 2);
    }

    private static void alone() {
        JarGuess x = told("guesser 100 2;guesser 100 0;guesser 1 20;");
        long[][] of = {{1, 3, 5}, {5, 19, 25}, {19, 105, 125}, {85, 555, 625}, {381, 2873, 3125}, {1751, 14713, 15625},
            {8135, 74805, 78125}, {38165, 378475, 390625}};
        for (int n = 1; n <= 8; n++) {
            for (int d = 0; d <= 2; d++) {
                due("alone(0," + n + "," + d + ")", x.alone(0, n, d), of[n - 1][d]);
            }
            due("no spread", x.alone(1, n, 0), 1);
        }
        due("the most", x.alone(2, 8, 20), 41L * 41 * 41 * 41 * 41 * 41 * 41 * 41);
        due("again", x.alone(0, 2, 0), 5);
        due("g", x.alone(3, 0, 0), -2);
        due("n 0", x.alone(0, 0, 0), -3);
        due("n 9", x.alone(0, 9, 0), -3);
        due("d -1", x.alone(0, 1, -1), -3);
        due("d 21", x.alone(0, 1, 21), -3);
    }

    private static void fewest() {
        JarGuess x = told("guesser 100 2;guesser 100 0;");
        int[][] of = {{0, 1}, {60, 1}, {61, 2}, {76, 2}, {77, 3}, {84, 3}, {85, 4}, {88, 4}, {89, 5}, {96, 8}, {97, -1}};
        for (int[] one : of) {
            due("fewest(0,1," + one[0] + ")", x.fewest(0, 1, one[0]), one[1]);
        }
        due("20", x.fewest(0, 0, 20), 1);
        due("21", x.fewest(0, 0, 21), -1);
        due("no spread", x.fewest(1, 0, 100), 1);
        due("d 20", x.fewest(0, 20, 100), 1);
        due("g", x.fewest(2, -1, 0), -2);
        due("d -1", x.fewest(0, -1, 0), -3);
        due("d 21", x.fewest(0, 21, 0), -3);
        due("p -1", x.fewest(0, 0, -1), -3);
        due("p 101", x.fewest(0, 0, 101), -3);
    }

    private static void fetes() {
        JarGuess x = told("guesser 100 5;guesser 50 0 copy 5;guesser 200 20 copy 10;");
        due("what 3", x.fetes(1, 0, 0, true, 3), -2);
        due("what -1", x.fetes(1, 1, 1, true, -1), -2);
        due("many 0", x.fetes(1, 0, 1, true, 0), -3);
        due("many 41", x.fetes(1, 41, 1, true, 0), -3);
        due("n 0", x.fetes(1, 1, 0, true, 0), -3);
        due("n 31", x.fetes(1, 1, 31, true, 0), -3);
        due("no jar", x.fetes(1, 1, 1, true, 0), -5);
        due("no guessers", told("jar 5;").fetes(1, 1, 1, true, 0), -5);
        x.jar(100);
        x.write(0, 100);
        int[][] shown = {{1592, 1028, 1}, {29, 0, 0}};
        int[][] hidden = {{1826, 896, 4}, {29, 1, 0}};
        for (int what = 0; what < 3; what++) {
            due("40 shown: " + what, x.fetes(5, 40, 3, true, what), shown[0][what]);
            due("40 hidden: " + what, x.fetes(5, 40, 3, false, what), hidden[0][what]);
            due("1 shown: " + what, x.fetes(5, 1, 30, true, what), shown[1][what]);
            due("1 hidden: " + what, x.fetes(5, 1, 30, false, what), hidden[1][what]);
        }
        due("the list stays", x.count(1), 1);
        x = told("hidden;guesser 130 20 copy 3;guesser 70 20 copy 3;jar 100;");
        int[] asked = {678, 642, 10};
        for (int what = 0; what < 3; what++) {
            due("shown as asked: " + what, x.fetes(11, 40, 4, true, what), asked[what]);
        }
        due("beaten, hidden", x.fetes(11, 40, 4, false, 2), 25);
    }

    private static void holds() {
        JarGuess x = new JarGuess();
        due("one", x.holds(1, 1, 0), 7);
        due("two", x.holds(2, 1, 0), 8);
        due("three", x.holds(3, 2, 10), 41);
        due("the most", x.holds(99, 30, 0), 267489);
        due("much air", x.holds(99, 30, 99), 2675);
        due("one is left", x.holds(1, 1, 99), 1);
        due("layers 0", x.holds(0, 1, 0), -3);
        due("layers 100", x.holds(100, 1, 0), -3);
        due("rings 0", x.holds(1, 0, 0), -3);
        due("rings 31", x.holds(1, 31, 0), -3);
        due("air -1", x.holds(1, 1, -1), -3);
        due("air 100", x.holds(1, 1, 100), -3);
    }

    private static void layersFor() {
        JarGuess x = new JarGuess();
        due("1", x.layersFor(1, 1, 0), 1);
        due("7", x.layersFor(7, 1, 0), 1);
        due("8", x.layersFor(8, 1, 0), 2);
        due("9", x.layersFor(9, 1, 0), 3);
        due("9999", x.layersFor(9999, 30, 0), 4);
        due("by 99", x.layersFor(399, 1, 0), 99);
        due("not by 99", x.layersFor(400, 1, 0), -1);
        due("0", x.layersFor(0, 1, 0), -3);
        due("10000", x.layersFor(10000, 30, 0), -3);
        due("rings 0", x.layersFor(1, 0, 0), -3);
        due("rings 31", x.layersFor(1, 31, 0), -3);
        due("air -1", x.layersFor(1, 1, -1), -3);
        due("air 100", x.layersFor(1, 1, 100), -3);
    }

    private static void numbers() {
        JarGuess x = told("guesser 1 1;");
        due("row 4", x.numbers(4, 0, 1), -2);
        due("row -1", x.numbers(-1, 0, 1), -2);
        due("sort 4", x.numbers(0, 4, 1), -2);
        due("sort -1", x.numbers(0, -1, 41), -2);
        due("made", x.numbers(0, 2, 3), 0);
        x.put(0, 0, 9);
        x.put(0, 1, 99999);
        due("n 41", x.numbers(0, 0, 41), -3);
        due("n -1", x.numbers(0, 0, -1), -3);
        due("the row stays", x.judge(0, 0), 1);
        due("its sort stays", x.put(0, 2, 300), 300);
        due("in its place", x.numbers(0, 0, 3), 0);
        due("all 0", x.judge(0, 0), -1);
        due("all 0, their mean", x.judge(0, 2), 0);
        due("of the new sort", x.put(0, 2, 300), 44);
        due("n 40", x.numbers(3, 3, 40), 0);
        due("its last", x.put(3, 39, 5), 5);
        due("n 0", x.numbers(3, 3, 0), 0);
        due("no numbers", x.put(3, 0, 5), -7);
        due("another is missing", x.put(1, 0, 5), -6);
    }

    private static void put() {
        JarGuess x = new JarGuess();
        for (int sort = 0; sort < 4; sort++) {
            x.numbers(sort, sort, 2);
        }
        long[][] of = {{0, 127, 127}, {0, 128, -128}, {0, -129, 127}, {0, 256, 0}, {1, 40000, -25536}, {1, -1, -1},
            {1, 65536, 0}, {2, (1L << 32) + 5, 5}, {2, 1L << 31, Integer.MIN_VALUE}, {3, 1L << 40, 1L << 40},
            {3, Long.MIN_VALUE, Long.MIN_VALUE}};
        for (long[] one : of) {
            due("put(" + one[0] + ",1," + one[1] + ")", x.put((int) one[0], 1, one[1]), one[2]);
        }
        due("i 2", x.put(0, 2, 1), -7);
        due("i -1", x.put(0, -1, 1), -7);
        due("row 4", x.put(4, 0, 1), -2);
        due("row -1", x.put(-1, 0, 1), -2);
        due("missing", new JarGuess().put(0, -1, 1), -6);
    }

    private static void copy() {
        JarGuess x = written("guesser 1 1;", 300, 5, 77);
        due("row 4", x.copy(4), -2);
        due("row -1", x.copy(-1), -2);
        due("missing", x.copy(0), -6);
        x.numbers(0, 0, 2);
        due("two places", x.copy(0), 2);
        x.numbers(1, 1, 5);
        x.put(1, 3, 8);
        due("five places", x.copy(1), 3);
        x.numbers(2, 1, 0);
        due("no places", x.copy(2), 0);
        x.perform(0);
        x.perform(1);
        int[] numbers = {300, 5, 77, 44, 5, 300, 5, 77, 8, 0};
        due("all", x.count(1), numbers.length);
        for (int k = 0; k < numbers.length; k++) {
            due("number " + k, x.list(k, 0), numbers[k]);
        }
    }

    private static int[] glance(JarGuess x) {
        int[] seen = new int[60];
        int at = 0;
        for (int what = 0; what <= 11; what++) {
            seen[at++] = what == 8 ? 0 : x.count(what);
        }
        for (int g = 0; g < 3; g++) {
            for (int what = 0; what < 5; what++) {
                seen[at++] = x.guesser(g, what);
            }
        }
        for (int k = 0; k < 4; k++) {
            for (int what = 0; what < 5; what++) {
                seen[at++] = x.list(k, what);
            }
        }
        seen[at++] = x.weight(5);
        seen[at] = x.weight(3);
        return seen;
    }

    private static void image() {
        JarGuess x = hall();
        due("2", x.image(2), -2);
        due("-1", x.image(-1), -2);
        int[] first = glance(x);
        due("0", x.image(0), 0);
        x.strike(3);
        x.write(1, 9);
        x.jar(9);
        due("it stays apart", x.restore(0), 0);
        due("as it was", Arrays.equals(glance(x), first) ? 1 : 0, 1);
        x.strike(2);
        int[] second = glance(x);
        due("in its place", x.image(0), 0);
        x.fete(0);
        x.restore(0);
        due("the later one", Arrays.equals(glance(x), second) ? 1 : 0, 1);
    }

    private static void restore() {
        JarGuess x = hall();
        due("2", x.restore(2), -2);
        due("-1", x.restore(-1), -2);
        due("none", x.restore(1), -5);
        x.jar(8);
        int[] first = glance(x);
        x.image(1);
        due("none of the other", x.restore(0), -5);
        tell(x, "hidden;guesser 7 7 copy 7;guesser 1 1;guesser 2 2;grid 5 50;prior 9 1;jar 3;price 1;prize 2;");
        x.write(2, 44);
        int[] second = glance(x);
        x.image(0);
        tell(x, "jar 0;");
        x.feed(0x20202020, 0x20202020, 0x20202020, 0x20202020, 0x20202020);
        x.numbers(0, 0, 1);
        due("1", x.restore(1), 0);
        due("as it was", Arrays.equals(glance(x), first) ? 1 : 0, 1);
        due("0", x.restore(0), 0);
        due("as it was then", Arrays.equals(glance(x), second) ? 1 : 0, 1);
        due("1 again", x.restore(1), 0);
        due("as at first", Arrays.equals(glance(x), first) ? 1 : 0, 1);
        due("the tape stays", x.count(8), 20);
        due("the fault stays", x.fault(0), 3);
        due("the row stays", x.put(0, 0, 1), 1);
    }

    private static void count() {
        JarGuess x = hall();
        x.feed(0, 0, 0, 0, 0);
        int[] of = {2, 3, 1, 9, 3, 20, 6, 0, 20, 7, 2, 9};
        for (int what = 0; what < of.length; what++) {
            due("count(" + what + ")", x.count(what), of[what]);
        }
        due("12", x.count(12), -1);
        due("-1", x.count(-1), -1);
        due("hidden", told("hidden;hidden;").count(7), 1);
    }
}
