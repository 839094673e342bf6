import java.util.ArrayList;
import java.util.Arrays;
import java.util.List;

/** What the tests by sentence share: objects in a known state, what is due, and what a call must leave alone. */
abstract class Bench {
    static final int LEAST = Integer.MIN_VALUE;
    static final int MOST = Integer.MAX_VALUE;
    static final String BLANKS = " ".repeat(20);
    /** Two guessers, weights 1 3 5 7 9 7 5 3 1, price 3, prize 20, 6 in the jar. */
    static final String HALL = "grid 1 9;prior 5 2;guesser 100 1 copy 4;guesser 120 2;price 3;prize 20;jar 6;";
    static final String SIX = "guesser 11 1;guesser 22 2 copy 1;guesser 33 3;guesser 44 4;guesser 55 5;guesser 66 6;";

    interface State {
        JarGuess make();
    }

    interface Call {
        long on(JarGuess x);
    }

    interface CallOf {
        long on(JarGuess x, int a);
    }

    /** Each is a section of the document and words of it that a test stands for. */
    static final List<String[]> QUOTES = new ArrayList<>();
    static int wrong = 0;
    static int answers = 0;
    private static String section = "";
    private static String words = "";

    static void section(String name) {
        section = name;
    }

    static void promise(int number) {
        section = "Promise " + number;
    }

    static void says(String quote, Runnable test) {
        words = quote;
        QUOTES.add(new String[] {section, quote});
        int before = answers;
        try {
            test.run();
        } catch (RuntimeException e) {
            fail("a call threw " + e);
        }
        if (answers == before) {
            fail("nothing was asked");
        }
    }

    static void fail(String what) {
        wrong++;
        System.out.println(section + (words.isEmpty() ? "" : ", '" + words + "'") + ": " + what);
    }

    static void due(String call, long got, long want) {
        answers++;
        if (got != want) {
            fail(call + " answered " + got + ", due is " + want);
        }
    }

    static void dueAll(String call, long[] got, long... want) {
        answers++;
        if (!Arrays.equals(got, want)) {
            fail(call + " answered " + Arrays.toString(got) + ", due is " + Arrays.toString(want));
        }
    }

    // ---- objects in a known state

    static void feedText(JarGuess x, String text) {
        for (int i = 0; i < text.length(); i += 20) {
            feedBytes(x, (text.substring(i) + BLANKS).substring(0, 20));
        }
    }

    static int feedBytes(JarGuess x, String twenty) {
        int[] a = new int[5];
        for (int i = 0; i < 20; i++) {
            a[i / 4] = a[i / 4] << 8 | twenty.charAt(i) & 255;
        }
        return x.feed(a[0], a[1], a[2], a[3], a[4]);
    }

    static int tell(JarGuess x, String text) {
        feedText(x, text);
        return x.fete(text.length());
    }

    static JarGuess told(String text) {
        JarGuess x = new JarGuess();
        int lines = tell(x, text);
        if (lines < 0) {
            fail("the test's own text " + text + " was refused with " + lines);
        }
        return x;
    }

    /** All by the first guesser. */
    static JarGuess written(String text, int... numbers) {
        JarGuess x = told(text);
        for (int v : numbers) {
            if (x.write(0, v) < 0) {
                fail("the test's own number " + v + " was refused");
            }
        }
        return x;
    }

    static JarGuess wrote(JarGuess x, int... guessersAndNumbers) {
        for (int i = 0; i + 1 < guessersAndNumbers.length; i += 2) {
            if (x.write(guessersAndNumbers[i], guessersAndNumbers[i + 1]) < 0) {
                fail("the test's own number " + guessersAndNumbers[i + 1] + " was refused");
            }
        }
        return x;
    }

    static JarGuess hall() {
        return wrote(told(HALL), 0, 5, 1, 6, 0, 5);
    }

    /** The hall's fete with 5, 6, 5, 5 and 9 on the list. */
    static JarGuess five() {
        return wrote(hall(), 0, 5, 0, 9);
    }

    /** Nothing that there can be fits the fourth guess. */
    static JarGuess unfit() {
        return wrote(hall(), 0, 9);
    }

    static JarGuess full() {
        JarGuess x = told(HALL);
        for (int i = 0; i < 40; i++) {
            x.write(i % 2, i);
        }
        return x;
    }

    /** Something of everything: row 1 is missing, image 1 isn't made, the latest text had a fault. */
    static JarGuess busy() {
        JarGuess x = wrote(told("grid 3 8;hidden;price 1;prize 2;jar 4;" + SIX), 5, 2000, 3, 0);
        x.image(0);
        tell(x, HALL);
        wrote(x, 0, 5, 1, 6, 0, 5);
        row(x, 0, 2, 10005, 25);
        row(x, 2, 0, 1, 2, 3);
        row(x, 3, 3);
        tell(x, "jar 0;");
        feedText(x, "price 77;hidden;jar 8;");
        return x;
    }

    static JarGuess row(JarGuess x, int row, int sort, long... values) {
        x.numbers(row, sort, values.length);
        for (int i = 0; i < values.length; i++) {
            x.put(row, i, values[i]);
        }
        return x;
    }

    // ---- what a call must leave alone

    /** The answer is due, and all that can be seen of the object is as if it had not been asked. */
    static void asked(String call, State state, Call made, long want) {
        JarGuess x = state.make();
        due(call, made.on(x), want);
        dueAll("after " + call + " a look", look(x), look(state.make()));
    }

    static void refused(String call, State state, Call made, long code) {
        asked(call, state, made, code);
    }

    /** The numbers from least to most are taken; those on either side, and the farthest, are refused. */
    static void bounds(String call, State state, CallOf made, int least, int most, long code) {
        for (int a : new int[] {LEAST, least - 1, most + 1, MOST}) {
            refused(call + " with " + a, state, x -> made.on(x, a), code);
        }
        for (int a : new int[] {least, most}) {
            answers++;
            long got = made.on(state.make(), a);
            if (got <= -2) {
                fail(call + " with " + a + " is refused with " + got);
            }
        }
    }

    /** m goes from 0 to 4, and not above how many guesses there are. */
    static void countedBy(String call, CallOf made) {
        bounds(call + " of no guesses", () -> told(HALL), made, 0, 0, -3);
        bounds(call + " of three guesses", Bench::hall, made, 0, 3, -3);
        bounds(call + " of four guesses", Bench::unfit, made, 0, 4, -3);
        bounds(call + " of five guesses", Bench::five, made, 0, 4, -3);
        bounds(call + " of 40 guesses", Bench::full, made, 0, 4, -3);
        refused(call + " with 4 of three, busy", Bench::busy, x -> made.on(x, 4), -3);
    }

    /** Whatever later calls could tell of an object; its images, rows and tape are read last, as reading uses them up. */
    static long[] look(JarGuess x) {
        List<Long> seen = new ArrayList<>();
        lookAtFete(x, seen);
        long read = x.fete(x.count(8));
        seen.add(read);
        lookAtFete(x, seen);
        for (int i = 0; i < 2; i++) {
            seen.add((long) x.restore(i));
            lookAtFete(x, seen);
        }
        tell(x, SIX);
        for (int row = 0; row < 4; row++) {
            lookAtRow(x, row, seen);
        }
        long[] all = new long[seen.size()];
        for (int i = 0; i < all.length; i++) {
            all[i] = seen.get(i);
        }
        return all;
    }

    /** Like look(), but nothing of it is used up, and neither the tape nor the latest fault are looked at. */
    static long[] lookAtList(JarGuess x) {
        List<Long> seen = new ArrayList<>();
        lookAtFete(x, seen);
        long[] all = new long[seen.size()];
        for (int i = 0; i < all.length; i++) {
            all[i] = i == 8 || i == 12 || i == 13 ? 0 : seen.get(i);
        }
        return all;
    }

    private static void lookAtFete(JarGuess x, List<Long> seen) {
        for (int what = 0; what <= 11; what++) {
            seen.add((long) x.count(what));
        }
        seen.add((long) x.fault(0));
        seen.add((long) x.fault(1));
        for (int g = 0; g < x.count(0); g++) {
            for (int what = 0; what < 3; what++) {
                seen.add((long) x.guesser(g, what));
            }
        }
        for (int t = x.count(2); t <= x.count(3); t += Math.max(1, (x.count(3) - x.count(2)) / 4)) {
            seen.add((long) x.weight(t));
        }
        for (int k = 0; k < x.count(1); k++) {
            seen.add((long) x.list(k, 0));
            seen.add((long) x.list(k, 1));
        }
    }

    private static void lookAtRow(JarGuess x, int row, List<Long> seen) {
        x.strike(x.count(1));
        int many = x.perform(row);
        seen.add((long) many);
        for (int k = 0; k < x.count(1); k++) {
            seen.add((long) x.list(k, 0));
            seen.add((long) x.list(k, 1));
        }
        seen.add(x.put(row, many, 1));
        seen.add(x.put(row, 0, 0x0123456789abcdefL));
    }
}
