import java.util.ArrayList;
import java.util.Arrays;
import java.util.List;
import java.util.Random;

/** Plays runs of calls on a JarGuess and on a slow model that counts everything by its definition. */
public final class ModelTest {
    private static final int RUNS = 400;
    private static final int CALLS = 150;
    private static int wrong = 0;

    public static void main(String[] args) {
        for (int seed = 0; seed < RUNS && wrong < 20; seed++) {
            new Run(seed).play();
        }
        System.out.println(wrong == 0 ? "the model agrees" : wrong + " answers differ from the model");
        if (wrong != 0) {
            System.exit(1);
        }
    }

    /** One object, its model, and calls chosen by a seed. */
    private static final class Run {
        final int seed;
        final Random random;
        final JarGuess x = new JarGuess();
        final Model y = new Model();
        final StringBuilder told = new StringBuilder();
        int calls = 0;

        Run(int seed) {
            this.seed = seed;
            this.random = new Random(seed);
        }

        void play() {
            while (calls < CALLS && wrong < 20) {
                try {
                    call(random.nextInt(100));
                } catch (RuntimeException e) {
                    wrong++;
                    System.out.println("seed " + seed + ", after " + told + ": threw " + e);
                    return;
                }
            }
        }

        void same(String call, long got, long want) {
            calls++;
            told.append(call).append(' ');
            if (got != want) {
                wrong++;
                System.out.println("seed " + seed + ": " + told + "answered " + got + ", the model says " + want);
            }
        }

        int in(int from, int to) {
            return from + random.nextInt(to - from + 1);
        }

        /** Mostly a number within bounds, at times one of the edges or beyond them. */
        int near(int from, int to) {
            switch (random.nextInt(14)) {
                case 0: return from - 1;
                case 1: return to + 1;
                case 2: return from;
                case 3: return to;
                case 4: return random.nextInt(6) == 0 ? wild() : in(from, to);
                default: return in(from, to);
            }
        }

        int wild() {
            int[] ends = {Integer.MIN_VALUE, Integer.MAX_VALUE, random.nextInt()};
            return ends[random.nextInt(ends.length)];
        }

        int m() {
            return random.nextInt(8) == 0 ? in(-1, 6) : in(0, Math.min(4, y.list.size()));
        }

        int t() {
            return near(y.f.low, y.f.high);
        }

        int k() {
            return near(0, Math.max(0, y.list.size() - 1));
        }

        int g() {
            return near(0, Math.max(0, y.f.guessers.size() - 1));
        }

        /** Numbers that a guesser could well write for some number of the grid, or any. */
        int v() {
            if (random.nextInt(3) == 0 || y.f.guessers.isEmpty()) {
                return random.nextInt(3) == 0 ? near(0, 2000) : t();
            }
            int[] one = y.f.guessers.get(random.nextInt(y.f.guessers.size()));
            int t = random.nextInt(3) == 0 && y.jar > 0 ? y.jar : in(y.f.low, y.f.high);
            return t * one[0] / 100 + in(-one[1], one[1]);
        }

        int goalOr(int v) {
            int goal = y.goal(y.list.size(), y.f.hidden, y.list);
            return goal >= 0 && random.nextInt(3) == 0 ? goal : v;
        }

        void call(int which) {
            if (calls == 0 || which < 3) {
                text();
            } else if (which < 28) {
                write();
            } else if (which < 40) {
                listCalls();
            } else if (which < 55) {
                oddsCalls();
            } else if (which < 75) {
                writeCalls();
            } else if (which < 83) {
                aloneCalls();
            } else {
                rowCalls();
            }
        }

        void text() {
            String text = random.nextInt(4) == 0 ? spoilt(lines()) : lines();
            for (int i = 0; i < text.length(); i += 20) {
                int[] a = new int[5];
                for (int j = 0; j < 20; j++) {
                    int c = i + j < text.length() ? text.charAt(i + j) : ' ';
                    a[j / 4] = a[j / 4] << 8 | c & 255;
                }
                same("feed(" + Arrays.toString(a) + ")", x.feed(a[0], a[1], a[2], a[3], a[4]),
                        y.feed(a[0], a[1], a[2], a[3], a[4]));
            }
            int n = random.nextInt(12) == 0 ? near(0, y.tape.size()) : Math.min(y.tape.size(), text.length());
            same("fete(" + n + ") of \"" + text + "\"", x.fete(n), y.fete(n));
            for (int what = -1; what <= 2; what++) {
                same("fault(" + what + ")", x.fault(what), y.fault(what));
            }
            for (int what = -1; what <= 12; what++) {
                same("count(" + what + ")", x.count(what), y.count(what));
            }
        }

        String lines() {
            StringBuilder text = new StringBuilder();
            int low = random.nextInt(3) == 0 ? in(1, 999) : in(1, 60);
            int wide = random.nextInt(4) == 0 ? in(0, 199) : random.nextInt(3) == 0 ? in(0, 3) : in(0, 30);
            line(text, "grid", low, low + wide);
            if (random.nextBoolean()) {
                line(text, "prior", random.nextBoolean() ? Math.min(999, in(low, low + wide)) : in(0, 999), in(0, 8));
            }
            int many = random.nextInt(6) == 0 ? in(0, 7) : in(1, 6);
            for (int i = 0; i < many; i++) {
                int lean = random.nextInt(3) == 0 ? in(1, 200) : in(80, 120);
                line(text, "guesser", lean, random.nextInt(4) == 0 ? in(0, 20) : in(0, 5));
                if (random.nextBoolean()) {
                    text.setLength(text.length() - 1);
                    line(text, " copy", in(0, 10));
                }
            }
            if (random.nextInt(4) == 0) {
                line(text, "hidden");
            }
            if (random.nextInt(2) == 0) {
                line(text, "price", in(0, 99));
            }
            if (random.nextInt(2) == 0) {
                line(text, "prize", random.nextInt(3) == 0 ? in(0, 9999) : in(0, 300));
            }
            if (random.nextInt(4) != 0) {
                line(text, "jar", Math.min(999, in(low, low + wide)));
            }
            return text.toString();
        }

        void line(StringBuilder text, String word, int... numbers) {
            text.append(word);
            for (int n : numbers) {
                text.append(random.nextInt(5) == 0 ? "" : " ");
                if (!Character.isLetter(text.charAt(text.length() - 1)) && text.charAt(text.length() - 1) != ' ') {
                    text.append('\n');
                }
                text.append(n);
            }
            text.append(';');
        }

        String spoilt(String text) {
            String signs = ";;  09x,g1\n\t\u00ff";
            StringBuilder out = new StringBuilder(text);
            for (int i = in(1, 2); i > 0; i--) {
                int at = random.nextInt(out.length());
                char c = signs.charAt(random.nextInt(signs.length()));
                switch (random.nextInt(4)) {
                    case 0: out.insert(at, c); break;
                    case 1: out.setCharAt(at, c); break;
                    case 2: out.deleteCharAt(at); break;
                    default: out.insert(at, lines().substring(0, 8)); break;
                }
            }
            return out.toString();
        }

        void write() {
            int g = g();
            switch (random.nextInt(9)) {
                case 0: {
                    int n = near(0, Math.min(3, y.list.size()));
                    same("strike(" + n + ")", x.strike(n), y.strike(n));
                    break;
                }
                case 1: {
                    int s = random.nextInt();
                    int n = random.nextInt(4) == 0 ? near(1, 40) : in(1, 5);
                    same("come(" + s + "," + n + ")", x.come(s, n), y.come(s, n));
                    break;
                }
                default: {
                    int v = goalOr(v());
                    same("write(" + g + "," + v + ")", x.write(g, v), y.write(g, v));
                    break;
                }
            }
        }

        void listCalls() {
            int g = g();
            int t = random.nextBoolean() ? t() : near(1, 999);
            int k = k();
            int what = near(0, 4);
            switch (random.nextInt(9)) {
                case 0: same("guesser(" + g + "," + what + ")", x.guesser(g, what), y.guesser(g, what)); break;
                case 1: same("sight(" + g + "," + t + ")", x.sight(g, t), y.sight(g, t)); break;
                case 2: same("weight(" + t + ")", x.weight(t), y.weight(t)); break;
                case 3: {
                    int j = random.nextInt(3) == 0 ? near(0, 999) : t;
                    same("jar(" + j + ")", x.jar(j), y.jar(j));
                    break;
                }
                case 4: same("list(" + k + "," + what + ")", x.list(k, what), y.list(k, what)); break;
                case 5: same("leader(" + t + ")", x.leader(t), y.leader(t)); break;
                case 6: same("winner()", x.winner(), y.winner());
                        same("nearest()", x.nearest(), y.nearest()); break;
                case 7: {
                    int w = near(0, 3);
                    same("wins(" + k + "," + w + ")", x.wins(k, w), y.wins(k, w));
                    break;
                }
                default: same("mean(" + what + ")", x.mean(what), y.mean(what)); break;
            }
        }

        void oddsCalls() {
            int m = m();
            int what = near(0, 2);
            int k = near(0, 4);
            int t = t();
            switch (random.nextInt(7)) {
                case 0: same("odds(" + t + "," + m + ")", x.odds(t, m), y.odds(t, m)); break;
                case 1: same("out(" + m + ")", x.out(m), y.out(m)); break;
                case 2: same("likeliest(" + m + ")", x.likeliest(m), y.likeliest(m)); break;
                case 3: same("span(" + m + "," + what + ")", x.span(m, what), y.span(m, what)); break;
                case 4: same("expect(" + m + "," + what + ")", x.expect(m, what), y.expect(m, what)); break;
                case 5: same("copied(" + k + "," + m + ")", x.copied(k, m), y.copied(k, m)); break;
                default: same("copier(" + m + ")", x.copier(m), y.copier(m)); break;
            }
        }

        void writeCalls() {
            int m = m();
            int k = k();
            switch (random.nextInt(10)) {
                case 0: {
                    int v = v();
                    same("chance(" + v + "," + m + ")", x.chance(v, m), y.chance(v, m));
                    break;
                }
                case 1: all("best", m, 1); break;
                case 2: all("bestTwo", m, 2); break;
                case 3: if (y.f.high - y.f.low < 60) all("behind", m, 3); break;
                case 4: if (y.f.high - y.f.low < 60) all("waits", m, 1); break;
                case 5: same("waysOf(" + k + "," + m + ")", x.waysOf(k, m), y.waysOf(k, m)); break;
                case 6: same("shutIn(" + k + "," + m + ")", x.shutIn(k, m), y.shutIn(k, m)); break;
                case 7: all("gain", m, 2); break;
                case 8: same("buys(" + m + ")", x.buys(m), y.buys(m)); break;
                default: games(); break;
            }
        }

        void all(String name, int m, int top) {
            for (int what = -1; what <= top + 1; what++) {
                String call = name + "(" + m + "," + what + ")";
                switch (name) {
                    case "best": same(call, x.best(m, what), y.best(m, what)); break;
                    case "bestTwo": same(call, x.bestTwo(m, what), y.bestTwo(m, what)); break;
                    case "behind": same(call, x.behind(m, what), y.behind(m, what)); break;
                    case "waits": same(call, x.waits(m, what), y.waits(m, what)); break;
                    default: same("gain(" + what + "," + m + ")", x.gain(what, m), y.gain(what, m)); break;
                }
            }
        }

        void games() {
            int n = near(1, y.f.high - y.f.low < 12 ? 3 : 2);
            int what = random.nextBoolean() ? near(0, 2) : near(10, 12);
            same("game(" + n + "," + what + ")", x.game(n, what), y.game(n, what));
        }

        void aloneCalls() {
            int g = g();
            int d = random.nextBoolean() ? near(0, 4) : near(0, 20);
            switch (random.nextInt(5)) {
                case 0: {
                    int n = near(1, 8);
                    same("alone(" + g + "," + n + "," + d + ")", x.alone(g, n, d), y.alone(g, n, d));
                    break;
                }
                case 1: {
                    int p = near(0, 100);
                    same("fewest(" + g + "," + d + "," + p + ")", x.fewest(g, d, p), y.fewest(g, d, p));
                    break;
                }
                case 2: {
                    int s = random.nextInt();
                    int many = near(1, 40);
                    int n = near(1, 30);
                    boolean shown = random.nextBoolean();
                    int what = near(0, 2);
                    same("fetes(" + s + "," + many + "," + n + "," + shown + "," + what + ")",
                            x.fetes(s, many, n, shown, what), y.fetes(s, many, n, shown, what));
                    break;
                }
                case 3: {
                    int l = near(1, 99);
                    int r = near(1, 30);
                    int a = near(0, 99);
                    same("holds(" + l + "," + r + "," + a + ")", x.holds(l, r, a), y.holds(l, r, a));
                    break;
                }
                default: {
                    int s = near(1, 9999);
                    int r = near(1, 30);
                    int a = near(0, 99);
                    same("layersFor(" + s + "," + r + "," + a + ")", x.layersFor(s, r, a), y.layersFor(s, r, a));
                    break;
                }
            }
        }

        void rowCalls() {
            int row = near(0, 3);
            int i = near(0, 3);
            switch (random.nextInt(9)) {
                case 0: {
                    int sort = near(0, 3);
                    int n = random.nextInt(4) == 0 ? near(0, 40) : in(0, 6);
                    same("numbers(" + row + "," + sort + "," + n + ")", x.numbers(row, sort, n), y.numbers(row, sort, n));
                    break;
                }
                case 1:
                case 2:
                case 3: {
                    long v = random.nextInt(6) == 0 ? random.nextLong() : 10000L * g() + goalOr(v());
                    same("put(" + row + "," + i + "," + v + ")", x.put(row, i, v), y.put(row, i, v));
                    break;
                }
                case 4: {
                    int what = near(0, 2);
                    same("judge(" + row + "," + what + ")", x.judge(row, what), y.judge(row, what));
                    break;
                }
                case 5: same("perform(" + row + ")", x.perform(row), y.perform(row)); break;
                case 6: same("copy(" + row + ")", x.copy(row), y.copy(row)); break;
                case 7: {
                    int j = near(0, 1);
                    same("image(" + j + ")", x.image(j), y.image(j));
                    break;
                }
                default: {
                    int j = near(0, 1);
                    same("restore(" + j + ")", x.restore(j), y.restore(j));
                    break;
                }
            }
            int what = near(0, 11);
            same("count(" + what + ")", x.count(what), y.count(what));
        }
    }

    /** What a text tells. */
    private static final class Told {
        int low = 1;
        int high = 100;
        int[] prior = null;
        List<int[]> guessers = new ArrayList<>();
        boolean hidden = false;
        int price = 10;
        int prize = 100;
        int jar = 0;
        int lines = 0;
    }

    private static final class Fault extends RuntimeException {
        private static final long serialVersionUID = 1L;
        final int kind;
        final int place;

        Fault(int kind, int place) {
            this.kind = kind;
            this.place = place;
        }
    }

    /** Parses by the document's grammar, a token at a time. */
    private static final class Parser {
        final String text;
        int at = 0;

        Parser(String text) {
            this.text = text;
        }

        void blanks() {
            while (at < text.length() && (text.charAt(at) == 10 || text.charAt(at) == 32)) {
                at++;
            }
        }

        /** The next token ("" at the end), with `at` still at its begin. */
        String peek() {
            blanks();
            String rest = text.substring(at);
            if (rest.isEmpty()) {
                return "";
            }
            String word = rest.replaceFirst("(?s)[^a-z].*", "");
            if (!word.isEmpty()) {
                return word;
            }
            String digits = rest.replaceFirst("(?s)[^0-9].*", "");
            if (digits.length() > 4) {
                throw new Fault(1, at);
            }
            if (!digits.isEmpty()) {
                return digits;
            }
            if (rest.charAt(0) == ';') {
                return ";";
            }
            throw new Fault(1, at);
        }

        int number(int least, int most) {
            String token = peek();
            if (token.isEmpty() || !Character.isDigit(token.charAt(0))) {
                throw new Fault(2, at);
            }
            int n = Integer.parseInt(token);
            if (n < least || n > most) {
                throw new Fault(3, at);
            }
            at += token.length();
            return n;
        }

        Told parse() {
            Told told = new Told();
            while (!peek().isEmpty()) {
                String word = peek();
                int begin = at;
                at += word.length();
                switch (word) {
                    case "grid": told.low = number(1, 999); told.high = number(told.low, told.low + 199); break;
                    case "prior": told.prior = new int[] {number(0, 999), number(0, 8)}; break;
                    case "guesser": {
                        if (told.guessers.size() == 6) {
                            throw new Fault(4, begin);
                        }
                        int[] one = {number(1, 200), number(0, 20), 0};
                        if (peek().equals("copy")) {
                            at += 4;
                            one[2] = number(0, 10);
                        }
                        told.guessers.add(one);
                        break;
                    }
                    case "hidden": told.hidden = true; break;
                    case "price": told.price = number(0, 99); break;
                    case "prize": told.prize = number(0, 9999); break;
                    case "jar": told.jar = number(1, 999); break;
                    default: throw new Fault(2, begin);
                }
                if (!peek().equals(";")) {
                    throw new Fault(2, at);
                }
                at++;
                told.lines++;
            }
            return told;
        }
    }

    /** The document's calls, each counted by its definition. A guess is {guesser, number}. */
    private static final class Model {
        List<Byte> tape = new ArrayList<>();
        Told f = new Told();
        int jar = 0;
        List<int[]> list = new ArrayList<>();
        int faultKind = 0;
        int faultPlace = -1;
        long[][] rows = new long[4][];
        int[] sorts = new int[4];
        Object[][] images = new Object[2][];

        int feed(int... five) {
            if (tape.size() + 20 > 700) {
                return -5;
            }
            for (int a : five) {
                for (int s = 24; s >= 0; s -= 8) {
                    tape.add((byte) (a >> s));
                }
            }
            return tape.size();
        }

        int fete(int n) {
            if (n < 0 || n > tape.size()) {
                return -3;
            }
            StringBuilder text = new StringBuilder();
            for (int i = 0; i < n; i++) {
                text.append((char) (tape.get(i) & 255));
            }
            tape.clear();
            faultKind = 0;
            faultPlace = -1;
            try {
                f = new Parser(text.toString()).parse();
            } catch (Fault fault) {
                faultKind = fault.kind;
                faultPlace = fault.place;
                return -30 - fault.kind;
            }
            jar = f.jar;
            list = new ArrayList<>();
            return f.lines;
        }

        int fault(int what) {
            return what == 0 ? faultKind : what == 1 ? faultPlace : -1;
        }

        boolean isGuesser(int g) {
            return g >= 0 && g < f.guessers.size();
        }

        int guesser(int g, int what) {
            if (!isGuesser(g) || what < 0 || what > 4) {
                return -2;
            }
            if (what < 3) {
                return f.guessers.get(g)[what];
            }
            int many = 0;
            int latest = -1;
            for (int k = 0; k < list.size(); k++) {
                if (list.get(k)[0] == g) {
                    many++;
                    latest = k;
                }
            }
            return what == 3 ? many : latest;
        }

        int see(int g, int t) {
            return t * f.guessers.get(g)[0] / 100;
        }

        int sight(int g, int t) {
            return !isGuesser(g) ? -2 : t < 1 || t > 999 ? -3 : see(g, t);
        }

        boolean onGrid(int t) {
            return t >= f.low && t <= f.high;
        }

        int weight(int t) {
            if (!onGrid(t)) {
                return -3;
            }
            if (f.prior == null) {
                return 1;
            }
            int w = 9;
            for (int step = 0; step < Math.abs(t - f.prior[0]); step++) {
                w -= f.prior[1];
            }
            return w < 1 ? 1 : w;
        }

        int jar(int t) {
            if (t < 0 || t > 999) {
                return -3;
            }
            int before = jar;
            jar = t;
            return before;
        }

        int write(int g, int v) {
            if (!isGuesser(g)) {
                return -2;
            }
            if (v < 0 || v > 2000) {
                return -3;
            }
            if (list.size() == 40) {
                return -4;
            }
            list.add(new int[] {g, v});
            return list.size();
        }

        int strike(int n) {
            if (n < 0 || n > list.size()) {
                return -3;
            }
            for (int i = 0; i < n; i++) {
                list.remove(list.size() - 1);
            }
            return list.size();
        }

        static int meanOf(List<int[]> guesses) {
            if (guesses.isEmpty()) {
                return -1;
            }
            int sum = 0;
            for (int[] guess : guesses) {
                sum += guess[1];
            }
            return sum / guesses.size();
        }

        int goal(int k, boolean hidden, List<int[]> of) {
            return hidden || k == 0 ? -1 : meanOf(of.subList(0, k));
        }

        int list(int k, int what) {
            if (k < 0 || k >= list.size() || what < 0 || what > 4) {
                return -2;
            }
            int v = list.get(k)[1];
            switch (what) {
                case 0: return v;
                case 1: return list.get(k)[0];
                case 2: return goal(k, f.hidden, list);
                case 3: return jar == 0 ? -1 : Math.abs(v - jar);
                default: {
                    int first = k;
                    for (int i = k; i >= 0; i--) {
                        first = list.get(i)[1] == v ? i : first;
                    }
                    return first;
                }
            }
        }

        int judge(int row, int what) {
            if (row < 0 || row > 3 || what < 0 || what > 2) {
                return -2;
            }
            if (rows[row] == null) {
                return -6;
            }
            List<int[]> before = list;
            list = new ArrayList<>(before);
            int place = -1;
            int why = 0;
            for (int i = 0; i < rows[row].length && why == 0; i++) {
                long g = Math.floorDiv(rows[row][i], 10000L);
                long v = Math.floorMod(rows[row][i], 10000L);
                why = g < 0 || g >= f.guessers.size() || v > 2000 ? 1 : list.size() == 40 ? 2 : 0;
                if (why == 0) {
                    list.add(new int[] {(int) g, (int) v});
                } else {
                    place = i;
                }
            }
            int mean = meanOf(list);
            list = before;
            return what == 0 ? place : what == 1 ? why : mean;
        }

        int perform(int row) {
            int place = judge(row, 0);
            if (place < -1) {
                return place;
            }
            int many = place < 0 ? rows[row].length : place;
            for (int i = 0; i < many; i++) {
                list.add(new int[] {(int) (rows[row][i] / 10000), (int) (rows[row][i] % 10000)});
            }
            return many;
        }

        int x;

        int draw() {
            x = x * 1103515245 + 12345;
            return x >>> 16;
        }

        void comer(List<int[]> onto, boolean hidden) {
            int g = draw() % f.guessers.size();
            int[] one = f.guessers.get(g);
            int goal = goal(onto.size(), hidden, onto);
            boolean copies = draw() % 10 < one[2];
            int v;
            if (copies && goal != -1) {
                v = goal;
            } else {
                v = see(g, jar) - one[1] + draw() % (2 * one[1] + 1);
                v = v < 0 ? 0 : v > 2000 ? 2000 : v;
            }
            onto.add(new int[] {g, v});
        }

        int come(int seed, int n) {
            if (n < 1 || n > 40) {
                return -3;
            }
            if (f.guessers.isEmpty() || jar == 0) {
                return -5;
            }
            if (list.size() + n > 40) {
                return -4;
            }
            x = seed;
            for (int i = 0; i < n; i++) {
                comer(list, f.hidden);
            }
            return list.size();
        }

        static int winnerOf(List<int[]> guesses, int t) {
            int found = -1;
            for (int k = 0; k < guesses.size(); k++) {
                if (found < 0 || Math.abs(guesses.get(k)[1] - t) < Math.abs(guesses.get(found)[1] - t)) {
                    found = k;
                }
            }
            return found;
        }

        int leader(int t) {
            return t < 1 || t > 999 ? -3 : winnerOf(list, t);
        }

        int winner() {
            return jar == 0 ? -5 : winnerOf(list, jar);
        }

        int wins(int k, int what) {
            if (k < 0 || k >= list.size() || what < 0 || what > 3) {
                return -2;
            }
            int[] answer = {0, -1, -1, 0};
            for (int t = f.low; t <= f.high; t++) {
                if (winnerOf(list, t) == k) {
                    answer[0]++;
                    answer[1] = answer[1] < 0 ? t : answer[1];
                    answer[2] = t;
                    answer[3] += weight(t);
                }
            }
            return answer[what];
        }

        int mean(int what) {
            if (what < 0 || what > 4) {
                return -2;
            }
            int n = list.size();
            if (n == 0) {
                return -1;
            }
            int[] sorted = new int[n];
            for (int k = 0; k < n; k++) {
                sorted[k] = list.get(k)[1];
            }
            Arrays.sort(sorted);
            switch (what) {
                case 0: return meanOf(list);
                case 1: return n % 2 == 1 ? sorted[n / 2] : sorted[n / 2 - 1];
                case 2: return meanOf(list.subList(0, Math.min(9, n)));
                case 3: return sorted[0];
                default: return sorted[n - 1];
            }
        }

        int nearest() {
            if (jar == 0) {
                return -5;
            }
            if (list.isEmpty()) {
                return -1;
            }
            int[] v = {mean(0), mean(1), mean(2), list.get(winner())[1]};
            for (int far = 0; ; far++) {
                for (int i = 0; i < 4; i++) {
                    if (Math.abs(v[i] - jar) == far) {
                        return i;
                    }
                }
            }
        }

        boolean badM(int m) {
            return m < 0 || m > 4 || m > list.size();
        }

        long ways(int t, int m, int copied) {
            long ways = weight(t);
            for (int k = 0; k < m; k++) {
                int[] one = f.guessers.get(list.get(k)[0]);
                int v = list.get(k)[1];
                int goal = goal(k, f.hidden, list);
                boolean sees = Math.abs(v - see(list.get(k)[0], t)) <= one[1];
                long chance;
                if (goal == -1) {
                    chance = sees && k != copied ? 10 : 0;
                } else {
                    chance = v == goal ? one[2] * (2 * one[1] + 1) : 0;
                    chance += sees && k != copied ? 10 - one[2] : 0;
                }
                ways *= chance;
            }
            return ways;
        }

        long odds(int t, int m) {
            return !onGrid(t) || badM(m) ? -3 : ways(t, m, -1);
        }

        long out(int m) {
            if (badM(m)) {
                return -3;
            }
            long sum = 0;
            for (int t = f.low; t <= f.high; t++) {
                sum += ways(t, m, -1);
            }
            return sum;
        }

        int likeliest(int m) {
            if (badM(m)) {
                return -3;
            }
            int found = f.low;
            for (int t = f.low; t <= f.high; t++) {
                found = ways(t, m, -1) > ways(found, m, -1) ? t : found;
            }
            return out(m) == 0 ? -1 : found;
        }

        int span(int m, int what) {
            if (what < 0 || what > 2) {
                return -2;
            }
            if (badM(m)) {
                return -3;
            }
            List<Integer> have = new ArrayList<>();
            for (int t = f.low; t <= f.high; t++) {
                if (ways(t, m, -1) > 0) {
                    have.add(t);
                }
            }
            if (what == 2) {
                return have.size();
            }
            return have.isEmpty() ? -1 : what == 0 ? have.get(0) : have.get(have.size() - 1);
        }

        long expect(int m, int what) {
            if (what < 0 || what > 2) {
                return -2;
            }
            if (badM(m)) {
                return -3;
            }
            long out = out(m);
            if (out == 0) {
                return -1;
            }
            long sum = 0;
            long upTo = 0;
            int half = -1;
            for (int t = f.low; t <= f.high; t++) {
                sum += t * ways(t, m, -1);
                upTo += ways(t, m, -1);
                if (half < 0 && upTo >= out - upTo) {
                    half = t;
                }
            }
            return what == 0 ? sum / out : what == 1 ? sum % out : half;
        }

        long copied(int k, int m) {
            if (badM(m)) {
                return -3;
            }
            if (k < 0 || k >= m) {
                return -2;
            }
            long sum = 0;
            for (int t = f.low; t <= f.high; t++) {
                sum += ways(t, m, k);
            }
            return sum;
        }

        int copier(int m) {
            if (badM(m)) {
                return -3;
            }
            int found = -1;
            for (int k = m - 1; k >= 0; k--) {
                if (copied(k, m) > 0 && (found < 0 || copied(k, m) >= copied(found, m))) {
                    found = k;
                }
            }
            return found;
        }

        /** WAYS of all t that the guess at place k of these wins; t's ways are taken by the real list. */
        long won(List<int[]> guesses, int k, long[] ways) {
            long sum = 0;
            for (int t = f.low; t <= f.high; t++) {
                if (winnerOf(guesses, t) == k) {
                    sum += ways[t - f.low];
                }
            }
            return sum;
        }

        long[] allWays(int m) {
            long[] ways = new long[f.high - f.low + 1];
            for (int t = f.low; t <= f.high; t++) {
                ways[t - f.low] = ways(t, m, -1);
            }
            return ways;
        }

        static List<int[]> with(List<int[]> guesses, int v) {
            List<int[]> more = new ArrayList<>(guesses);
            more.add(new int[] {0, v});
            return more;
        }

        long chance(int v, int m) {
            return v < 0 || v > 2000 || badM(m) ? -3 : won(with(list, v), list.size(), allWays(m));
        }

        /** {v, its ways} */
        long[] bestOf(List<int[]> guesses, long[] ways) {
            long[] found = null;
            for (int v = f.low; v <= f.high; v++) {
                long won = won(with(guesses, v), guesses.size(), ways);
                if (found == null || won > found[1]) {
                    found = new long[] {v, won};
                }
            }
            return found;
        }

        long best(int m, int what) {
            return what < 0 || what > 1 ? -2 : badM(m) ? -3 : bestOf(list, allWays(m))[what];
        }

        long bestTwo(int m, int what) {
            if (what < 0 || what > 2) {
                return -2;
            }
            if (badM(m)) {
                return -3;
            }
            if (f.low == f.high) {
                return -5;
            }
            long[] ways = allWays(m);
            long[] found = null;
            for (int v = f.low; v <= f.high; v++) {
                for (int w = v + 1; w <= f.high; w++) {
                    long won = 0;
                    for (int t = f.low; t <= f.high; t++) {
                        int near = Math.min(Math.abs(t - v), Math.abs(t - w));
                        int first = winnerOf(list, t);
                        won += first < 0 || near < Math.abs(list.get(first)[1] - t) ? ways[t - f.low] : 0;
                    }
                    if (found == null || won > found[2]) {
                        found = new long[] {v, w, won};
                    }
                }
            }
            return found[what];
        }

        long[] behindMe(int m) {
            long[] ways = allWays(m);
            long[] found = null;
            for (int v = f.low; v <= f.high; v++) {
                List<int[]> mine = with(list, v);
                long[] hers = bestOf(mine, ways);
                long won = won(with(mine, (int) hers[0]), list.size(), ways);
                if (found == null || won > found[1]) {
                    found = new long[] {v, won, hers[0], hers[1]};
                }
            }
            return found;
        }

        long behind(int m, int what) {
            return what < 0 || what > 3 ? -2 : badM(m) ? -3 : behindMe(m)[what];
        }

        long waits(int m, int what) {
            if (what < 0 || what > 1) {
                return -2;
            }
            if (badM(m)) {
                return -3;
            }
            long[] ways = allWays(m);
            long mine = bestOf(with(list, (int) bestOf(list, ways)[0]), ways)[1];
            return what == 1 ? mine : mine > behindMe(m)[1] ? 1 : 0;
        }

        long waysOf(int k, int m) {
            return k < 0 || k >= list.size() ? -2 : badM(m) ? -3 : won(list, k, allWays(m));
        }

        long shutIn(int k, int m) {
            if (k < 0 || k >= list.size()) {
                return -2;
            }
            if (badM(m)) {
                return -3;
            }
            int v = list.get(k)[1];
            List<int[]> shut = with(with(list, v - 1), v + 1);
            return onGrid(v) ? won(shut, k, allWays(m)) : 0;
        }

        long gain(int k, int m) {
            if (k < 0 || k > 2 || badM(m)) {
                return -3;
            }
            if (k == 2 && f.low == f.high) {
                return -5;
            }
            long ways = k == 0 ? 0 : k == 1 ? best(m, 1) : bestTwo(m, 2);
            return f.prize * ways - f.price * k * out(m);
        }

        int buys(int m) {
            if (badM(m)) {
                return -3;
            }
            int found = gain(1, m) > 0 ? 1 : 0;
            return f.low < f.high && gain(2, m) > gain(found, m) ? 2 : found;
        }

        /** All that is written in the end if those who are left go on from these. */
        List<int[]> gameFrom(List<int[]> written, int n, long[] ways) {
            if (written.size() == n) {
                return written;
            }
            List<int[]> found = null;
            long most = -1;
            for (int v = f.low; v <= f.high; v++) {
                List<int[]> end = gameFrom(with(written, v), n, ways);
                long won = won(end, written.size(), ways);
                if (won > most) {
                    most = won;
                    found = end;
                }
            }
            return found;
        }

        int game(int n, int what) {
            if (n < 1 || n > 3) {
                return -3;
            }
            if (what < 0 || what % 10 >= n || what > 19) {
                return -2;
            }
            if (f.high - f.low + 1 > 24) {
                return -4;
            }
            List<int[]> end = gameFrom(new ArrayList<>(), n, allWays(0));
            return what < 10 ? end.get(what)[1] : (int) won(end, what - 10, allWays(0));
        }

        long alone(int g, int n, int d) {
            return !isGuesser(g) ? -2 : n < 1 || n > 8 || d < 0 || d > 20 ? -3 : within(f.guessers.get(g)[1], n, n * d, 0);
        }

        final long[][] known = new long[9][400];
        int knownSpread = -1;
        int knownFar = -1;

        /** How many choices of n more offs end within far, from a sum of so much. */
        long within(int spread, int n, int far, int sum) {
            if (knownSpread != spread || knownFar != far) {
                for (long[] row : known) {
                    Arrays.fill(row, -1);
                }
                knownSpread = spread;
                knownFar = far;
            }
            if (n == 0) {
                return Math.abs(sum) <= far ? 1 : 0;
            }
            if (known[n][sum + 200] >= 0) {
                return known[n][sum + 200];
            }
            long many = 0;
            for (int off = -spread; off <= spread; off++) {
                many += within(spread, n - 1, far, sum + off);
            }
            known[n][sum + 200] = many;
            return many;
        }

        int fewest(int g, int d, int p) {
            if (!isGuesser(g)) {
                return -2;
            }
            if (d < 0 || d > 20 || p < 0 || p > 100) {
                return -3;
            }
            long all = 1;
            for (int n = 1; n <= 8; n++) {
                all *= 2 * f.guessers.get(g)[1] + 1;
                if (100 * alone(g, n, d) >= p * all) {
                    return n;
                }
            }
            return -1;
        }

        int fetes(int seed, int many, int n, boolean shown, int what) {
            if (what < 0 || what > 2) {
                return -2;
            }
            if (many < 1 || many > 40 || n < 1 || n > 30) {
                return -3;
            }
            if (f.guessers.isEmpty() || jar == 0) {
                return -5;
            }
            x = seed;
            int[] answer = new int[3];
            for (int i = 0; i < many; i++) {
                List<int[]> one = new ArrayList<>();
                for (int j = 0; j < n; j++) {
                    comer(one, !shown);
                }
                int off = Math.abs(meanOf(one) - jar);
                int won = Math.abs(one.get(winnerOf(one, jar))[1] - jar);
                answer[0] += off;
                answer[1] += won;
                answer[2] += off < won ? 1 : 0;
            }
            return answer[what];
        }

        int holds(int layers, int rings, int air) {
            if (layers < 1 || layers > 99 || rings < 1 || rings > 30 || air < 0 || air > 99) {
                return -3;
            }
            int all = 0;
            for (int layer = 1; layer <= layers; layer++) {
                all++;
                for (int r = 1; r <= rings; r++) {
                    all += layer % 2 == 0 && r == rings ? 0 : 6 * r;
                }
            }
            return all - all * air / 100;
        }

        int layersFor(int sweets, int rings, int air) {
            if (sweets < 1 || sweets > 9999 || holds(1, rings, air) < 0) {
                return -3;
            }
            int found = -1;
            for (int layers = 99; layers >= 1; layers--) {
                found = holds(layers, rings, air) >= sweets ? layers : found;
            }
            return found;
        }

        int numbers(int row, int sort, int n) {
            if (row < 0 || row > 3 || sort < 0 || sort > 3) {
                return -2;
            }
            if (n < 0 || n > 40) {
                return -3;
            }
            rows[row] = new long[n];
            sorts[row] = sort;
            return 0;
        }

        long put(int row, int i, long v) {
            if (row < 0 || row > 3) {
                return -2;
            }
            if (rows[row] == null) {
                return -6;
            }
            if (i < 0 || i >= rows[row].length) {
                return -7;
            }
            int lost = 64 - (8 << sorts[row]);
            rows[row][i] = v << lost >> lost;
            return rows[row][i];
        }

        int copy(int row) {
            if (row < 0 || row > 3) {
                return -2;
            }
            if (rows[row] == null) {
                return -6;
            }
            int i = 0;
            while (i < rows[row].length && i < list.size()) {
                put(row, i, list.get(i)[1]);
                i++;
            }
            return i;
        }

        int image(int i) {
            if (i < 0 || i > 1) {
                return -2;
            }
            images[i] = new Object[] {f, list.toArray(new int[0][]), jar};
            return 0;
        }

        int restore(int i) {
            if (i < 0 || i > 1) {
                return -2;
            }
            if (images[i] == null) {
                return -5;
            }
            f = (Told) images[i][0];
            list = new ArrayList<>(Arrays.asList((int[][]) images[i][1]));
            jar = (Integer) images[i][2];
            return 0;
        }

        int count(int what) {
            switch (what) {
                case 0: return f.guessers.size();
                case 1: return list.size();
                case 2: return f.low;
                case 3: return f.high;
                case 4: return f.price;
                case 5: return f.prize;
                case 6: return jar;
                case 7: return f.hidden ? 1 : 0;
                case 8: return tape.size();
                case 9: return f.lines;
                case 10: return (int) list.stream().mapToInt(guess -> guess[1]).distinct().count();
                case 11: return f.price * list.size();
                default: return -1;
            }
        }
    }
}
