import java.util.function.IntFunction;

/** The fete as a text: its terms, and promises 1 to 8. */
final class TextSentences extends Bench {
    private static final String[][] LINES = {{"grid", "3", "7"}, {"prior", "3", "7"}, {"guesser", "3", "7"},
        {"guesser", "3", "7", "copy", "7"}, {"hidden"}, {"price", "7"}, {"prize", "7"}, {"jar", "7"}};

    static void all() {
        use();
        lines();
        bounds();
        tokens();
        faults();
        newObject();
        feed();
        fete();
        fault();
        guesser();
        sight();
        weight();
        jar();
    }

    private static void good(String text, int lines) {
        JarGuess x = new JarGuess();
        due("fete() of '" + text + "'", tell(x, text), lines);
        due("the fault of '" + text + "'", x.fault(0), 0);
        due("the place in '" + text + "'", x.fault(1), -1);
    }

    private static void bad(String text, int kind, int place) {
        JarGuess x = new JarGuess();
        due("fete() of '" + text + "'", tell(x, text), -30 - kind);
        due("the fault of '" + text + "'", x.fault(0), kind);
        due("the place in '" + text + "'", x.fault(1), place);
    }

    /** A number of a text is taken from least to most, and is a fault of kind 3 at its place next to these. */
    private static void ends(IntFunction<String> text, int place, int least, int most) {
        good(text.apply(least), 1);
        good(text.apply(most), 1);
        if (least > 0) {
            bad(text.apply(least - 1), 3, place);
        }
        bad(text.apply(most + 1), 3, place);
        bad(text.apply(9999), 3, place);
    }

    private static void use() {
        section("What it is");
        says("An object is used for at most 512 calls after it has been made; what later calls answer is free.", () -> {
            JarGuess x = hall();
            x.image(1);
            long[] first = null;
            int made = 9;
            for (; made + 46 < 512; made += 46) {
                long[] round = everyCall(x);
                first = first == null ? round : first;
                dueAll("every call, behind " + made, round, first);
            }
            for (; made < 511; made++) {
                x.jar(made);
            }
            due("the 512th call", x.jar(9), 510);
        });
    }

    private static long[] everyCall(JarGuess x) {
        return new long[] {x.restore(1), x.count(1), x.feed(0x20202020, 1, 2, 3, 4), x.fete(2), x.fault(1), x.restore(1),
            x.guesser(0, 3), x.sight(1, 9), x.weight(5), x.jar(7), x.write(0, 8), x.strike(1), x.list(2, 2),
            x.numbers(1, 1, 2), x.put(1, 0, 10007), x.judge(1, 2), x.perform(1), x.come(5, 3), x.leader(7), x.winner(),
            x.wins(1, 3), x.mean(1), x.nearest(), x.odds(5, 2), x.out(3), x.likeliest(2), x.span(2, 2), x.expect(2, 1),
            x.copied(2, 3), x.copier(3), x.chance(4, 2), x.best(2, 1), x.bestTwo(2, 1), x.behind(2, 1), x.waits(1, 1),
            x.waysOf(0, 2), x.shutIn(0, 2), x.gain(1, 2), x.buys(2), x.game(3, 11), x.alone(1, 5, 1), x.fewest(1, 1, 80),
            x.fetes(3, 5, 6, true, 0), x.holds(3, 4, 5), x.layersFor(99, 2, 3), x.copy(1)};
    }

    private static void lines() {
        section("Terms");
        says("THE FETE is a TEXT of at most 700 bytes", () -> {
            String text = " ".repeat(692) + "jar 999;";
            JarGuess x = new JarGuess();
            due("a text of 700 bytes", tell(x, text), 1);
            due("its end", x.count(6), 999);
            feedText(x, text);
            due("701 bytes", x.fete(701), -3);
            due("its first 699 bytes", x.fete(699), -32);
            due("the fault's place", x.fault(1), 699);
        });
        says("(without one: grid 1 to 100, prior flat, no GUESSERS, shown, price 10, prize 100, no JAR)", () -> {
            asNew(new JarGuess());
            JarGuess x = wrote(told("grid 3 8;prior 5 2;hidden;price 1;prize 2;jar 4;" + SIX), 5, 7);
            due("an empty text", x.fete(0), 0);
            asNew(x);
            asNew(told(" \n"));
            x = told("hidden;");
            dueAll("one line leaves the others", counts(x), 0, 0, 1, 100, 10, 100, 0, 1, 0, 1, 0, 0);
            x = told("jar 5;");
            dueAll("another line leaves the others", counts(x), 0, 0, 1, 100, 10, 100, 5, 0, 0, 1, 0, 0);
            x = told("price 0;");
            dueAll("a third line leaves the others", counts(x), 0, 0, 1, 100, 0, 100, 0, 0, 0, 1, 0, 0);
        });
        says("{ LINE ; }", () -> {
            good("", 0);
            good("hidden;", 1);
            good("hidden;jar 5;", 2);
            good("hidden;".repeat(100), 100);
            bad("hidden", 2, 6);
            bad(";", 2, 0);
            bad("hidden;;", 2, 7);
            bad("hidden jar 5;", 2, 7);
        });
        says("LINE: grid N N | prior N N | guesser N N [ copy N ] | hidden | price N | prize N | jar N.", () -> {
            for (String[] line : LINES) {
                wholeAndBroken(line);
            }
            bad("copy 7;", 2, 0);
            bad("7;", 2, 0);
            bad("guesser copy 7 3 7;", 2, 8);
            bad("jar 7 copy 7;", 2, 6);
        });
    }

    private static long[] counts(JarGuess x) {
        long[] all = new long[12];
        for (int what = 0; what < all.length; what++) {
            all[what] = x.count(what);
        }
        return all;
    }

    private static void asNew(JarGuess x) {
        dueAll("the counts", counts(x), 0, 0, 1, 100, 10, 100, 0, 0, 0, 0, 0, 0);
        due("a guesser", x.guesser(0, 0), -2);
        for (int t = 1; t <= 100; t++) {
            due("weight(" + t + ")", x.weight(t), 1);
        }
        due("below the grid", x.weight(0), -3);
        due("above the grid", x.weight(101), -3);
    }

    /** A line as it should be; with each token but the first lacking, another one, and one too many. */
    private static void wholeAndBroken(String[] line) {
        String text = String.join(" ", line);
        good(text + ";", 1);
        bad(text, 2, text.length());
        bad(text + " 7;", 2, text.length() + 1);
        bad(text + " hidden;", 2, text.length() + 1);
        bad(text.substring(1) + ";", 2, 0);
        bad("x" + text + ";", 2, 0);
        bad(line[0] + "s" + text.substring(line[0].length()) + ";", 2, 0);
        for (int i = 0; i < line[0].length(); i++) {
            bad(text.substring(0, i) + "x" + text.substring(i + 1) + ";", 2, 0);
        }
        String begun = line[0];
        for (int i = 1; i < line.length; i++) {
            boolean whole = line[0].equals("guesser") && i == 3;
            if (!whole) {
                bad(begun + ";", 2, begun.length());
                bad(begun, 2, begun.length());
            }
            String other = line[i].equals("copy") ? "copies" : "x";
            bad(begun + " " + other + ";", 2, begun.length() + 1);
            begun += " " + line[i];
        }
    }

    private static void bounds() {
        says("grid: LOW 1 to 999", () -> {
            ends(n -> "grid " + n + " " + n + ";", 5, 1, 999);
            due("LOW 1", told("grid 1 1;").count(2), 1);
            due("LOW 999", told("grid 999 999;").count(2), 999);
        });
        says("HIGH not below LOW", () -> {
            good("grid 7 7;", 1);
            bad("grid 7 6;", 3, 7);
            bad("grid 7 0;", 3, 7);
            bad("grid 1 0;", 3, 7);
            bad("grid 999 998;", 3, 9);
            due("HIGH 7", told("grid 7 7;").count(3), 7);
        });
        says("199 above it at most", () -> {
            ends(n -> "grid 1 " + n + ";", 7, 1, 200);
            ends(n -> "grid 801 " + n + ";", 9, 801, 1000);
            ends(n -> "grid 999 " + n + ";", 9, 999, 1198);
            due("HIGH 1198", told("grid 999 1198;").count(3), 1198);
            due("its weight", told("grid 999 1198;").weight(1198), 1);
            due("above it", told("grid 999 1198;").weight(1199), -3);
        });
        says("(later ones strike)", () -> {
            JarGuess x = told("grid 900 999;grid 2 3;");
            due("LOW", x.count(2), 2);
            due("HIGH", x.count(3), 3);
            x = told("grid 2 3;grid 4 203;");
            due("LOW, the other way", x.count(2), 4);
            due("HIGH, the other way", x.count(3), 203);
            bad("grid 2 3;grid 4 204;", 3, 16);
        });
        says("prior: CENTRE 0 to 999", () -> {
            ends(n -> "prior " + n + " 1;", 6, 0, 999);
            due("a step from 0", told("prior 0 1;").weight(1), 8);
            due("at 999", told("grid 990 1005;prior 999 1;").weight(999), 9);
            due("a step above 999", told("grid 990 1005;prior 999 1;").weight(1000), 8);
        });
        says("and STEEP 0 to 8", () -> {
            ends(n -> "prior 50 " + n + ";", 9, 0, 8);
            due("STEEP 0", told("prior 50 0;").weight(100), 9);
            due("STEEP 8", told("prior 50 8;").weight(51), 1);
        });
        says("WEIGHT of a number t is 9 less STEEP for each step from CENTRE", () -> {
            JarGuess x = told("prior 50 1;");
            JarGuess y = told("prior 50 4;prior 50 2;");
            for (int step = 0; step <= 8; step++) {
                due("below by " + step, x.weight(50 - step), 9 - step);
                due("above by " + step, x.weight(50 + step), 9 - step);
                due("steeper by " + step, y.weight(50 + step), Math.max(1, 9 - 2 * step));
            }
        });
        says("1 at least", () -> {
            JarGuess x = told("prior 50 1;");
            due("by eight steps", x.weight(58), 1);
            due("by nine", x.weight(59), 1);
            due("by fifty", x.weight(100), 1);
            x = told("prior 50 3;");
            due("9 less 6", x.weight(48), 3);
            due("9 less 9", x.weight(47), 1);
            due("9 less 12", x.weight(46), 1);
            due("9 less 16", told("prior 50 8;").weight(52), 1);
            due("far from 999", told("grid 1 1;prior 999 8;").weight(1), 1);
        });
        says("(without a prior: 1)", () -> {
            due("flat", told("jar 50;").weight(50), 1);
            JarGuess x = told("prior 50 1;");
            tell(x, "jar 50;");
            due("flat again", x.weight(50), 1);
        });
        says("guesser: LEAN 1 to 200 (hundredths)", () -> {
            ends(n -> "guesser " + n + " 5;", 8, 1, 200);
            due("LEAN 1", told("guesser 1 5;").guesser(0, 0), 1);
            due("LEAN 200", told("guesser 200 5;").guesser(0, 0), 200);
            due("one hundredth", told("guesser 1 5;").sight(0, 100), 1);
            due("two hundred", told("guesser 200 5;").sight(0, 100), 200);
        });
        says("SPREAD 0 to 20", () -> {
            ends(n -> "guesser 100 " + n + ";", 12, 0, 20);
            ends(n -> "guesser 100 " + n + " copy 1;", 12, 0, 20);
            due("SPREAD 0", told("guesser 100 0;").guesser(0, 1), 0);
            due("SPREAD 20", told("guesser 100 20;").guesser(0, 1), 20);
        });
        says("COPY 0 to 10 (0)", () -> {
            ends(n -> "guesser 100 20 copy " + n + ";", 20, 0, 10);
            due("COPY 0", told("guesser 100 20 copy 0;").guesser(0, 2), 0);
            due("COPY 10", told("guesser 100 20 copy 10;").guesser(0, 2), 10);
            due("not told", told("guesser 100 20;").guesser(0, 2), 0);
            JarGuess x = told("guesser 100 20 copy 10;");
            tell(x, "guesser 100 20;");
            due("not told then", x.guesser(0, 2), 0);
        });
        says("6 at most, numbered from 0 on as they come", () -> {
            JarGuess x = told(SIX);
            due("six", x.count(0), 6);
            for (int g = 0; g < 6; g++) {
                due("LEAN of " + g, x.guesser(g, 0), 11 * g + 11);
                due("SPREAD of " + g, x.guesser(g, 1), g + 1);
            }
            due("no seventh", x.guesser(6, 0), -2);
            bad(SIX + "guesser 77 7;", 4, SIX.length());
            due("other lines between", told("guesser 7 1;jar 5;guesser 8 1;").guesser(1, 0), 8);
        });
        says("hidden: nobody sees the list.", () -> {
            JarGuess x = written("hidden;guesser 100 0 copy 10;jar 9;", 5, 5);
            due("no goal", x.list(1, 2), -1);
            due("none copies", x.odds(5, 2), 100);
            due("no ways to have copied", x.copied(1, 2), 0);
            x.come(1, 1);
            due("a comer looks for herself", x.list(2, 0), 9);
            x = written("guesser 100 0 copy 10;jar 9;", 5, 5);
            x.come(1, 1);
            due("a comer who sees it", x.list(2, 0), 5);
        });
        says("price 0 to 99", () -> {
            ends(n -> "price " + n + ";", 6, 0, 99);
            due("0", told("price 0;").count(4), 0);
            due("99", told("price 99;").count(4), 99);
        });
        says("prize 0 to 9999", () -> {
            good("prize 0;", 1);
            good("prize 9999;", 1);
            bad("prize 10000;", 1, 6);
            due("0", told("prize 0;").count(5), 0);
            due("9999", told("prize 9999;").count(5), 9999);
        });
        says("jar: how many there are, 1 to 999.", () -> {
            ends(n -> "jar " + n + ";", 4, 1, 999);
            due("1", told("jar 1;").count(6), 1);
            due("999", told("jar 999;").count(6), 999);
        });
        says("Later ones strike.", () -> {
            JarGuess x = told("prior 5 0;price 1;prize 2;jar 3;hidden;prior 6 8;price 4;prize 5;jar 6;hidden;");
            dueAll("all told twice", counts(x), 0, 0, 1, 100, 4, 5, 6, 1, 0, 10, 0, 0);
            due("CENTRE", x.weight(6), 9);
            due("STEEP", x.weight(7), 1);
            due("the first CENTRE", x.weight(5), 1);
        });
    }

    private static void tokens() {
        says("TOKENS, as long as they go on", () -> {
            bad("jars 5;", 2, 0);
            bad("gridprior 1 2;", 2, 0);
            bad("guesser 1 1 copying 1;", 2, 12);
            due("a number's last digit", told("jar 123;").count(6), 123);
            bad("jar 12 3;", 2, 7);
            bad("gr id 1 2;", 2, 0);
            good("jar5;jar6;", 2);
            good("guesser100 20copy10;", 1);
            due("a word ends a number", told("guesser100 20copy10;").guesser(0, 2), 10);
            due("a sign ends a number", told("jar77;price3;").count(6), 77);
        });
        says("between them blanks (10, 32)", () -> {
            good("\n \n jar \n\n 5 \n ; \n ", 1);
            for (char other : new char[] {0, 9, 11, 12, 13, 31, 33, 127, 138, 160, 255}) {
                bad("jar" + other + "5;", 1, 3);
                bad(other + "jar 5;", 1, 0);
                bad("jar 5;" + other, 1, 6);
            }
        });
        says("words (small letters)", () -> {
            for (char letter = 'a'; letter <= 'z'; letter++) {
                bad("jar" + letter + " 5;", 2, 0);
                bad(letter + ";", 2, 0);
            }
            for (char other : new char[] {'`', '{', 'A', 'J', 'Z', '@', '[', '_', 0xe9, 0xea, 0xf2, 0xe1}) {
                bad("jar" + other + " 5;", 1, 3);
                bad(other + "ar 5;", 1, 0);
            }
        });
        says("N (1 to 4 digits)", () -> {
            for (int digit = 0; digit <= 9; digit++) {
                due("digit " + digit, told("prize " + digit + ";").count(5), digit);
                due("digits " + digit, told("prize 1" + digit + "00;").count(5), 1000 + 100 * digit);
            }
            due("0007", told("jar 0007;").count(6), 7);
            due("0999", told("jar 0999;").count(6), 999);
            bad("jar 00007;", 1, 4);
            bad("prize 99999;", 1, 6);
            bad("jar /;", 1, 4);
            bad("jar :;", 1, 4);
            bad("jar 1/;", 1, 5);
            bad("jar 1:;", 1, 5);
            bad("jar -1;", 1, 4);
            bad("jar +1;", 1, 4);
            bad("jar 1.0;", 1, 5);
        });
        says("the sign ;.", () -> {
            good("hidden;", 1);
            good("hidden ;", 1);
            bad("hidden:", 1, 6);
            bad("hidden,", 1, 6);
            bad("hidden<", 1, 6);
            bad("hidden\u00bb", 1, 6);
        });
    }

    private static void faults() {
        says("FAULTS, the first along the text", () -> {
            bad("jar 0;x;12345;", 3, 4);
            bad("x;jar 0;12345;", 2, 0);
            bad("12345;x;jar 0;", 1, 0);
            bad("jar x 12345;", 2, 4);
            bad("grid 0 12345;", 3, 5);
            bad("grid 5 4 A;", 3, 7);
            bad(SIX + "jar 0;guesser 1 1;", 3, SIX.length() + 4);
            bad(SIX + "guesser 0 0;A", 4, SIX.length());
            bad(SIX + "guesser", 4, SIX.length());
            bad("jar 5;\n jar 0;", 3, 12);
        });
        says("of one TOKEN the least kind", () -> {
            bad("jar 5 12345;", 1, 6);
            bad("12345;", 1, 0);
            bad("A;", 1, 0);
            bad("jar 5 0;", 2, 6);
            bad("hidden 9999;", 2, 7);
            bad(SIX + "jar guesser 1 1;", 2, SIX.length() + 4);
            bad(SIX + "hidden guesser 1 1;", 2, SIX.length() + 7);
            bad("grid 1 99999;", 1, 7);
        });
        says("1 no TOKEN begins so (5 digits and more: at their first).", () -> {
            bad("jar 12345;", 1, 4);
            bad("jar 123456789012345678901234567890;", 1, 4);
            bad("jar 00000;", 1, 4);
            bad("jar 99999", 1, 4);
            bad("jar5 ;jar12345", 1, 9);
            bad("?", 1, 0);
            bad("jar 5;\u00ff", 1, 6);
            bad("grid5,6;", 1, 5);
        });
        says("2 it can't stand there (the end: the text's length).", () -> {
            bad("jar", 2, 3);
            bad("jar ", 2, 4);
            bad("jar 5", 2, 5);
            bad("jar 5 \n ", 2, 8);
            bad("hidden;jar", 2, 10);
            bad("guesser 1 1 copy", 2, 16);
            bad("guesser 1 1", 2, 11);
            bad(" ".repeat(694) + "hidden", 2, 700);
            bad("jar ;", 2, 4);
            bad("jar jar;", 2, 4);
            bad(" ;", 2, 1);
            bad(" 5;", 2, 1);
        });
        says("3 an N out of its bounds.", () -> {
            bad("jar 0;", 3, 4);
            bad("jar 0", 3, 4);
            bad("jar 1000 x", 3, 4);
            bad("jar 0000;", 3, 4);
            bad("hidden;price 100;", 3, 13);
            bad("guesser 1 1 copy 11;", 3, 17);
            bad("grid 0 0;", 3, 5);
        });
        says("4 the first TOKEN of a 7th guesser.", () -> {
            good(SIX, 6);
            bad(SIX + "guesser 1 1;", 4, SIX.length());
            bad(SIX + " \n guesser 1 1;", 4, SIX.length() + 3);
            bad(SIX + "hidden;guesser 1 1;guesser 1 1;", 4, SIX.length() + 7);
            good(SIX + "hidden;", 7);
            bad(SIX + "guessers 1 1;", 2, SIX.length());
            JarGuess x = told(SIX);
            due("six, and six of another text", tell(x, SIX), 6);
        });
    }

    private static void newObject() {
        promise(1);
        says("As without a text", () -> {
            JarGuess x = new JarGuess();
            asNew(x);
            due("no fault", x.fault(0), 0);
            due("no place", x.fault(1), -1);
            JarGuess y = new JarGuess();
            y.fete(0);
            dueAll("a new one, and one without a text,", look(x), look(y));
        });
        says("THE LIST empty", () -> {
            due("guesses", new JarGuess().count(1), 0);
            due("the first", new JarGuess().list(0, 0), -2);
            due("a leader", new JarGuess().leader(5), -1);
            due("a mean", new JarGuess().mean(0), -1);
            JarGuess x = hall();
            due("another object's", new JarGuess().count(1), 0);
            due("and its own", x.count(1), 3);
        });
    }

    private static void feed() {
        promise(2);
        says("Twenty bytes come behind those on THE TAPE", () -> {
            JarGuess x = new JarGuess();
            feedBytes(x, "price 7;prize 8;grid");
            feedBytes(x, " 20 30;jar 25;hidden");
            feedBytes(x, ";                   ");
            due("three times twenty", x.fete(41), 5);
            dueAll("what they tell", counts(x), 0, 0, 20, 30, 7, 8, 25, 1, 0, 5, 0, 0);
        });
        says("the highest of each int first", () -> {
            JarGuess x = new JarGuess();
            x.feed(0x6a617220, 0x373b6775, 0x65737365, 0x72203930, 0x20323b20);
            due("jar 7;guesser 90 2;", x.fete(20), 2);
            due("the jar", x.count(6), 7);
            due("the lean", x.guesser(0, 0), 90);
            x = new JarGuess();
            x.feed(0x6a617220, 0x353bff80, 0, 0, 0);
            due("a byte of 255", x.fete(20), -31);
            due("its place", x.fault(1), 6);
        });
        says("how many it has", () -> {
            JarGuess x = new JarGuess();
            for (int i = 1; i <= 35; i++) {
                due("the " + i + ". time", x.feed(MOST, LEAST, 0, -1, 1), 20 * i);
                due("on the tape", x.count(8), 20 * i);
            }
        });
        says("-5: it would have more than 700.", () -> {
            State filled = () -> {
                JarGuess x = busy();
                x.fete(0);
                feedText(x, "jar 9;" + " ".repeat(694));
                return x;
            };
            due("it has", filled.make().count(8), 700);
            refused("a 36th time", filled, x -> x.feed(0x41414141, 1, 2, 3, 4), -5);
            State nearly = () -> {
                JarGuess x = new JarGuess();
                feedText(x, " ".repeat(680));
                return x;
            };
            due("up to 700", nearly.make().feed(1, 2, 3, 4, 5), 700);
            JarGuess x = filled.make();
            x.fete(6);
            due("when it is empty again", x.feed(1, 2, 3, 4, 5), 20);
        });
    }

    private static void fete() {
        promise(3);
        says("The first n bytes of THE TAPE", () -> {
            JarGuess x = new JarGuess();
            feedText(x, "jar 5;jar 6;A jar 8;");
            due("its first twelve", x.fete(12), 2);
            due("what they tell", x.count(6), 6);
            feedText(x, "jar 5;jar 6;A jar 8;");
            due("its first six", x.fete(6), 1);
            due("what these tell", x.count(6), 5);
            feedText(x, "jar 555;            ");
            due("cut within a number", x.fete(5), -32);
            due("where the text ends", x.fault(1), 5);
            feedText(x, "price 5;            ");
            due("cut within a word", x.fete(4), -32);
            due("what is left of it can't stand there", x.fault(1), 0);
            feedText(x, "hidden;             ");
            due("none of them", x.fete(0), 0);
            due("it tells nothing", x.count(7), 0);
            feedText(x, "hidden;             ");
            due("all of them", x.fete(20), 1);
        });
        says("(which is empty then)", () -> {
            JarGuess x = new JarGuess();
            feedText(x, "jar 5;jar 6;        ");
            due("read", x.fete(6), 1);
            due("the tape", x.count(8), 0);
            due("the rest is gone", x.fete(1), -3);
            feedText(x, "jar 7;");
            due("what comes then is first", x.fete(6), 1);
            due("it tells", x.count(6), 7);
            feedText(x, "A");
            due("with a fault", x.fete(1), -31);
            due("the tape too", x.count(8), 0);
            feedText(x, "A");
            due("without a byte", x.fete(0), 0);
            due("the tape as well", x.count(8), 0);
        });
        says("are THE FETE, THE LIST is empty", () -> {
            JarGuess x = hall();
            x.jar(3);
            due("it had", x.count(1), 3);
            due("a text", tell(x, "guesser 100 1;price 4;"), 2);
            dueAll("then", counts(x), 1, 0, 1, 100, 4, 100, 0, 0, 0, 2, 0, 0);
            due("no guess", x.list(0, 0), -2);
            due("nor by a guesser", x.guesser(0, 3), 0);
            due("no mean", x.mean(0), -1);
        });
        says("how many LINES", () -> {
            due("none", tell(new JarGuess(), "   "), 0);
            due("one", tell(new JarGuess(), "hidden;"), 1);
            due("eight", tell(new JarGuess(), SIX + "jar 5;jar 5;"), 8);
            due("a hundred", tell(new JarGuess(), "hidden;".repeat(100)), 100);
        });
        says("(all stays with a FAULT)", () -> {
            String[] spoilt = {"grid 20 30;prior 3 3;hidden;price 5;prize 5;jar 5;guesser 7 7 copy 7;" + "x", "jar 5;A",
                "guesser 9 9;jar 0;", SIX + "guesser 1 1;", "grid 2", "hidden"};
            for (String text : spoilt) {
                JarGuess x = busy();
                x.fete(0);
                x.restore(0);
                long[] before = lookAtList(x);
                due("the fault of " + text, tell(x, text) < -30 ? 1 : 0, 1);
                dueAll("after " + text + " a look", lookAtList(x), before);
                due("a row", x.put(0, 1, 300), 300);
                due("an image", x.restore(0), 0);
                dueAll("after " + text + " the image", lookAtList(x), before);
            }
        });
        says("-3: n is below 0 or above what there is (THE TAPE stays)", () -> {
            bounds("fete", TextSentences::taped, (x, n) -> x.fete(n), 0, 40, -3);
            bounds("fete of an empty tape", JarGuess::new, (x, n) -> x.fete(n), 0, 0, -3);
            JarGuess x = taped();
            x.fete(41);
            due("the tape", x.count(8), 40);
            due("what is on it", x.fete(40), 2);
        });
        says("-30 less the FAULT.", () -> {
            due("1", tell(new JarGuess(), "A"), -31);
            due("2", tell(new JarGuess(), "a"), -32);
            due("3", tell(new JarGuess(), "jar 0;"), -33);
            due("4", tell(new JarGuess(), SIX + SIX), -34);
        });
    }

    private static JarGuess taped() {
        JarGuess x = hall();
        feedText(x, "jar 5;              price 7;            ");
        return x;
    }

    private static void fault() {
        promise(4);
        says("Of the latest fete() that was read", () -> {
            JarGuess x = new JarGuess();
            tell(x, "  A");
            due("the first text", x.fault(1), 2);
            tell(x, "jar 0;");
            due("the second text", x.fault(0), 3);
            due("one that is not read", x.fete(1), -3);
            due("nor", x.fete(-1), -3);
            due("still the second", x.fault(0), 3);
            due("its place", x.fault(1), 4);
            x.image(0);
            tell(x, "a");
            x.restore(0);
            due("an image has none", x.fault(0), 2);
            feedText(x, "A");
            due("nor has a tape", x.fault(0), 2);
            due("an empty text", x.fete(0), 0);
            due("is without one", x.fault(0), 0);
            due("at no place", x.fault(1), -1);
        });
        says("what 0: its FAULT (0)", () -> {
            due("at first", new JarGuess().fault(0), 0);
            due("of a good text", told("jar 5;").fault(0), 0);
            String[] texts = {"A", "a", "jar 0;", SIX + SIX};
            for (int kind = 1; kind <= 4; kind++) {
                JarGuess x = new JarGuess();
                tell(x, texts[kind - 1]);
                due("kind " + kind, x.fault(0), kind);
            }
        });
        says("1: its place (NONE)", () -> {
            due("at first", new JarGuess().fault(1), -1);
            due("of a good text", told("jar 5;").fault(1), -1);
            JarGuess x = new JarGuess();
            tell(x, "A");
            due("the first byte", x.fault(1), 0);
            tell(x, " ".repeat(699) + "A");
            due("the 700th byte", x.fault(1), 699);
            tell(x, " ".repeat(697) + "jar");
            due("behind the 700th byte", x.fault(1), 700);
        });
        says("NONE for others.", () -> {
            for (int what : new int[] {LEAST, -2, -1, 2, 3, MOST}) {
                asked("fault(" + what + ")", Bench::busy, x -> x.fault(what), -1);
            }
        });
    }

    private static void guesser() {
        promise(5);
        says("Of a GUESSER, what 0: LEAN, 1: SPREAD, 2: COPY", () -> {
            asked("LEAN of 0", Bench::hall, x -> x.guesser(0, 0), 100);
            asked("SPREAD of 0", Bench::hall, x -> x.guesser(0, 1), 1);
            asked("COPY of 0", Bench::hall, x -> x.guesser(0, 2), 4);
            asked("LEAN of 1", Bench::hall, x -> x.guesser(1, 0), 120);
            asked("SPREAD of 1", Bench::hall, x -> x.guesser(1, 1), 2);
            asked("COPY of 1", Bench::hall, x -> x.guesser(1, 2), 0);
        });
        says("3: GUESSES on THE LIST", () -> {
            asked("none", () -> told(HALL), x -> x.guesser(0, 3), 0);
            asked("two", Bench::hall, x -> x.guesser(0, 3), 2);
            asked("one", Bench::hall, x -> x.guesser(1, 3), 1);
            asked("twenty", Bench::full, x -> x.guesser(1, 3), 20);
            JarGuess x = hall();
            x.strike(2);
            due("when it is struck", x.guesser(1, 3), 0);
            JarGuess y = told("guesser 1 1;");
            for (int i = 0; i < 40; i++) {
                y.write(0, 1);
            }
            due("forty", y.guesser(0, 3), 40);
        });
        says("4: the latest of these (its place; NONE)", () -> {
            asked("none", () -> told(HALL), x -> x.guesser(0, 4), -1);
            asked("the last", Bench::hall, x -> x.guesser(0, 4), 2);
            asked("one between", Bench::hall, x -> x.guesser(1, 4), 1);
            asked("place 39", Bench::full, x -> x.guesser(1, 4), 39);
            asked("place 38", Bench::full, x -> x.guesser(0, 4), 38);
            JarGuess x = hall();
            x.strike(1);
            due("the one ahead", x.guesser(0, 4), 0);
            x.strike(1);
            due("none left", x.guesser(1, 4), -1);
        });
        says("-2.", () -> {
            bounds("guesser of what 0", Bench::busy, (x, g) -> x.guesser(g, 0), 0, 1, -2);
            bounds("guesser of what 4", Bench::hall, (x, g) -> x.guesser(g, 4), 0, 1, -2);
            bounds("guesser 0", Bench::busy, (x, what) -> x.guesser(0, what), 0, 4, -2);
            bounds("a sixth guesser", () -> told(SIX), (x, g) -> x.guesser(g, 0), 0, 5, -2);
            refused("without guessers", JarGuess::new, x -> x.guesser(0, 0), -2);
            refused("neither", Bench::busy, x -> x.guesser(2, 5), -2);
        });
    }

    private static void sight() {
        promise(6);
        says("SIGHT of a GUESSER for t.", () -> {
            asked("120 of 9", Bench::hall, x -> x.sight(1, 9), 10);
            asked("120 of 4", Bench::hall, x -> x.sight(1, 4), 4);
            asked("100 of 999", Bench::hall, x -> x.sight(0, 999), 999);
            asked("off the grid", Bench::hall, x -> x.sight(1, 500), 600);
            asked("1", Bench::hall, x -> x.sight(0, 1), 1);
        });
        says("-2", () -> {
            bounds("sight of 5", Bench::busy, (x, g) -> x.sight(g, 5), 0, 1, -2);
            refused("without guessers", JarGuess::new, x -> x.sight(0, 5), -2);
        });
        says("-3: t isn't 1 to 999.", () -> {
            bounds("sight of guesser 0", Bench::busy, (x, t) -> x.sight(0, t), 1, 999, -3);
            refused("on a grid above 999", () -> told("grid 999 1198;guesser 100 1;"), x -> x.sight(0, 1000), -3);
        });
    }

    private static void weight() {
        promise(7);
        says("WEIGHT of t.", () -> {
            long[] of = {1, 3, 5, 7, 9, 7, 5, 3, 1};
            for (int t = 1; t <= 9; t++) {
                int at = t;
                asked("weight(" + t + ")", Bench::hall, x -> x.weight(at), of[t - 1]);
            }
        });
        says("-3: it is not of the grid.", () -> {
            bounds("weight", Bench::busy, (x, t) -> x.weight(t), 1, 9, -3);
            bounds("weight without a text", JarGuess::new, (x, t) -> x.weight(t), 1, 100, -3);
            bounds("weight on a high grid", () -> told("grid 999 1198;"), (x, t) -> x.weight(t), 999, 1198, -3);
            bounds("weight on one number", () -> told("grid 7 7;"), (x, t) -> x.weight(t), 7, 7, -3);
        });
    }

    private static void jar() {
        promise(8);
        says("JAR is so many (0: not told)", () -> {
            JarGuess x = hall();
            x.jar(1);
            due("1", x.count(6), 1);
            due("how far the first guess is", x.list(0, 3), 4);
            x.jar(999);
            due("999", x.count(6), 999);
            x.jar(0);
            due("not told", x.count(6), 0);
            due("nobody wins", x.winner(), -5);
            due("the list stays", x.count(1), 3);
            due("the text stays", x.count(9), 7);
        });
        says("as it was (0)", () -> {
            JarGuess x = new JarGuess();
            due("at first", x.jar(7), 0);
            due("then", x.jar(7), 7);
            due("then", x.jar(0), 7);
            due("then", x.jar(999), 0);
            due("of a text", hall().jar(1), 6);
        });
        says("-3: it isn't 0 to 999.", () -> {
            bounds("jar", Bench::busy, (x, t) -> x.jar(t), 0, 999, -3);
            bounds("jar on a high grid", () -> told("grid 999 1198;"), (x, t) -> x.jar(t), 0, 999, -3);
        });
    }
}
