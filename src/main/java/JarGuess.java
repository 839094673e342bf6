/** How many in the jar: a fete, its list of guesses, who wins, the odds and what to write. */
public final class JarGuess {
    public static final int NONE = -1;

    private static final int NO_SUCH = -2;
    private static final int BAD_NUMBER = -3;
    private static final int TOO_MANY = -4;
    private static final int NOT_NOW = -5;
    private static final int ROW_MISSING = -6;
    private static final int NO_PLACE = -7;
    private static final int TEXT_FAULT = -30;

    private static final int TAPE_BYTES = 700;
    private static final int FED_BYTES = 20;
    private static final int MOST_GUESSERS = 6;
    private static final int MOST_GUESSES = 40;
    private static final int MOST_NUMBER = 2000;
    private static final int MOST_JAR = 999;
    private static final int MOST_GRID = 200;
    private static final int MOST_COUNTED = 4;
    private static final int GAME_GRID = 24;
    private static final int GAME_WRITERS = 3;
    private static final int MOST_ALONE = 8;
    private static final int MOST_SPREAD = 20;
    private static final int FIRST_FEW = 9;
    private static final int TOLD_GUESSER = 10000;
    private static final int MOST_FETES = 40;
    private static final int MOST_COMERS = 30;
    private static final int MOST_LAYERS = 99;
    private static final int MOST_RINGS = 30;
    private static final int MOST_AIR = 99;
    private static final int MOST_SWEETS = 9999;
    private static final int ROWS = 4;
    private static final int SORTS = 4;
    private static final int ROW_PLACES = 40;
    private static final int IMAGES = 2;

    private final byte[] tape = new byte[TAPE_BYTES];
    private int taped;
    private final Fete fete;
    private final Fete draft = new Fete();
    private final Reader reader = new Reader();
    private final Sheet sheet;
    private final Sheet trial = new Sheet();
    private final Draws draws = new Draws();
    private final Shares shares;
    private final Writers writers;
    private final Offs offs = new Offs();
    private final Row[] rows = new Row[ROWS];
    private final Image[] images = new Image[IMAGES];

    public JarGuess() {
        Fete told = new Fete();
        Sheet written = new Sheet();
        Shares laid = new Shares(told, written);
        fete = told;
        sheet = written;
        shares = laid;
        writers = new Writers(laid);
        for (int i = 0; i < ROWS; i++) {
            rows[i] = new Row();
        }
        for (int i = 0; i < IMAGES; i++) {
            images[i] = new Image();
        }
    }

    // ---- the fete

    public int feed(int a, int b, int c, int d, int e) {
        if (taped + FED_BYTES > TAPE_BYTES) {
            return NOT_NOW;
        }
        tapeInt(a);
        tapeInt(b);
        tapeInt(c);
        tapeInt(d);
        tapeInt(e);
        return taped;
    }

    private void tapeInt(int value) {
        for (int shift = 24; shift >= 0 && taped < TAPE_BYTES; shift -= 8) {
            tape[taped] = (byte) (value >>> shift);
            taped++;
        }
    }

    public int fete(int n) {
        if (n < 0 || n > taped) {
            return BAD_NUMBER;
        }
        taped = 0;
        reader.readText(tape, n, draft);
        if (reader.faultKind != 0) {
            return TEXT_FAULT - reader.faultKind;
        }
        fete.takeFrom(draft);
        sheet.cutTo(0);
        return fete.lines;
    }

    public int fault(int what) {
        switch (what) {
            case 0: return reader.faultKind;
            case 1: return reader.faultPlace;
            default: return NONE;
        }
    }

    public int guesser(int g, int what) {
        if (!fete.has(g)) {
            return NO_SUCH;
        }
        switch (what) {
            case 0: return fete.lean[g];
            case 1: return fete.spread[g];
            case 2: return fete.copying[g];
            case 3: return sheet.writtenBy(g);
            case 4: return sheet.latestBy(g);
            default: return NO_SUCH;
        }
    }

    public int sight(int g, int t) {
        if (!fete.has(g)) {
            return NO_SUCH;
        }
        return isJar(t) ? fete.sightOf(g, t) : BAD_NUMBER;
    }

    public int weight(int t) {
        return fete.spans(t) ? fete.weightOf(t) : BAD_NUMBER;
    }

    public int jar(int t) {
        if (t != 0 && !isJar(t)) {
            return BAD_NUMBER;
        }
        int before = fete.inside;
        fete.inside = t;
        return before;
    }

    private static boolean isJar(int t) {
        return t >= 1 && t <= MOST_JAR;
    }

    private static boolean isNumber(int v) {
        return v >= 0 && v <= MOST_NUMBER;
    }

    // ---- the list

    public int write(int g, int v) {
        if (!fete.has(g)) {
            return NO_SUCH;
        }
        if (!isNumber(v)) {
            return BAD_NUMBER;
        }
        if (sheet.size >= MOST_GUESSES) {
            return TOO_MANY;
        }
        sheet.add(g, v);
        return sheet.size;
    }

    public int strike(int n) {
        if (n < 0 || n > sheet.size) {
            return BAD_NUMBER;
        }
        sheet.cutTo(sheet.size - n);
        return sheet.size;
    }

    public int list(int k, int what) {
        if (!sheet.has(k)) {
            return NO_SUCH;
        }
        switch (what) {
            case 0: return sheet.number[k];
            case 1: return sheet.writer[k];
            case 2: return sheet.goalAt(k, fete.hidden);
            case 3: return fete.inside == 0 ? NONE : offJar(sheet.number[k]);
            case 4: return sheet.firstOf(sheet.number[k]);
            default: return NO_SUCH;
        }
    }

    private int offJar(int v) {
        return Math.abs(v - fete.inside);
    }

    public int judge(int row, int what) {
        if (!isRow(row) || what < 0 || what > 2) {
            return NO_SUCH;
        }
        Row told = rows[row];
        if (told.isMissing()) {
            return ROW_MISSING;
        }
        int good = writable(told);
        if (what == 0) {
            return good < told.size ? good : NONE;
        }
        if (what == 1) {
            return good < told.size ? tellFault(told.place[good], sheet.size + good) : 0;
        }
        return meanWith(told, good);
    }

    public int perform(int row) {
        if (!isRow(row)) {
            return NO_SUCH;
        }
        Row told = rows[row];
        if (told.isMissing()) {
            return ROW_MISSING;
        }
        int good = writable(told);
        for (int i = 0; i < good; i++) {
            sheet.add(toldGuesser(told.place[i]), toldNumber(told.place[i]));
        }
        return good;
    }

    private int writable(Row told) {
        for (int i = 0; i < told.size; i++) {
            if (tellFault(told.place[i], sheet.size + i) != 0) {
                return i;
            }
        }
        return told.size;
    }

    private int tellFault(long told, int written) {
        if (told < 0 || told >= (long) TOLD_GUESSER * fete.guessers || !isNumber(toldNumber(told))) {
            return 1;
        }
        return written >= MOST_GUESSES ? 2 : 0;
    }

    private static int toldGuesser(long told) {
        return (int) (told / TOLD_GUESSER);
    }

    private static int toldNumber(long told) {
        return (int) (told % TOLD_GUESSER);
    }

    private int meanWith(Row told, int good) {
        int many = sheet.size + good;
        if (many == 0) {
            return NONE;
        }
        int sum = sheet.sumOf(sheet.size);
        for (int i = 0; i < good; i++) {
            sum += toldNumber(told.place[i]);
        }
        return sum / many;
    }

    public int come(int seed, int n) {
        if (n < 1 || n > MOST_GUESSES) {
            return BAD_NUMBER;
        }
        if (!canDraw()) {
            return NOT_NOW;
        }
        if (sheet.size + n > MOST_GUESSES) {
            return TOO_MANY;
        }
        draws.start(seed);
        draws.fill(fete, sheet, n, fete.hidden);
        return sheet.size;
    }

    private boolean canDraw() {
        return fete.guessers > 0 && fete.inside != 0;
    }

    // ---- who wins, means

    public int leader(int t) {
        return isJar(t) ? sheet.nearestTo(t) : BAD_NUMBER;
    }

    public int winner() {
        return fete.inside == 0 ? NOT_NOW : sheet.nearestTo(fete.inside);
    }

    public int wins(int k, int what) {
        if (!sheet.has(k) || what < 0 || what > 3) {
            return NO_SUCH;
        }
        Reach reach = shares.reachOf(k);
        if (what == 0) {
            return reach.width();
        }
        if (what == 3) {
            shares.weigh(0);
            return (int) shares.sum(reach.first, reach.last);
        }
        if (reach.width() == 0) {
            return NONE;
        }
        return what == 1 ? reach.first : reach.last;
    }

    public int mean(int what) {
        switch (what) {
            case 0: return sheet.meanOf(sheet.size);
            case 1: return sheet.middle();
            case 2: return sheet.meanOf(Math.min(sheet.size, FIRST_FEW));
            case 3: return sheet.least();
            case 4: return sheet.greatest();
            default: return NO_SUCH;
        }
    }

    public int nearest() {
        if (fete.inside == 0) {
            return NOT_NOW;
        }
        if (sheet.size == 0) {
            return NONE;
        }
        int found = 0;
        for (int which = 1; which <= 3; which++) {
            if (offJar(pointer(which)) < offJar(pointer(found))) {
                found = which;
            }
        }
        return found;
    }

    private int pointer(int which) {
        if (which < 3) {
            return mean(which);
        }
        int k = sheet.nearestTo(fete.inside);
        return sheet.has(k) ? sheet.number[k] : NONE;
    }

    // ---- odds of how many

    private boolean canCount(int m) {
        return m >= 0 && m <= MOST_COUNTED && m <= sheet.size;
    }

    public long odds(int t, int m) {
        return fete.spans(t) && canCount(m) ? shares.waysFor(t, m, NONE) : BAD_NUMBER;
    }

    public long out(int m) {
        if (!canCount(m)) {
            return BAD_NUMBER;
        }
        shares.weigh(m);
        return shares.total();
    }

    public int likeliest(int m) {
        if (!canCount(m)) {
            return BAD_NUMBER;
        }
        int found = NONE;
        long most = 0;
        for (int t = fete.low; t <= fete.high; t++) {
            long ways = shares.waysFor(t, m, NONE);
            if (ways > most) {
                most = ways;
                found = t;
            }
        }
        return found;
    }

    public int span(int m, int what) {
        if (what < 0 || what > 2) {
            return NO_SUCH;
        }
        if (!canCount(m)) {
            return BAD_NUMBER;
        }
        int first = NONE;
        int last = NONE;
        int many = 0;
        for (int t = fete.low; t <= fete.high; t++) {
            if (shares.waysFor(t, m, NONE) > 0) {
                first = many == 0 ? t : first;
                last = t;
                many++;
            }
        }
        if (what == 2) {
            return many;
        }
        return what == 0 ? first : last;
    }

    public long expect(int m, int what) {
        if (what < 0 || what > 2) {
            return NO_SUCH;
        }
        if (!canCount(m)) {
            return BAD_NUMBER;
        }
        shares.weigh(m);
        long all = shares.total();
        if (all <= 0) {
            return NONE;
        }
        if (what == 2) {
            return shares.halfway();
        }
        long sum = shares.weightedSum();
        return what == 0 ? sum / all : sum % all;
    }

    public long copied(int k, int m) {
        if (!canCount(m)) {
            return BAD_NUMBER;
        }
        return k >= 0 && k < m ? shares.copiedWays(k, m) : NO_SUCH;
    }

    public int copier(int m) {
        if (!canCount(m)) {
            return BAD_NUMBER;
        }
        int found = NONE;
        long most = 0;
        for (int k = 0; k < m; k++) {
            long ways = shares.copiedWays(k, m);
            if (ways > most) {
                most = ways;
                found = k;
            }
        }
        return found;
    }

    // ---- what to write

    public long chance(int v, int m) {
        if (!isNumber(v) || !canCount(m)) {
            return BAD_NUMBER;
        }
        shares.weigh(m);
        Reach reach = shares.reachBehind(v, sheet.size);
        return shares.sum(reach.first, reach.last);
    }

    public long best(int m, int what) {
        if (what < 0 || what > 1) {
            return NO_SUCH;
        }
        if (!canCount(m)) {
            return BAD_NUMBER;
        }
        shares.lay(m, sheet.size);
        writers.play(0, 1);
        return what == 0 ? writers.pick[0] : writers.shareOf(0, 1);
    }

    public long bestTwo(int m, int what) {
        if (what < 0 || what > 2) {
            return NO_SUCH;
        }
        if (!canCount(m)) {
            return BAD_NUMBER;
        }
        if (fete.low == fete.high) {
            return NOT_NOW;
        }
        shares.lay(m, sheet.size);
        shares.chooseTwo();
        if (what == 2) {
            return shares.twoWays;
        }
        return what == 0 ? shares.twoLow : shares.twoHigh;
    }

    public long behind(int m, int what) {
        if (what < 0 || what > 3) {
            return NO_SUCH;
        }
        if (!canCount(m)) {
            return BAD_NUMBER;
        }
        shares.lay(m, sheet.size);
        writers.play(0, 2);
        int who = what / 2;
        return what % 2 == 0 ? writers.pick[who] : writers.shareOf(who, 2);
    }

    public long waits(int m, int what) {
        if (what < 0 || what > 1) {
            return NO_SUCH;
        }
        if (!canCount(m)) {
            return BAD_NUMBER;
        }
        shares.lay(m, sheet.size);
        // She doesn't reckon with me: she writes as if she were the last.
        writers.play(0, 1);
        writers.play(1, 2);
        long waiting = writers.shareOf(1, 2);
        if (what == 1) {
            return waiting;
        }
        writers.play(0, 2);
        return waiting > writers.shareOf(0, 2) ? 1 : 0;
    }

    public long waysOf(int k, int m) {
        if (!sheet.has(k)) {
            return NO_SUCH;
        }
        if (!canCount(m)) {
            return BAD_NUMBER;
        }
        shares.weigh(m);
        Reach reach = shares.reachOf(k);
        return shares.sum(reach.first, reach.last);
    }

    public long shutIn(int k, int m) {
        if (!sheet.has(k)) {
            return NO_SUCH;
        }
        if (!canCount(m)) {
            return BAD_NUMBER;
        }
        int own = sheet.number[k];
        boolean stays = fete.spans(own) && sheet.nearestTo(own) == k;
        return stays ? shares.waysFor(own, m, NONE) : 0;
    }

    public long gain(int k, int m) {
        if (k < 0 || k > 2 || !canCount(m)) {
            return BAD_NUMBER;
        }
        if (k == 2 && fete.low == fete.high) {
            return NOT_NOW;
        }
        shares.lay(m, sheet.size);
        return gainOf(k);
    }

    private long gainOf(int k) {
        long won = 0;
        if (k == 1) {
            writers.play(0, 1);
            won = writers.shareOf(0, 1);
        } else if (k == 2) {
            shares.chooseTwo();
            won = shares.twoWays;
        }
        return fete.prize * won - (long) fete.price * k * shares.total();
    }

    public int buys(int m) {
        if (!canCount(m)) {
            return BAD_NUMBER;
        }
        shares.lay(m, sheet.size);
        int top = fete.low == fete.high ? 1 : 2;
        int found = 0;
        long most = 0;
        for (int k = 1; k <= top; k++) {
            long brought = gainOf(k);
            if (brought > most) {
                most = brought;
                found = k;
            }
        }
        return found;
    }

    public int game(int n, int what) {
        if (n < 1 || n > GAME_WRITERS) {
            return BAD_NUMBER;
        }
        boolean asksNumber = what >= 0 && what < n;
        boolean asksWeight = what >= 10 && what < 10 + n;
        if (!asksNumber && !asksWeight) {
            return NO_SUCH;
        }
        if (fete.high - fete.low >= GAME_GRID) {
            return TOO_MANY;
        }
        shares.lay(0, 0);
        writers.play(0, n);
        return asksNumber ? writers.pick[what] : (int) writers.shareOf(what - 10, n);
    }

    // ---- alone, shown and hidden, jars

    public long alone(int g, int n, int d) {
        if (!fete.has(g)) {
            return NO_SUCH;
        }
        if (n < 1 || n > MOST_ALONE || d < 0 || d > MOST_SPREAD) {
            return BAD_NUMBER;
        }
        offs.start(fete.spread[g]);
        for (int i = 0; i < n; i++) {
            offs.addOne();
        }
        return offs.within(n * d);
    }

    public int fewest(int g, int d, int p) {
        if (!fete.has(g)) {
            return NO_SUCH;
        }
        if (d < 0 || d > MOST_SPREAD || p < 0 || p > 100) {
            return BAD_NUMBER;
        }
        offs.start(fete.spread[g]);
        for (int n = 1; n <= MOST_ALONE; n++) {
            offs.addOne();
            if (offs.within(n * d) * 100 >= p * offs.all) {
                return n;
            }
        }
        return NONE;
    }

    public int fetes(int seed, int many, int n, boolean shown, int what) {
        if (what < 0 || what > 2) {
            return NO_SUCH;
        }
        if (many < 1 || many > MOST_FETES || n < 1 || n > MOST_COMERS) {
            return BAD_NUMBER;
        }
        if (!canDraw()) {
            return NOT_NOW;
        }
        draws.start(seed);
        int answer = 0;
        for (int i = 0; i < many; i++) {
            trial.cutTo(0);
            draws.fill(fete, trial, n, !shown);
            answer += toldOfTrial(what);
        }
        return answer;
    }

    private int toldOfTrial(int what) {
        int k = trial.nearestTo(fete.inside);
        int off = offJar(trial.meanOf(trial.size));
        int won = trial.has(k) ? offJar(trial.number[k]) : 0;
        switch (what) {
            case 0: return off;
            case 1: return won;
            default: return off < won ? 1 : 0;
        }
    }

    public int holds(int layers, int rings, int air) {
        if (layers < 1 || layers > MOST_LAYERS || !isGlass(rings, air)) {
            return BAD_NUMBER;
        }
        return filled(layers, rings, air);
    }

    public int layersFor(int sweets, int rings, int air) {
        if (sweets < 1 || sweets > MOST_SWEETS || !isGlass(rings, air)) {
            return BAD_NUMBER;
        }
        for (int layers = 1; layers <= MOST_LAYERS; layers++) {
            if (filled(layers, rings, air) >= sweets) {
                return layers;
            }
        }
        return NONE;
    }

    private static boolean isGlass(int rings, int air) {
        return rings >= 1 && rings <= MOST_RINGS && air >= 0 && air <= MOST_AIR;
    }

    private static int filled(int layers, int rings, int air) {
        int layer = 1 + 3 * rings * (rings + 1);
        int full = layers * layer - layers / 2 * 6 * rings;
        return full - full * air / 100;
    }

    // ---- rows of numbers, images

    private static boolean isRow(int row) {
        return row >= 0 && row < ROWS;
    }

    private static boolean isImage(int i) {
        return i >= 0 && i < IMAGES;
    }

    public int numbers(int row, int sort, int n) {
        if (!isRow(row) || sort < 0 || sort >= SORTS) {
            return NO_SUCH;
        }
        if (n < 0 || n > ROW_PLACES) {
            return BAD_NUMBER;
        }
        rows[row].begin(sort, n);
        return 0;
    }

    public long put(int row, int i, long v) {
        if (!isRow(row)) {
            return NO_SUCH;
        }
        Row into = rows[row];
        if (into.isMissing()) {
            return ROW_MISSING;
        }
        if (i < 0 || i >= into.size) {
            return NO_PLACE;
        }
        return into.set(i, v);
    }

    public int copy(int row) {
        if (!isRow(row)) {
            return NO_SUCH;
        }
        Row into = rows[row];
        if (into.isMissing()) {
            return ROW_MISSING;
        }
        int many = Math.min(into.size, sheet.size);
        for (int i = 0; i < many; i++) {
            into.set(i, sheet.number[i]);
        }
        return many;
    }

    public int image(int i) {
        if (!isImage(i)) {
            return NO_SUCH;
        }
        images[i].fete.takeFrom(fete);
        images[i].sheet.takeFrom(sheet);
        images[i].made = true;
        return 0;
    }

    public int restore(int i) {
        if (!isImage(i)) {
            return NO_SUCH;
        }
        if (!images[i].made) {
            return NOT_NOW;
        }
        fete.takeFrom(images[i].fete);
        sheet.takeFrom(images[i].sheet);
        return 0;
    }

    public int count(int what) {
        switch (what) {
            case 0: return fete.guessers;
            case 1: return sheet.size;
            case 2: return fete.low;
            case 3: return fete.high;
            case 4: return fete.price;
            case 5: return fete.prize;
            case 6: return fete.inside;
            case 7: return fete.hidden ? 1 : 0;
            case 8: return taped;
            case 9: return fete.lines;
            case 10: return sheet.unlike();
            case 11: return fete.price * sheet.size;
            default: return NONE;
        }
    }

    /** What a text tells; the JAR stands here too, since a text sets it and an image keeps it. */
    private static final class Fete {
        int low = 1;
        int high = 100;
        boolean uneven;
        int centre;
        int steep;
        int guessers;
        final int[] lean = new int[MOST_GUESSERS];
        final int[] spread = new int[MOST_GUESSERS];
        final int[] copying = new int[MOST_GUESSERS];
        boolean hidden;
        int price = 10;
        int prize = 100;
        int inside;
        int lines;

        void clear() {
            low = 1;
            high = 100;
            uneven = false;
            centre = 0;
            steep = 0;
            guessers = 0;
            hidden = false;
            price = 10;
            prize = 100;
            inside = 0;
            lines = 0;
        }

        void takeFrom(Fete other) {
            low = other.low;
            high = other.high;
            uneven = other.uneven;
            centre = other.centre;
            steep = other.steep;
            guessers = other.guessers;
            System.arraycopy(other.lean, 0, lean, 0, MOST_GUESSERS);
            System.arraycopy(other.spread, 0, spread, 0, MOST_GUESSERS);
            System.arraycopy(other.copying, 0, copying, 0, MOST_GUESSERS);
            hidden = other.hidden;
            price = other.price;
            prize = other.prize;
            inside = other.inside;
            lines = other.lines;
        }

        boolean has(int g) {
            return g >= 0 && g < guessers && g < MOST_GUESSERS;
        }

        boolean spans(int t) {
            return t >= low && t <= high;
        }

        int weightOf(int t) {
            return uneven ? Math.max(1, 9 - steep * Math.abs(t - centre)) : 1;
        }

        int sightOf(int g, int t) {
            return has(g) ? t * lean[g] / 100 : 0;
        }
    }

    /** Guesses in order. */
    private static final class Sheet {
        final int[] number = new int[MOST_GUESSES];
        final int[] writer = new int[MOST_GUESSES];
        int size;

        void takeFrom(Sheet other) {
            System.arraycopy(other.number, 0, number, 0, MOST_GUESSES);
            System.arraycopy(other.writer, 0, writer, 0, MOST_GUESSES);
            size = other.size;
        }

        boolean has(int k) {
            return k >= 0 && k < size && k < MOST_GUESSES;
        }

        void add(int g, int v) {
            if (size < MOST_GUESSES) {
                number[size] = v;
                writer[size] = g;
                size++;
            }
        }

        void cutTo(int n) {
            if (n >= 0 && n < size) {
                size = n;
            }
        }

        int sumOf(int many) {
            int sum = 0;
            for (int k = 0; k < many && k < size; k++) {
                sum += number[k];
            }
            return sum;
        }

        int meanOf(int many) {
            return many > 0 ? sumOf(many) / many : NONE;
        }

        int goalAt(int k, boolean hidden) {
            return hidden || k <= 0 ? NONE : sumOf(k) / k;
        }

        int writtenBy(int g) {
            int many = 0;
            for (int k = 0; k < size; k++) {
                if (writer[k] == g) {
                    many++;
                }
            }
            return many;
        }

        int latestBy(int g) {
            for (int k = size - 1; k >= 0; k--) {
                if (writer[k] == g) {
                    return k;
                }
            }
            return NONE;
        }

        int firstOf(int v) {
            for (int k = 0; k < size; k++) {
                if (number[k] == v) {
                    return k;
                }
            }
            return NONE;
        }

        int nearestTo(int t) {
            int found = NONE;
            int near = 0;
            for (int k = 0; k < size; k++) {
                int far = Math.abs(number[k] - t);
                if (found == NONE || far < near) {
                    near = far;
                    found = k;
                }
            }
            return found;
        }

        /** The number below which at most half of the others stand: found by counting, so nothing is sorted. */
        int middle() {
            int rank = (size - 1) / 2;
            for (int k = 0; k < size; k++) {
                int below = 0;
                int alike = 0;
                for (int i = 0; i < size; i++) {
                    if (number[i] < number[k]) {
                        below++;
                    } else if (number[i] == number[k]) {
                        alike++;
                    }
                }
                if (below <= rank && rank < below + alike) {
                    return number[k];
                }
            }
            return NONE;
        }

        int least() {
            int found = size > 0 ? number[0] : NONE;
            for (int k = 1; k < size; k++) {
                found = Math.min(found, number[k]);
            }
            return found;
        }

        int greatest() {
            int found = NONE;
            for (int k = 0; k < size; k++) {
                found = Math.max(found, number[k]);
            }
            return found;
        }

        int unlike() {
            int many = 0;
            for (int k = 0; k < size; k++) {
                if (firstOf(number[k]) == k) {
                    many++;
                }
            }
            return many;
        }
    }

    /** Reads a text, token by token, up to its first fault. */
    private static final class Reader {
        private static final int WORD = 0;
        private static final int NUMBER = 1;
        private static final int SIGN = 2;
        private static final int END = 3;
        private static final int UNKNOWN = 4;
        private static final int MOST_DIGITS = 4;

        int faultKind;
        int faultPlace = NONE;
        private byte[] text;
        private int length;
        private int token;
        private int begin;
        private int end;
        private int value;
        private int taken;

        void readText(byte[] bytes, int n, Fete into) {
            text = bytes;
            length = Math.min(n, bytes.length);
            end = 0;
            faultKind = 0;
            faultPlace = NONE;
            into.clear();
            next();
            // A line takes a byte at least, so there can't be more lines than bytes.
            for (int i = 0; i < length && token != END; i++) {
                if (!readLine(into) || !endLine()) {
                    return;
                }
                into.lines++;
            }
        }

        private boolean readLine(Fete into) {
            if (takeWord("grid")) {
                return readGrid(into);
            }
            if (takeWord("prior")) {
                return readPrior(into);
            }
            if (isWord("guesser")) {
                return readGuesser(into);
            }
            if (takeWord("hidden")) {
                into.hidden = true;
                return true;
            }
            if (takeWord("price")) {
                boolean good = takeNumber(0, 99);
                into.price = taken;
                return good;
            }
            if (takeWord("prize")) {
                boolean good = takeNumber(0, 9999);
                into.prize = taken;
                return good;
            }
            if (takeWord("jar")) {
                boolean good = takeNumber(1, MOST_JAR);
                into.inside = taken;
                return good;
            }
            return refuse(2);
        }

        private boolean readGrid(Fete into) {
            if (!takeNumber(1, 999)) {
                return false;
            }
            into.low = taken;
            if (!takeNumber(into.low, into.low + MOST_GRID - 1)) {
                return false;
            }
            into.high = taken;
            return true;
        }

        private boolean readPrior(Fete into) {
            if (!takeNumber(0, 999)) {
                return false;
            }
            into.centre = taken;
            if (!takeNumber(0, 8)) {
                return false;
            }
            into.steep = taken;
            into.uneven = true;
            return true;
        }

        private boolean readGuesser(Fete into) {
            int g = into.guessers;
            if (g < 0 || g >= MOST_GUESSERS) {
                return refuse(4);
            }
            next();
            if (!takeNumber(1, 200)) {
                return false;
            }
            into.lean[g] = taken;
            if (!takeNumber(0, MOST_SPREAD)) {
                return false;
            }
            into.spread[g] = taken;
            into.copying[g] = 0;
            if (takeWord("copy")) {
                if (!takeNumber(0, 10)) {
                    return false;
                }
                into.copying[g] = taken;
            }
            into.guessers = g + 1;
            return true;
        }

        private boolean endLine() {
            if (token != SIGN) {
                return refuse(2);
            }
            next();
            return true;
        }

        private boolean takeNumber(int least, int most) {
            if (token != NUMBER) {
                return refuse(2);
            }
            if (value < least || value > most) {
                return refuse(3);
            }
            taken = value;
            next();
            return true;
        }

        private boolean takeWord(String word) {
            if (!isWord(word)) {
                return false;
            }
            next();
            return true;
        }

        private boolean isWord(String word) {
            if (token != WORD || end - begin != word.length()) {
                return false;
            }
            for (int i = 0; i < word.length(); i++) {
                if (byteAt(begin + i) != word.charAt(i)) {
                    return false;
                }
            }
            return true;
        }

        private boolean refuse(int kind) {
            faultKind = token == UNKNOWN ? 1 : kind;
            faultPlace = begin;
            return false;
        }

        private void next() {
            begin = end;
            while (begin < length && (byteAt(begin) == 10 || byteAt(begin) == 32)) {
                begin++;
            }
            end = begin;
            int first = byteAt(begin);
            if (begin >= length) {
                token = END;
            } else if (isLetter(first)) {
                token = WORD;
                while (end < length && isLetter(byteAt(end))) {
                    end++;
                }
            } else if (isDigit(first)) {
                value = 0;
                while (end < length && isDigit(byteAt(end))) {
                    // Only the first digits count: a longer run is refused and must not overflow.
                    value = end - begin < MOST_DIGITS ? value * 10 + byteAt(end) - '0' : value;
                    end++;
                }
                token = end - begin > MOST_DIGITS ? UNKNOWN : NUMBER;
            } else {
                token = first == ';' ? SIGN : UNKNOWN;
                end++;
            }
        }

        private static boolean isLetter(int sign) {
            return sign >= 'a' && sign <= 'z';
        }

        private static boolean isDigit(int sign) {
            return sign >= '0' && sign <= '9';
        }

        private int byteAt(int i) {
            return text != null && i >= 0 && i < text.length ? text[i] : 0;
        }
    }

    /** Comers by draws. */
    private static final class Draws {
        private int x;

        void start(int seed) {
            x = seed;
        }

        private int draw() {
            x = 1103515245 * x + 12345;
            return x >>> 16;
        }

        void fill(Fete fete, Sheet onto, int n, boolean hidden) {
            if (fete.guessers <= 0) {
                return;
            }
            for (int i = 0; i < n; i++) {
                int g = draw() % fete.guessers;
                onto.add(g, nextNumber(fete, g, onto.goalAt(onto.size, hidden)));
            }
        }

        private int nextNumber(Fete fete, int g, int goal) {
            if (!fete.has(g)) {
                return 0;
            }
            boolean copies = draw() % 10 < fete.copying[g];
            if (copies && goal != NONE) {
                return goal;
            }
            int wide = 2 * fete.spread[g] + 1;
            int off = wide > 0 ? draw() % wide - fete.spread[g] : 0;
            int v = fete.sightOf(g, fete.inside) + off;
            return Math.max(0, Math.min(MOST_NUMBER, v));
        }
    }

    /** The run of numbers t that one number wins against others; it only ever shrinks. */
    private static final class Reach {
        int first;
        int last;
        private int own;

        void open(int v, int from, int to) {
            own = v;
            first = from;
            last = to;
        }

        /** Against a number written earlier, which wins where both are alike near. */
        void yieldTo(int earlier) {
            if (earlier == own) {
                last = first - 1;
            } else if (earlier < own) {
                first = Math.max(first, (own + earlier) / 2 + 1);
            } else {
                last = Math.min(last, (own + earlier + 1) / 2 - 1);
            }
        }

        /** Against a number written later, which loses where both are alike near. */
        void keepFrom(int later) {
            if (later < own) {
                first = Math.max(first, (own + later + 1) / 2);
            } else if (later > own) {
                last = Math.min(last, (own + later) / 2);
            }
        }

        int width() {
            return Math.max(0, last - first + 1);
        }
    }

    /** Ways of the grid's numbers, and what each number of the grid would win of them. */
    private static final class Shares {
        private final Fete fete;
        private final Sheet sheet;
        private final Reach reach = new Reach();
        // Sums of ways of all numbers below each one, so that a run's ways are one difference.
        private final long[] below = new long[MOST_GRID + 1];
        private final int[] from = new int[MOST_GRID];
        private final int[] to = new int[MOST_GRID];
        private final long[] whole = new long[MOST_GRID];
        // How many numbers the grid had when it was weighed; never more than the arrays have places.
        int wide;
        int twoLow;
        int twoHigh;
        long twoWays;

        Shares(Fete told, Sheet written) {
            fete = told;
            sheet = written;
        }

        int low() {
            return fete.low;
        }

        /** Ways of t by the first m guesses; of a guess `alone` only the chance that it was copied counts. */
        long waysFor(int t, int m, int alone) {
            long ways = fete.weightOf(t);
            for (int k = 0; k < m; k++) {
                long byGoal = copyChance(k);
                ways *= k == alone ? byGoal : byGoal + sightChance(k, t);
            }
            return ways;
        }

        private long copyChance(int k) {
            if (!sheet.has(k) || !fete.has(sheet.writer[k])) {
                return 0;
            }
            int g = sheet.writer[k];
            boolean alike = sheet.number[k] == sheet.goalAt(k, fete.hidden);
            return alike ? (long) fete.copying[g] * (2 * fete.spread[g] + 1) : 0;
        }

        private long sightChance(int k, int t) {
            if (!sheet.has(k) || !fete.has(sheet.writer[k])) {
                return 0;
            }
            int g = sheet.writer[k];
            if (Math.abs(sheet.number[k] - fete.sightOf(g, t)) > fete.spread[g]) {
                return 0;
            }
            return sheet.goalAt(k, fete.hidden) == NONE ? 10 : 10 - fete.copying[g];
        }

        void weigh(int m) {
            wide = Math.max(0, Math.min(MOST_GRID, fete.high - fete.low + 1));
            for (int i = 0; i < wide; i++) {
                below[i + 1] = below[i] + waysFor(fete.low + i, m, NONE);
            }
        }

        long total() {
            return below[wide];
        }

        long sum(int first, int last) {
            int i = first - fete.low;
            int j = last - fete.low + 1;
            return i >= 0 && i < j && j <= wide ? below[j] - below[i] : 0;
        }

        long weightedSum() {
            long sum = 0;
            for (int i = 0; i < wide; i++) {
                sum += (below[i + 1] - below[i]) * (fete.low + i);
            }
            return sum;
        }

        int halfway() {
            for (int i = 0; i < wide; i++) {
                if (2 * below[i + 1] >= total()) {
                    return fete.low + i;
                }
            }
            return NONE;
        }

        long copiedWays(int k, int m) {
            long sum = 0;
            for (int t = fete.low; t <= fete.high; t++) {
                sum += waysFor(t, m, k);
            }
            return sum;
        }

        Reach reachBehind(int v, int many) {
            reach.open(v, fete.low, fete.high);
            for (int k = 0; k < many && sheet.has(k); k++) {
                reach.yieldTo(sheet.number[k]);
            }
            return reach;
        }

        Reach reachOf(int k) {
            if (sheet.has(k)) {
                reachBehind(sheet.number[k], k);
            }
            for (int i = k + 1; i < sheet.size; i++) {
                reach.keepFrom(sheet.number[i]);
            }
            return reach;
        }

        /** Makes ready what numbers of the grid would win behind the first guesses, in ways by m. */
        void lay(int m, int many) {
            weigh(m);
            for (int i = 0; i < wide; i++) {
                reachBehind(fete.low + i, many);
                from[i] = reach.first;
                to[i] = reach.last;
                whole[i] = sum(reach.first, reach.last);
            }
        }

        /** What a number of the grid would win if nothing more were written. */
        long wholeOf(int v) {
            int i = v - fete.low;
            return i >= 0 && i < wide ? whole[i] : 0;
        }

        Reach laidReach(int v) {
            int i = v - fete.low;
            if (i >= 0 && i < wide) {
                reach.open(v, from[i], to[i]);
            }
            return reach;
        }

        void chooseTwo() {
            twoWays = NONE;
            for (int i = 0; i < wide; i++) {
                for (int j = i + 1; j < wide; j++) {
                    long apart = whole[i] + whole[j];
                    // Both together can't win more than each for itself.
                    if (apart > twoWays) {
                        long both = apart - sum(Math.max(from[i], from[j]), Math.min(to[i], to[j]));
                        keepTwo(fete.low + i, fete.low + j, both);
                    }
                }
            }
        }

        private void keepTwo(int v, int w, long both) {
            if (both > twoWays) {
                twoLow = v;
                twoHigh = w;
                twoWays = both;
            }
        }
    }

    /** Some who write one behind the other, each looking ahead to those behind. */
    private static final class Writers {
        final int[] pick = new int[GAME_WRITERS];
        private final int[][] kept = new int[GAME_WRITERS][GAME_WRITERS];
        private final Shares shares;

        Writers(Shares laid) {
            shares = laid;
        }

        /** Those from the i-th on choose, of n; what the ones ahead wrote stands in pick. */
        void play(int i, int n) {
            choose(this, i, n);
        }

        private static void choose(Writers w, int i, int n) {
            if (i < 0 || i >= n || n > GAME_WRITERS) {
                return;
            }
            long most = NONE;
            for (int j = 0; j < w.shares.wide; j++) {
                int v = w.shares.low() + j;
                // Others only take away from what v wins alone, so a lesser whole can't be better.
                if (w.shares.wholeOf(v) > most) {
                    w.pick[i] = v;
                    if (i + 1 < n) {
                        choose(w, i + 1, n);
                    }
                    long won = w.shareOf(i, n);
                    if (won > most) {
                        most = won;
                        System.arraycopy(w.pick, i, w.kept[i], i, n - i);
                    }
                }
            }
            System.arraycopy(w.kept[i], i, w.pick, i, n - i);
        }

        long shareOf(int i, int n) {
            if (i < 0 || i >= n || n > GAME_WRITERS) {
                return 0;
            }
            Reach reach = shares.laidReach(pick[i]);
            for (int j = 0; j < i; j++) {
                reach.yieldTo(pick[j]);
            }
            for (int j = i + 1; j < n; j++) {
                reach.keepFrom(pick[j]);
            }
            return shares.sum(reach.first, reach.last);
        }
    }

    /** In how many ways some of one guesser are off together by each sum. */
    private static final class Offs {
        private static final int SUMS = 2 * MOST_SPREAD * MOST_ALONE + 1;

        long all;
        private int spread;
        private int many;
        private long[] ways = new long[SUMS];
        private long[] after = new long[SUMS];

        void start(int widest) {
            spread = Math.max(0, Math.min(MOST_SPREAD, widest));
            many = 0;
            all = 1;
            ways[0] = 1;
        }

        /** Sums are kept from the least one on, so the middle place is that of 0. */
        void addOne() {
            if (many >= MOST_ALONE) {
                return;
            }
            int top = 2 * spread * many;
            int wide = 2 * spread;
            long running = 0;
            for (int s = 0; s <= top + wide && s < SUMS; s++) {
                if (s <= top) {
                    running += ways[s];
                }
                if (s > wide) {
                    running -= ways[s - wide - 1];
                }
                after[s] = running;
            }
            long[] spare = ways;
            ways = after;
            after = spare;
            many++;
            all *= wide + 1;
        }

        long within(int far) {
            int centre = spread * many;
            long sum = 0;
            for (int s = Math.max(0, centre - far); s <= Math.min(2 * centre, centre + far) && s < SUMS; s++) {
                sum += ways[s];
            }
            return sum;
        }
    }

    /** A row of numbers; without a size it is missing. */
    private static final class Row {
        final long[] place = new long[ROW_PLACES];
        int size = NONE;
        private int sort;

        boolean isMissing() {
            return size < 0;
        }

        void begin(int bits, int n) {
            sort = bits;
            size = n;
            for (int i = 0; i < ROW_PLACES; i++) {
                place[i] = 0;
            }
        }

        long set(int i, long v) {
            if (i < 0 || i >= size || i >= ROW_PLACES) {
                return 0;
            }
            place[i] = cut(v);
            return place[i];
        }

        private long cut(long v) {
            switch (sort) {
                case 0: return (byte) v;
                case 1: return (short) v;
                case 2: return (int) v;
                default: return v;
            }
        }
    }

    /** A fete and its list, kept to go on from. */
    private static final class Image {
        final Fete fete = new Fete();
        final Sheet sheet = new Sheet();
        boolean made;
    }
}
