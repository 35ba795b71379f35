import java.util.Arrays;
import java.util.NoSuchElementException;

/** Pairs of a man and a figure on a pier, their contracts, debts, unsure steps and heard seasons. */
public final class FigureKnee {
    public static final int NONE = -1;

    /** Answered where the document says -2: a call that was not refused has nothing to name. */
    private static final int NEVER = -2;
    private static final int NO_NET = -1000000;
    private static final int NO_TALK = -100;

    private static final int TAPE_BYTES = 900;
    private static final int FEED_BYTES = 20;
    private static final int PAIRS = 5;
    private static final int DEBTS = 10;
    private static final int UNSURES = 4;
    private static final int HEARDS = 8;
    private static final int IMAGES = 3;
    private static final int KEPT_ACTS = 16;

    private static final int MOST_WORDS = 99;
    private static final int MOST_STEP = 20;
    private static final int MOST_EVERY = 9;
    private static final int MOST_DEBT = 99;
    private static final int AHEAD = 60;
    private static final int FAR_AHEAD = 2000000000;
    private static final int MOST_SEASONS = 999;
    private static final int MOST_BREATH = 9;
    private static final int MOST_COUPLES_BY_CHANCE = 4;
    private static final int MOST_COUPLES_BY_SEED = 200;
    private static final int MOST_SEED = 65536;
    private static final int SEASONS_BY_CHANCE = 5;

    private static final int NO_TROUBLE = 0;
    private static final int NONE_SUCH = 1;
    private static final int BAD_NUMBER = 2;
    private static final int NO_ROOM = 3;
    private static final int FAULTY = 4;
    private static final int NOT_SO = 5;
    private static final int NOTHING_THERE = 6;

    private final byte[] tape = new byte[TAPE_BYTES];
    private int tapeLength;
    private Pier told = new Pier();
    /** A text is read into this one, so that a faulty text leaves the told one as it is. */
    private Pier draft = new Pier();
    private final Reader reader = new Reader(tape, draft);
    private boolean standing;
    private final Now now = new Now();
    private final History history = new History();
    private final int[][] images = new int[IMAGES][Now.ROW];
    private int imageCount;
    private final Walk walk = new Walk();
    private final Walk otherWalk = new Walk();
    private final int[] sayings = new int[PAIRS];
    private final Rounds rounds = new Rounds();
    private final Fitting fitting = new Fitting();
    private final Books books = new Books();
    private final Gallery gallery = new Gallery();
    private final Ratio ratio = new Ratio();
    private int troubleNumber;

    public FigureKnee() {
    }

    // ---- refusals

    /** Sets TROUBLE for a call that asks for something and gives a number; true if it isn't refused. */
    private boolean may(boolean isThere, boolean numberIsGood) {
        troubleNumber = !isThere ? NONE_SUCH : !numberIsGood ? BAD_NUMBER : NO_TROUBLE;
        return troubleNumber == NO_TROUBLE;
    }

    private boolean may(boolean isThere) {
        return may(isThere, true);
    }

    private int refuse(int number) {
        troubleNumber = number;
        return NONE;
    }

    private boolean deny(int number) {
        troubleNumber = number;
        return false;
    }

    private boolean isPair(int p) {
        return standing && p >= 0 && p < told.pairs;
    }

    private boolean areUnlike(int p, int other) {
        return isPair(p) && isPair(other) && p != other;
    }

    private static boolean upTo(int n, int most) {
        return n >= 0 && n <= most;
    }

    // ---- the pier

    public int feed(int a, int b, int c, int d, int e) {
        if (tapeLength > TAPE_BYTES - FEED_BYTES) {
            return NONE;
        }
        putBytes(a);
        putBytes(b);
        putBytes(c);
        putBytes(d);
        putBytes(e);
        return tapeLength;
    }

    private void putBytes(int number) {
        for (int shift = 24; shift >= 0 && tapeLength < TAPE_BYTES; shift -= 8) {
            tape[tapeLength] = (byte) (number >>> shift);
            tapeLength++;
        }
    }

    public int pier(int n) {
        if (!upTo(n, tapeLength)) {
            return refuse(BAD_NUMBER);
        }
        tapeLength = 0;
        if (!reader.read(n, draft)) {
            return refuse(FAULTY);
        }
        Pier before = told;
        told = draft;
        draft = before;
        standing = true;
        now.begin(told);
        history.forget();
        imageCount = 0;
        troubleNumber = NO_TROUBLE;
        return told.pairs;
    }

    public int fault() {
        return reader.faultNumber;
    }

    public int where() {
        return troubleNumber == FAULTY ? reader.faultPlace : NONE;
    }

    // ---- now

    public int pair(int p, int what) {
        if (!may(isPair(p) && upTo(what, 5))) {
            return NONE;
        }
        int figure = now.figures[p];
        switch (what) {
            case 0:
                return told.laws[p];
            case 1:
                return figure;
            case 2:
                return told.words - figure;
            case 3:
                return now.steps[p];
            case 4:
                return told.everies[p];
            default:
                return isMore(figure) ? 1 : 0;
        }
    }

    private boolean isMore(int figure) {
        return figure > told.words - figure;
    }

    private int sayingBehind(int p, int n) {
        walk.begin(told, now, p);
        walk.goOn(n);
        return walk.figure;
    }

    private void sayAllBehind(int n) {
        for (int p = 0; p < told.pairs; p++) {
            sayings[p] = sayingBehind(p, n);
        }
    }

    public int says(int p, int n) {
        return may(isPair(p), upTo(n, AHEAD)) ? sayingBehind(p, n) : NONE;
    }

    public int saysAll(int p, int n) {
        if (!may(isPair(p), upTo(n, AHEAD))) {
            return NONE;
        }
        int sum = 0;
        walk.begin(told, now, p);
        for (int i = 1; i <= n; i++) {
            walk.go();
            sum += walk.figure;
        }
        return sum;
    }

    public int moreIn(int p) {
        if (!may(isPair(p))) {
            return NONE;
        }
        walk.begin(told, now, p);
        for (int i = 0; i <= AHEAD; i++) {
            if (walk.isMore()) {
                return i;
            }
            walk.go();
        }
        return NEVER;
    }

    public int moreTimes(int p, int n) {
        if (!may(isPair(p), upTo(n, AHEAD))) {
            return NONE;
        }
        walk.begin(told, now, p);
        return walk.countMore(n);
    }

    private void goRound(int p) {
        walk.begin(told, now, p);
        rounds.follow(walk);
    }

    public int settles(int p) {
        if (!may(isPair(p))) {
            return NONE;
        }
        goRound(p);
        return rounds.first;
    }

    public int round(int p) {
        if (!may(isPair(p))) {
            return NONE;
        }
        goRound(p);
        return rounds.length;
    }

    public int saysLate(int p, int n) {
        if (!may(isPair(p), upTo(n, FAR_AHEAD))) {
            return NONE;
        }
        goRound(p);
        return rounds.saying(n);
    }

    public int roundMost(int p) {
        if (!may(isPair(p))) {
            return NONE;
        }
        goRound(p);
        return rounds.most();
    }

    public int roundLeast(int p) {
        if (!may(isPair(p))) {
            return NONE;
        }
        goRound(p);
        return rounds.least();
    }

    public int turnsAbout(int p) {
        if (!may(isPair(p))) {
            return NONE;
        }
        int turns = 0;
        walk.begin(told, now, p);
        boolean before = walk.isMore();
        for (int i = 1; i <= AHEAD; i++) {
            walk.go();
            boolean after = walk.isMore();
            if (after != before) {
                turns++;
            }
            before = after;
        }
        return turns;
    }

    public int alikeIn(int p, int other) {
        if (!may(areUnlike(p, other))) {
            return NONE;
        }
        walk.begin(told, now, p);
        otherWalk.begin(told, now, other);
        for (int i = 0; i <= AHEAD; i++) {
            if (walk.figure == otherWalk.figure) {
                return i;
            }
            walk.go();
            otherWalk.go();
        }
        return NEVER;
    }

    public int loudest(int n) {
        if (!may(standing, upTo(n, AHEAD))) {
            return NONE;
        }
        sayAllBehind(n);
        return firstMost(sayings, told.pairs);
    }

    /** Where the first of the greatest among the first count numbers of a row stands. */
    private static int firstMost(int[] row, int count) {
        int best = 0;
        for (int i = 1; i < count && i < row.length; i++) {
            if (row[i] > row[best]) {
                best = i;
            }
        }
        return best;
    }

    public int overtakes(int p, int other) {
        if (!may(areUnlike(p, other))) {
            return NONE;
        }
        walk.begin(told, now, p);
        otherWalk.begin(told, now, other);
        for (int i = 0; i <= AHEAD; i++) {
            if (walk.figure > otherWalk.figure) {
                return i;
            }
            walk.go();
            otherWalk.go();
        }
        return NEVER;
    }

    public int widest(int n) {
        if (!may(standing, upTo(n, AHEAD))) {
            return NONE;
        }
        sayAllBehind(n);
        int best = NEVER;
        int farthest = -1;
        for (int p = 0; p < told.pairs; p++) {
            for (int other = p + 1; other < told.pairs; other++) {
                int apart = Math.abs(sayings[p] - sayings[other]);
                if (apart > farthest) {
                    farthest = apart;
                    best = 10 * p + other;
                }
            }
        }
        return best;
    }

    public int sumAll(int n) {
        if (!may(standing, upTo(n, AHEAD))) {
            return NONE;
        }
        sayAllBehind(n);
        int sum = 0;
        for (int p = 0; p < told.pairs; p++) {
            sum += sayings[p];
        }
        return sum;
    }

    public int masters(int n) {
        if (!may(standing, upTo(n, AHEAD))) {
            return NONE;
        }
        sayAllBehind(n);
        return bitsOfMore(sayings);
    }

    private int bitsOfMore(int[] figures) {
        int bits = 0;
        for (int p = 0; p < told.pairs && p < figures.length; p++) {
            if (isMore(figures[p])) {
                bits |= 1 << p;
            }
        }
        return bits;
    }

    // ---- contracts

    private int sayingByEvery(int p, int every, int n) {
        walk.begin(told, now, p);
        walk.every = every;
        walk.goOn(n);
        return walk.figure;
    }

    private int bestEvery(int p, int n) {
        int best = 0;
        int most = -1;
        for (int every = 0; every <= MOST_EVERY; every++) {
            int saying = sayingByEvery(p, every, n);
            if (saying > most) {
                most = saying;
                best = every;
            }
        }
        return best;
    }

    public int everyFor(int p, int n) {
        return may(isPair(p), upTo(n, AHEAD)) ? bestEvery(p, n) : NONE;
    }

    public int everySays(int p, int n) {
        return may(isPair(p), upTo(n, AHEAD)) ? sayingByEvery(p, bestEvery(p, n), n) : NONE;
    }

    public int everyNever(int p) {
        if (!may(isPair(p))) {
            return NONE;
        }
        for (int every = 0; every <= MOST_EVERY; every++) {
            walk.begin(told, now, p);
            walk.every = every;
            if (walk.countMore(AHEAD) == 0) {
                return every;
            }
        }
        return NEVER;
    }

    public int stepFor(int p, int n) {
        if (!may(isPair(p), upTo(n, AHEAD))) {
            return NONE;
        }
        for (int least = 0; least <= MOST_STEP; least++) {
            walk.begin(told, now, p);
            walk.step = least;
            walk.goOn(n);
            if (walk.isMore()) {
                return least;
            }
        }
        return NEVER;
    }

    // ---- unsure steps

    /** Every call about FITS asks for a PIER alone; with one, the FITS stand in fitting behind this. */
    private boolean mayFit() {
        if (!may(standing)) {
            return false;
        }
        fitting.find(told);
        return true;
    }

    public int fits() {
        return mayFit() ? fitting.count : NONE;
    }

    public int fitAt(int i) {
        if (!mayFit()) {
            return NONE;
        }
        return i >= 0 && i < fitting.count ? fitting.sets[i] : refuse(NONE_SUCH);
    }

    public int could() {
        return mayFit() ? fitting.inSome() : NONE;
    }

    public int surely() {
        return mayFit() ? fitting.inAll() : NONE;
    }

    public int ask() {
        return mayFit() ? fitting.bestQuestion(told.unsures) : NONE;
    }

    public int askLeaves() {
        if (!mayFit()) {
            return NONE;
        }
        int question = fitting.bestQuestion(told.unsures);
        return question < 0 ? NEVER : fitting.leftAtMost(question);
    }

    public int judge() {
        if (!may(standing)) {
            return NONE;
        }
        for (int h = 0; h < told.heards; h++) {
            if (apartByTold(h) != 0) {
                return h;
            }
        }
        return NEVER;
    }

    private int apartByTold(int h) {
        walk.beginAsTold(told, told.heardPairs[h]);
        walk.goOn(told.heardSeasons[h]);
        return Math.abs(walk.figure - told.heardFigures[h]);
    }

    public int third(int p) {
        if (!may(isPair(p))) {
            return NONE;
        }
        int sum = 0;
        for (int h = 0; h < told.heards; h++) {
            if (told.heardPairs[h] == p) {
                sum += apartByTold(h);
            }
        }
        return sum;
    }

    // ---- debts

    public int owes(int p, int to) {
        return may(areUnlike(p, to)) ? now.owed[p * PAIRS + to] : NONE;
    }

    public int net(int p) {
        if (!may(isPair(p))) {
            return NO_NET;
        }
        books.reckon(now, told.pairs);
        return books.nets[p];
    }

    public int due() {
        if (!may(standing)) {
            return NONE;
        }
        books.reckon(now, told.pairs);
        return books.owedInAll();
    }

    public int creditor() {
        if (!may(standing)) {
            return NONE;
        }
        books.reckon(now, told.pairs);
        return firstMost(books.nets, told.pairs);
    }

    public int payments() {
        if (!may(standing)) {
            return NONE;
        }
        books.reckon(now, told.pairs);
        return books.fewestPayments();
    }

    public int ring(int p) {
        if (!may(isPair(p))) {
            return NONE;
        }
        books.findRing(now, told.pairs, p);
        return books.ringLength == 0 ? NEVER : books.ringLength;
    }

    public int ringAt(int p, int i) {
        if (!may(isPair(p))) {
            return NONE;
        }
        books.findRing(now, told.pairs, p);
        return i >= 0 && i < books.ringLength ? books.ringRow[i] : refuse(NONE_SUCH);
    }

    // ---- two who talk

    /** What one of TWO has; one less than nothing if only the other one talks. */
    private static int share(int breath, boolean talking, boolean otherTalking) {
        if (talking) {
            return otherTalking ? 1 - breath : 4;
        }
        return otherTalking ? -1 : 0;
    }

    private static boolean isRest(int breath, boolean man, boolean figure) {
        return share(breath, man, figure) >= share(breath, !man, figure)
            && share(breath, figure, man) >= share(breath, !figure, man);
    }

    /** The four ways of TWO in the document's order: tongues held ahead, the man's first. */
    private static boolean isRestAt(int breath, int way) {
        return isRest(breath, way >= 2, way % 2 == 1);
    }

    public int talks(int breath, boolean man, boolean figure, boolean ofFigure) {
        if (!may(standing, upTo(breath, MOST_BREATH))) {
            return NO_TALK;
        }
        return ofFigure ? share(breath, figure, man) : share(breath, man, figure);
    }

    public int rests(int breath) {
        if (!may(standing, upTo(breath, MOST_BREATH))) {
            return NONE;
        }
        int count = 0;
        for (int way = 0; way < 4; way++) {
            if (isRestAt(breath, way)) {
                count++;
            }
        }
        return count;
    }

    public int rest(int breath) {
        if (!may(standing, upTo(breath, MOST_BREATH))) {
            return NONE;
        }
        for (int way = 0; way < 4; way++) {
            if (isRestAt(breath, way)) {
                return way / 2 * 10 + way % 2;
            }
        }
        return NEVER;
    }

    // ---- the gallery

    public long verdictOdds(int p, int n, boolean lower) {
        if (!may(isPair(p), upTo(n, MOST_COUPLES_BY_CHANCE))) {
            return NONE;
        }
        gallery.reckon(told.pairs, p, n);
        ratio.reduce(gallery.hits, gallery.outcomes);
        return ratio.part(lower);
    }

    public int looks(int p, int seed, int n) {
        if (!may(isPair(p), upTo(seed, MOST_SEED) && upTo(n, MOST_COUPLES_BY_SEED))) {
            return NONE;
        }
        gallery.look(told.pairs, seed, n);
        return gallery.looked[p];
    }

    public int verdict(int seed, int n) {
        if (!may(standing, upTo(seed, MOST_SEED) && upTo(n, MOST_COUPLES_BY_SEED))) {
            return NONE;
        }
        gallery.look(told.pairs, seed, n);
        return firstMost(gallery.looked, told.pairs);
    }

    private static int drawFrom(int seed) {
        return (75 * seed + 74) % 65537;
    }

    // ---- dumb seasons

    public long odds(int p, int n, int much, boolean lower) {
        if (!may(isPair(p), upTo(n, SEASONS_BY_CHANCE) && upTo(much, MOST_WORDS))) {
            return NONE;
        }
        long chances = 0;
        for (int dumbOnes = 0; dumbOnes < 1 << n; dumbOnes++) {
            long chance = goWithDumb(p, n, dumbOnes);
            if (walk.figure >= much) {
                chances += chance;
            }
        }
        ratio.reduce(chances, allChances(n));
        return ratio.part(lower);
    }

    public long mean(int p, int n, boolean lower) {
        if (!may(isPair(p), upTo(n, SEASONS_BY_CHANCE))) {
            return NONE;
        }
        long sum = 0;
        for (int dumbOnes = 0; dumbOnes < 1 << n; dumbOnes++) {
            long chance = goWithDumb(p, n, dumbOnes);
            sum += chance * walk.figure;
        }
        ratio.reduce(sum, allChances(n));
        return ratio.part(lower);
    }

    /** Walks n seasons, dumb where a bit is set; answers in how many of 100 to the n cases it is so. */
    private long goWithDumb(int p, int n, int dumbOnes) {
        long chance = 1;
        walk.begin(told, now, p);
        for (int i = 0; i < n; i++) {
            if ((dumbOnes >> i & 1) != 0) {
                chance *= told.dumb;
                walk.goDumb();
            } else {
                chance *= 100 - told.dumb;
                walk.go();
            }
        }
        return chance;
    }

    private static long allChances(int n) {
        long all = 1;
        for (int i = 0; i < n; i++) {
            all *= 100;
        }
        return all;
    }

    public int drawn(int p, int seed, int n) {
        if (!may(isPair(p), upTo(seed, MOST_SEED) && upTo(n, AHEAD))) {
            return NONE;
        }
        int draw = seed;
        walk.begin(told, now, p);
        for (int i = 0; i < n; i++) {
            draw = drawFrom(draw);
            if (draw % 100 < told.dumb) {
                walk.goDumb();
            } else {
                walk.go();
            }
        }
        return walk.figure;
    }

    // ---- acts

    public int season() {
        if (!may(standing)) {
            return NONE;
        }
        if (now.seasons >= MOST_SEASONS) {
            return refuse(NO_ROOM);
        }
        history.keep(now);
        sayAllBehind(1);
        System.arraycopy(sayings, 0, now.figures, 0, told.pairs);
        now.seasons++;
        return bitsOfMore(now.figures);
    }

    public int change(int p) {
        if (!may(isPair(p))) {
            return NONE;
        }
        int man = told.words - now.figures[p];
        if (man == now.figures[p]) {
            return refuse(NOT_SO);
        }
        history.keep(now);
        now.figures[p] = man;
        return man;
    }

    public boolean step(int p, int step) {
        if (!may(isPair(p), upTo(step, MOST_STEP))) {
            return false;
        }
        if (now.steps[p] == step) {
            return deny(NOT_SO);
        }
        history.keep(now);
        now.steps[p] = step;
        return true;
    }

    public int pay(int p, int to, int much) {
        if (!may(areUnlike(p, to), much >= 1 && much <= MOST_DEBT)) {
            return NONE;
        }
        int debt = p * PAIRS + to;
        if (much > now.owed[debt]) {
            return refuse(NOT_SO);
        }
        history.keep(now);
        now.owed[debt] -= much;
        return now.owed[debt];
    }

    public boolean undo() {
        if (history.count == 0) {
            return deny(NOTHING_THERE);
        }
        history.takeBack(now);
        troubleNumber = NO_TROUBLE;
        return true;
    }

    public int image() {
        if (!may(standing)) {
            return NONE;
        }
        if (imageCount >= IMAGES) {
            return refuse(NO_ROOM);
        }
        now.save(images[imageCount]);
        imageCount++;
        return imageCount - 1;
    }

    public boolean back(int image) {
        if (!may(image >= 0 && image < imageCount)) {
            return false;
        }
        now.load(images[image]);
        history.forget();
        return true;
    }

    // ---- what is told

    public int led(int i) throws NoSuchElementException {
        int left = i;
        for (int p = 0; standing && p < told.pairs; p++) {
            if (isMore(now.figures[p])) {
                if (left == 0) {
                    return p;
                }
                left--;
            }
        }
        throw new NoSuchElementException();
    }

    public int size(int what) {
        switch (what) {
            case 7:
                return now.seasons;
            case 8:
                return history.count;
            case 9:
                return imageCount;
            case 10:
                return tapeLength;
            default:
                return told.count(what);
        }
    }

    public int trouble() {
        return troubleNumber;
    }

    /** What a text tells; it doesn't change while it is the PIER. */
    private static final class Pier {
        int words;
        int dumb;
        int pairs;
        int contracts;
        int debts;
        int unsures;
        int heards;
        final int[] laws = new int[PAIRS];
        final int[] figures = new int[PAIRS];
        final int[] steps = new int[PAIRS];
        final int[] everies = new int[PAIRS];
        /** What pair p owes pair q stands at p times PAIRS and q. */
        final int[] owed = new int[PAIRS * PAIRS];
        final int[] unsurePairs = new int[UNSURES];
        final int[] unsureSteps = new int[UNSURES];
        final int[] heardPairs = new int[HEARDS];
        final int[] heardSeasons = new int[HEARDS];
        final int[] heardFigures = new int[HEARDS];

        void clear() {
            words = 0;
            dumb = 0;
            pairs = 0;
            contracts = 0;
            debts = 0;
            unsures = 0;
            heards = 0;
            Arrays.fill(figures, 0);
            Arrays.fill(steps, 0);
            Arrays.fill(everies, 0);
            Arrays.fill(owed, 0);
        }

        int count(int what) {
            switch (what) {
                case 0:
                    return words;
                case 1:
                    return dumb;
                case 2:
                    return pairs;
                case 3:
                    return contracts;
                case 4:
                    return debts;
                case 5:
                    return unsures;
                case 6:
                    return heards;
                default:
                    return NONE;
            }
        }

        boolean isUnsure(int p) {
            for (int u = 0; u < unsures; u++) {
                if (unsurePairs[u] == p) {
                    return true;
                }
            }
            return false;
        }

        boolean isHeard(int p, int season) {
            for (int h = 0; h < heards; h++) {
                if (heardPairs[h] == p && heardSeasons[h] == season) {
                    return true;
                }
            }
            return false;
        }
    }

    /** Reads the text of a PIER; stops at its first FAULT. */
    private static final class Reader {
        private static final int FORM = 1;
        private static final int NOT_TOLD = 2;
        private static final int TOLD_AGAIN = 3;
        private static final int OUT_OF_BOUNDS = 4;
        private static final int MANY = 5;
        private static final int LACKS = 6;

        private static final int END = 0;
        private static final int WORD = 1;
        private static final int WHOLE = 2;
        private static final int SEMICOLON = 3;
        private static final int NO_TOKEN = 4;

        private static final int MOST_LETTERS = 8;
        private static final int MOST_DIGITS = 3;

        private final byte[] text;
        private int end;
        private int place;
        private int kind;
        private int start;
        private int whole;
        private Pier pier;
        private final int[] nameStarts = new int[PAIRS];
        private final int[] nameLengths = new int[PAIRS];
        int faultNumber;
        int faultPlace;

        Reader(byte[] tape, Pier into) {
            text = tape;
            pier = into;
        }

        /** Reads the first n bytes into a PIER; false, with a FAULT, if they are none. */
        boolean read(int n, Pier into) {
            pier = into;
            pier.clear();
            end = Math.min(n, text.length);
            place = 0;
            faultNumber = 0;
            faultPlace = 0;
            next();
            if (!readHead()) {
                return false;
            }
            for (int line = 1; line < TAPE_BYTES && kind == SEMICOLON; line++) {
                next();
                if (!readLine()) {
                    return false;
                }
            }
            if (kind != END) {
                return found(FORM);
            }
            return pier.pairs > 0 || found(LACKS);
        }

        /** A FAULT at the TOKEN that is looked at; false, so that readers can answer it. */
        private boolean found(int number) {
            faultNumber = number;
            faultPlace = start;
            return false;
        }

        // ---- tokens

        private void next() {
            while (place < end && text[place] == ' ') {
                place++;
            }
            start = place;
            if (place >= end) {
                kind = END;
            } else if (isLetter(text[place])) {
                takeLetters();
            } else if (isDigit(text[place])) {
                takeDigits();
            } else {
                kind = text[place] == ';' ? SEMICOLON : NO_TOKEN;
                place++;
            }
        }

        private static boolean isLetter(int sign) {
            return sign >= 'a' && sign <= 'z';
        }

        private static boolean isDigit(int sign) {
            return sign >= '0' && sign <= '9';
        }

        private void takeLetters() {
            while (place < end && isLetter(text[place])) {
                place++;
            }
            kind = place - start <= MOST_LETTERS ? WORD : NO_TOKEN;
        }

        private void takeDigits() {
            whole = 0;
            while (place < end && isDigit(text[place])) {
                whole = whole * 10 + text[place] - '0';
                place++;
            }
            kind = place - start <= MOST_DIGITS ? WHOLE : NO_TOKEN;
        }

        private boolean isWord(String word) {
            if (kind != WORD || place - start != word.length()) {
                return false;
            }
            for (int i = 0; i < word.length(); i++) {
                if (text[start + i] != word.charAt(i)) {
                    return false;
                }
            }
            return true;
        }

        private boolean isHeadOfLine() {
            return isWord("pier") || isWord("pair") || isWord("contract")
                || isWord("debt") || isWord("unsure") || isWord("heard");
        }

        private int lawOfWord() {
            if (isWord("creeping")) {
                return Walk.CREEPING;
            }
            if (isWord("leaping")) {
                return Walk.LEAPING;
            }
            if (isWord("fading")) {
                return Walk.FADING;
            }
            return isWord("swinging") ? Walk.SWINGING : NONE;
        }

        /** The pair whose NAME the TOKEN is, or NONE. */
        private int pairOfName() {
            for (int p = 0; p < pier.pairs; p++) {
                if (nameLengths[p] == place - start && isSame(nameStarts[p], nameLengths[p])) {
                    return p;
                }
            }
            return NONE;
        }

        private boolean isSame(int from, int length) {
            for (int i = 0; i < length; i++) {
                if (text[from + i] != text[start + i]) {
                    return false;
                }
            }
            return true;
        }

        // ---- parts of lines

        private boolean takeWord(String word) {
            if (!isWord(word)) {
                return found(FORM);
            }
            next();
            return true;
        }

        /** Looks at a WHOLE without going on, as more may be wrong with it. */
        private boolean seesWhole(int least, int most) {
            if (kind != WHOLE) {
                return found(FORM);
            }
            return whole >= least && whole <= most || found(OUT_OF_BOUNDS);
        }

        /** The pair that the TOKEN names, without going on; NONE, with a FAULT, if it names none. */
        private int seenPair() {
            if (kind != WORD || isHeadOfLine()) {
                found(FORM);
                return NONE;
            }
            int p = pairOfName();
            if (p < 0) {
                found(NOT_TOLD);
            }
            return p;
        }

        // ---- lines

        private boolean readHead() {
            if (!isWord("pier")) {
                return found(isHeadOfLine() ? LACKS : FORM);
            }
            next();
            if (!takeWord("words") || !seesWhole(2, MOST_WORDS)) {
                return false;
            }
            pier.words = whole;
            next();
            if (!takeWord("dumb") || !seesWhole(0, 100)) {
                return false;
            }
            pier.dumb = whole;
            next();
            return true;
        }

        private boolean readLine() {
            if (isWord("pair")) {
                return readPair();
            }
            if (isWord("contract")) {
                return readContract();
            }
            if (isWord("debt")) {
                return readDebt();
            }
            if (isWord("unsure")) {
                return readUnsure();
            }
            if (isWord("heard")) {
                return readHeard();
            }
            return found(isWord("pier") ? TOLD_AGAIN : FORM);
        }

        private boolean readPair() {
            int p = pier.pairs;
            if (p >= PAIRS) {
                return found(MANY);
            }
            next();
            if (kind != WORD || isHeadOfLine()) {
                return found(FORM);
            }
            if (pairOfName() >= 0) {
                return found(TOLD_AGAIN);
            }
            nameStarts[p] = start;
            nameLengths[p] = place - start;
            next();
            pier.laws[p] = lawOfWord();
            if (pier.laws[p] < 0) {
                return found(FORM);
            }
            next();
            if (!takeWord("figure") || !seesWhole(0, pier.words)) {
                return false;
            }
            pier.figures[p] = whole;
            next();
            if (!takeWord("step") || !seesWhole(0, MOST_STEP)) {
                return false;
            }
            pier.steps[p] = whole;
            pier.pairs++;
            next();
            return true;
        }

        private boolean readContract() {
            next();
            int p = seenPair();
            if (p < 0) {
                return false;
            }
            if (pier.everies[p] != 0) {
                return found(TOLD_AGAIN);
            }
            next();
            if (!takeWord("every") || !seesWhole(1, MOST_EVERY)) {
                return false;
            }
            pier.everies[p] = whole;
            pier.contracts++;
            next();
            return true;
        }

        private boolean readDebt() {
            if (pier.debts >= DEBTS) {
                return found(MANY);
            }
            next();
            int p = seenPair();
            if (p < 0) {
                return false;
            }
            next();
            int to = seenPair();
            if (to < 0) {
                return false;
            }
            if (to == p || pier.owed[p * PAIRS + to] != 0) {
                return found(TOLD_AGAIN);
            }
            next();
            if (!seesWhole(1, MOST_DEBT)) {
                return false;
            }
            pier.owed[p * PAIRS + to] = whole;
            pier.debts++;
            next();
            return true;
        }

        private boolean readUnsure() {
            int u = pier.unsures;
            if (u >= UNSURES) {
                return found(MANY);
            }
            next();
            int p = seenPair();
            if (p < 0) {
                return false;
            }
            if (pier.isUnsure(p)) {
                return found(TOLD_AGAIN);
            }
            next();
            if (!seesWhole(0, MOST_STEP)) {
                return false;
            }
            pier.unsurePairs[u] = p;
            pier.unsureSteps[u] = whole;
            pier.unsures++;
            next();
            return true;
        }

        private boolean readHeard() {
            int h = pier.heards;
            if (h >= HEARDS) {
                return found(MANY);
            }
            next();
            int p = seenPair();
            if (p < 0) {
                return false;
            }
            next();
            if (!takeWord("season") || !seesWhole(1, 30)) {
                return false;
            }
            if (pier.isHeard(p, whole)) {
                return found(TOLD_AGAIN);
            }
            pier.heardPairs[h] = p;
            pier.heardSeasons[h] = whole;
            next();
            if (!takeWord("figure") || !seesWhole(0, pier.words)) {
                return false;
            }
            pier.heardFigures[h] = whole;
            pier.heards++;
            next();
            return true;
        }
    }

    /** What ACTS change, and can be taken back. */
    private static final class Now {
        private static final int FIGURES_AT = 1;
        private static final int STEPS_AT = FIGURES_AT + PAIRS;
        private static final int OWED_AT = STEPS_AT + PAIRS;
        /** How many numbers a saved one takes. */
        static final int ROW = OWED_AT + PAIRS * PAIRS;

        int seasons;
        final int[] figures = new int[PAIRS];
        final int[] steps = new int[PAIRS];
        final int[] owed = new int[PAIRS * PAIRS];

        void begin(Pier told) {
            seasons = 0;
            System.arraycopy(told.figures, 0, figures, 0, PAIRS);
            System.arraycopy(told.steps, 0, steps, 0, PAIRS);
            System.arraycopy(told.owed, 0, owed, 0, PAIRS * PAIRS);
        }

        void save(int[] row) {
            if (row.length < ROW) {
                return;
            }
            row[0] = seasons;
            System.arraycopy(figures, 0, row, FIGURES_AT, PAIRS);
            System.arraycopy(steps, 0, row, STEPS_AT, PAIRS);
            System.arraycopy(owed, 0, row, OWED_AT, PAIRS * PAIRS);
        }

        void load(int[] row) {
            if (row.length < ROW) {
                return;
            }
            seasons = row[0];
            System.arraycopy(row, FIGURES_AT, figures, 0, PAIRS);
            System.arraycopy(row, STEPS_AT, steps, 0, PAIRS);
            System.arraycopy(row, OWED_AT, owed, 0, PAIRS * PAIRS);
        }
    }

    /** What stood ahead of the latest ACTS; the oldest one makes room for a new one. */
    private static final class History {
        private final int[][] rows = new int[KEPT_ACTS][Now.ROW];
        private int free;
        int count;

        void forget() {
            count = 0;
        }

        void keep(Now now) {
            now.save(rows[free]);
            free = (free + 1) % KEPT_ACTS;
            count = Math.min(count + 1, KEPT_ACTS);
        }

        void takeBack(Now now) {
            if (count > 0) {
                free = (free + KEPT_ACTS - 1) % KEPT_ACTS;
                count--;
                now.load(rows[free]);
            }
        }
    }

    /** One pair that goes on season by season, without a change to what is so NOW. */
    private static final class Walk {
        static final int CREEPING = 0;
        static final int LEAPING = 1;
        static final int FADING = 2;
        static final int SWINGING = 3;

        private int words;
        private int law;
        int step;
        int every;
        int figure;
        int seasons;

        void begin(Pier told, Now now, int p) {
            beginAsTold(told, p);
            step = now.steps[p];
            figure = now.figures[p];
            seasons = now.seasons;
        }

        void beginAsTold(Pier told, int p) {
            words = told.words;
            law = told.laws[p];
            step = told.steps[p];
            every = told.everies[p];
            figure = told.figures[p];
            seasons = 0;
        }

        void go() {
            figure = Math.max(0, Math.min(words, byLaw()));
            goDumb();
        }

        private int byLaw() {
            switch (law) {
                case CREEPING:
                    return figure + step;
                case LEAPING:
                    return 2 * figure + step;
                case FADING:
                    return figure - step;
                default:
                    return words - figure + step;
            }
        }

        /** A SEASON without its LAW: the contract is followed all the same. */
        void goDumb() {
            seasons++;
            if (every > 0 && seasons % every == 0) {
                figure = words - figure;
            }
        }

        void goOn(int n) {
            for (int i = 0; i < n; i++) {
                go();
            }
        }

        boolean isMore() {
            return figure > words - figure;
        }

        /** Behind how many of the next n SEASONS the figure says MORE. */
        int countMore(int n) {
            int count = 0;
            for (int i = 0; i < n; i++) {
                go();
                if (isMore()) {
                    count++;
                }
            }
            return count;
        }
    }

    /** Where the SAYINGS of a pair GO ROUND, and how. */
    private static final class Rounds {
        /** What a figure can say, times the places in a contract's term. */
        private static final int STATES = (MOST_WORDS + 1) * MOST_EVERY;

        private final int[] seen = new int[STATES];
        private final int[] values = new int[STATES];
        int first;
        int length;

        void follow(Walk walk) {
            Arrays.fill(seen, NONE);
            int count = 0;
            int state = stateOf(walk);
            while (count < STATES && seen[state] < 0) {
                seen[state] = count;
                values[count] = walk.figure;
                count++;
                walk.go();
                state = stateOf(walk);
            }
            // The states come again from here on; the sayings can't from earlier on, but behind fewer seasons.
            first = Math.max(0, seen[state]);
            length = Math.max(1, count - first);
            shortenRound();
        }

        private static int stateOf(Walk walk) {
            int term = Math.max(1, walk.every);
            int state = walk.figure * term + walk.seasons % term;
            return Math.max(0, Math.min(STATES - 1, state));
        }

        private void shortenRound() {
            for (int shorter = 1; shorter < length; shorter++) {
                if (length % shorter == 0 && comesAgainBehind(shorter)) {
                    length = shorter;
                }
            }
        }

        private boolean comesAgainBehind(int shorter) {
            for (int i = first; i + shorter < first + length; i++) {
                if (values[i] != values[i + shorter]) {
                    return false;
                }
            }
            return true;
        }

        int saying(int n) {
            if (n < first) {
                return values[n];
            }
            return values[first + (n - first) % length];
        }

        int most() {
            int most = values[first];
            for (int i = first; i < first + length; i++) {
                most = Math.max(most, values[i]);
            }
            return most;
        }

        int least() {
            int least = values[first];
            for (int i = first; i < first + length; i++) {
                least = Math.min(least, values[i]);
            }
            return least;
        }
    }

    /** FITS: sets of unsure pairs, the k-th unsure pair as told being bit k. */
    private static final class Fitting {
        private final Walk walk = new Walk();
        /** 1 and 0: whether what was heard of the k-th unsure pair goes with its step as told. */
        private final int[] asTold = new int[UNSURES];
        private final int[] asOther = new int[UNSURES];
        final int[] sets = new int[1 << UNSURES];
        int count;

        void find(Pier told) {
            count = 0;
            for (int p = 0; p < told.pairs; p++) {
                if (!told.isUnsure(p) && !fitsHeard(told, p, told.steps[p])) {
                    return;
                }
            }
            for (int u = 0; u < told.unsures; u++) {
                int p = told.unsurePairs[u];
                asTold[u] = fitsHeard(told, p, told.steps[p]) ? 1 : 0;
                asOther[u] = fitsHeard(told, p, told.unsureSteps[u]) ? 1 : 0;
            }
            for (int set = 0; set < 1 << told.unsures; set++) {
                if (isFit(set, told.unsures)) {
                    sets[count] = set;
                    count++;
                }
            }
        }

        private boolean fitsHeard(Pier told, int p, int step) {
            for (int h = 0; h < told.heards; h++) {
                if (told.heardPairs[h] == p) {
                    walk.beginAsTold(told, p);
                    walk.step = step;
                    walk.goOn(told.heardSeasons[h]);
                    if (walk.figure != told.heardFigures[h]) {
                        return false;
                    }
                }
            }
            return true;
        }

        private boolean isFit(int set, int unsures) {
            for (int u = 0; u < unsures; u++) {
                int good = (set >> u & 1) != 0 ? asOther[u] : asTold[u];
                if (good == 0) {
                    return false;
                }
            }
            return true;
        }

        int inSome() {
            int bits = 0;
            for (int i = 0; i < count; i++) {
                bits |= sets[i];
            }
            return bits;
        }

        int inAll() {
            int bits = count == 0 ? 0 : sets[0];
            for (int i = 1; i < count; i++) {
                bits &= sets[i];
            }
            return bits;
        }

        int leftAtMost(int u) {
            int with = 0;
            for (int i = 0; i < count; i++) {
                with += sets[i] >> u & 1;
            }
            return Math.max(with, count - with);
        }

        int bestQuestion(int unsures) {
            int best = NEVER;
            int fewest = count;
            for (int u = 0; count > 0 && u < unsures; u++) {
                int left = leftAtMost(u);
                if (best < 0 || left < fewest) {
                    fewest = left;
                    best = u;
                }
            }
            return best;
        }
    }

    /** NETS, PAYMENTS and RINGS by what is owed NOW. */
    private static final class Books {
        private int pairs;
        final int[] nets = new int[PAIRS];
        private final int[] sums = new int[1 << PAIRS];
        private final int[] groups = new int[1 << PAIRS];
        private final int[] debtsHome = new int[PAIRS];
        final int[] ringRow = new int[PAIRS];
        int ringLength;

        void reckon(Now now, int count) {
            pairs = Math.min(count, PAIRS);
            for (int p = 0; p < pairs; p++) {
                nets[p] = 0;
                for (int other = 0; other < pairs; other++) {
                    nets[p] += now.owed[other * PAIRS + p] - now.owed[p * PAIRS + other];
                }
            }
        }

        int owedInAll() {
            int sum = 0;
            for (int p = 0; p < pairs; p++) {
                sum += Math.max(0, nets[p]);
            }
            return sum;
        }

        /** Pairs whose NETS are 0 together pay among themselves, with a payment fewer than pairs. */
        int fewestPayments() {
            int all = (1 << pairs) - 1;
            sums[0] = 0;
            groups[0] = 0;
            for (int set = 1; set <= all; set++) {
                int most = 0;
                for (int p = 0; p < pairs; p++) {
                    if ((set >> p & 1) != 0) {
                        int rest = set ^ 1 << p;
                        sums[set] = sums[rest] + nets[p];
                        most = Math.max(most, groups[rest]);
                    }
                }
                groups[set] = sums[set] == 0 ? most + 1 : most;
            }
            return pairs - groups[all];
        }

        void findRing(Now now, int count, int p) {
            pairs = Math.min(count, PAIRS);
            ringLength = 0;
            countDebtsHome(now, p);
            int left = fewestDebtsBehind(now, p);
            if (left > pairs) {
                return;
            }
            int at = p;
            ringRow[0] = p;
            ringLength = 1;
            for (; left > 0 && ringLength < PAIRS; left--) {
                at = firstNext(now, at, left);
                ringRow[ringLength] = at;
                ringLength++;
            }
        }

        /** By how many debts, one behind the other, each pair comes to p; more than PAIRS: by none. */
        private void countDebtsHome(Now now, int home) {
            Arrays.fill(debtsHome, PAIRS + 1);
            debtsHome[home] = 0;
            for (int turn = 0; turn < pairs; turn++) {
                for (int p = 0; p < pairs; p++) {
                    if (p != home) {
                        debtsHome[p] = Math.min(debtsHome[p], fewestDebtsBehind(now, p) + 1);
                    }
                }
            }
        }

        private int fewestDebtsBehind(Now now, int p) {
            int fewest = PAIRS + 1;
            for (int next = 0; next < pairs; next++) {
                if (now.owed[p * PAIRS + next] > 0) {
                    fewest = Math.min(fewest, debtsHome[next]);
                }
            }
            return fewest;
        }

        private int firstNext(Now now, int p, int left) {
            for (int next = 0; next < pairs; next++) {
                if (now.owed[p * PAIRS + next] > 0 && debtsHome[next] == left) {
                    return next;
                }
            }
            return p;
        }
    }

    /** Couples who look at pairs, by chance or by a SEED. */
    private static final class Gallery {
        final int[] looked = new int[PAIRS];
        int hits;
        int outcomes;

        /** In how many of all outcomes the VERDICT of n couples is p. */
        void reckon(int pairs, int p, int n) {
            outcomes = 1;
            for (int i = 0; i < n; i++) {
                outcomes *= pairs;
            }
            hits = 0;
            for (int outcome = 0; outcome < outcomes; outcome++) {
                lookBy(outcome, pairs, n);
                if (firstMost(looked, pairs) == p) {
                    hits++;
                }
            }
        }

        /** The digits of an outcome, by as many pairs as there are, tell whom each couple looks at. */
        private void lookBy(int outcome, int pairs, int n) {
            Arrays.fill(looked, 0);
            int left = outcome;
            for (int i = 0; i < n && pairs > 0; i++) {
                looked[left % pairs]++;
                left /= pairs;
            }
        }

        void look(int pairs, int seed, int n) {
            Arrays.fill(looked, 0);
            int draw = seed;
            for (int i = 0; i < n && pairs > 0; i++) {
                draw = drawFrom(draw);
                looked[draw % pairs]++;
            }
        }
    }

    /** Two WHOLES in lowest terms. */
    private static final class Ratio {
        private long upper;
        private long lower;

        void reduce(long above, long below) {
            long divisor = below;
            long left = above;
            // Each two turns halve what is left, so that a hundred are plenty for a long.
            for (int turn = 0; turn < 100 && left != 0; turn++) {
                long next = divisor % left;
                divisor = left;
                left = next;
            }
            upper = divisor == 0 ? above : above / divisor;
            lower = divisor == 0 ? below : below / divisor;
        }

        long part(boolean isLower) {
            return isLower ? lower : upper;
        }
    }
}
