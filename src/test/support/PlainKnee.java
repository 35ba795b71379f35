import java.math.BigInteger;
import java.util.ArrayList;
import java.util.HashMap;
import java.util.List;
import java.util.Map;
import java.util.function.IntUnaryOperator;
import java.util.regex.Matcher;
import java.util.regex.Pattern;

/**
 * The document once more, written without regard to speed or room and with other means than
 * FigureKnee, so that the two can be held against each other.
 */
final class PlainKnee {
    private static final List<String> HEADS = List.of("pier", "pair", "contract", "debt", "unsure", "heard");
    private static final List<String> LAWS = List.of("creeping", "leaping", "fading", "swinging");

    /** What is told. */
    private static final class Text {
        int words;
        int dumb;
        final List<String> names = new ArrayList<>();
        final List<Integer> laws = new ArrayList<>();
        final List<Integer> figures = new ArrayList<>();
        final List<Integer> steps = new ArrayList<>();
        final Map<Integer, Integer> every = new HashMap<>();
        final Map<String, Integer> debts = new HashMap<>();
        final List<int[]> unsure = new ArrayList<>();
        final List<int[]> heard = new ArrayList<>();
    }

    /** What is NOW. */
    private static final class State {
        int seasons;
        List<Integer> figures;
        List<Integer> steps;
        Map<String, Integer> debts;

        State copy() {
            State s = new State();
            s.seasons = seasons;
            s.figures = new ArrayList<>(figures);
            s.steps = new ArrayList<>(steps);
            s.debts = new HashMap<>(debts);
            return s;
        }
    }

    private static final class Fault extends Exception {
        private static final long serialVersionUID = 1L;
        final int number;
        final int place;

        Fault(int number, int place) {
            this.number = number;
            this.place = place;
        }
    }

    private String tape = "";
    private Text text;
    private State now;
    private final List<State> undo = new ArrayList<>();
    private final List<State> images = new ArrayList<>();
    private int trouble;
    private int fault;
    private int place;

    // ---- the pier

    int feed(String twenty) {
        if (tape.length() + 20 > 900) {
            return -1;
        }
        tape += twenty;
        return tape.length();
    }

    int pier(int n) {
        if (n < 0 || n > tape.length()) {
            return no(2);
        }
        String source = tape.substring(0, n);
        tape = "";
        try {
            text = parse(source);
        } catch (Fault f) {
            fault = f.number;
            place = f.place;
            return no(4);
        }
        fault = 0;
        now = new State();
        now.figures = new ArrayList<>(text.figures);
        now.steps = new ArrayList<>(text.steps);
        now.debts = new HashMap<>(text.debts);
        undo.clear();
        images.clear();
        trouble = 0;
        return pairs();
    }

    private static Text parse(String source) throws Fault {
        List<String> tokens = new ArrayList<>();
        List<Integer> places = new ArrayList<>();
        Matcher m = Pattern.compile("[a-z]+|[0-9]+|[^ ]", Pattern.DOTALL).matcher(source);
        while (m.find()) {
            tokens.add(m.group());
            places.add(m.start());
        }
        tokens.add("");
        places.add(source.length());
        Text t = new Text();
        int at = 0;
        boolean first = true;
        do {
            if (!first) {
                at++;
            }
            at = line(t, tokens, places, at, first);
            first = false;
        } while (tokens.get(at).equals(";"));
        if (!tokens.get(at).isEmpty()) {
            throw new Fault(1, places.get(at));
        }
        if (t.names.isEmpty()) {
            throw new Fault(6, places.get(at));
        }
        return t;
    }

    /** Reads a line by the pattern of its sort: N a new name, P a pair, L a law, a WHOLE by its bounds. */
    private static int line(Text t, List<String> tokens, List<Integer> places, int from, boolean first) throws Fault {
        String head = tokens.get(from);
        if (!HEADS.contains(head)) {
            throw new Fault(1, places.get(from));
        }
        if (first != head.equals("pier")) {
            throw new Fault(first ? 6 : 3, places.get(from));
        }
        String pattern;
        int count = 0;
        int room = 1;
        switch (head) {
            case "pier":
                pattern = "words 2-99 dumb 0-100";
                break;
            case "pair":
                pattern = "N L figure 0-" + t.words + " step 0-20";
                count = t.names.size();
                room = 5;
                break;
            case "contract":
                pattern = "P every 1-9";
                break;
            case "debt":
                pattern = "P P 1-99";
                count = t.debts.size();
                room = 10;
                break;
            case "unsure":
                pattern = "P 0-20";
                count = t.unsure.size();
                room = 4;
                break;
            default:
                pattern = "P season 1-30 figure 0-" + t.words;
                count = t.heard.size();
                room = 8;
        }
        if (count >= room) {
            throw new Fault(5, places.get(from));
        }
        List<Integer> got = new ArrayList<>();
        int at = from + 1;
        String name = "";
        for (String part : pattern.split(" ")) {
            String token = tokens.get(at);
            int number = wrongWith(t, head, got, part, token);
            if (number != 0) {
                throw new Fault(number, places.get(at));
            }
            if (part.equals("N")) {
                name = token;
            } else if (part.equals("P")) {
                got.add(t.names.indexOf(token));
            } else if (part.equals("L")) {
                got.add(LAWS.indexOf(token));
            } else if (part.contains("-")) {
                got.add(Integer.parseInt(token));
            }
            at++;
        }
        take(t, head, got, name);
        return at;
    }

    private static int wrongWith(Text t, String head, List<Integer> got, String part, String token) {
        boolean word = token.matches("[a-z]{1,8}");
        if (part.equals("N") || part.equals("P")) {
            if (!word || HEADS.contains(token)) {
                return 1;
            }
            int p = t.names.indexOf(token);
            if (part.equals("N")) {
                return p >= 0 ? 3 : 0;
            }
            if (p < 0) {
                return 2;
            }
            boolean again = head.equals("contract") && t.every.containsKey(p)
                || head.equals("unsure") && t.unsure.stream().anyMatch(u -> u[0] == p)
                || head.equals("debt") && got.size() == 1 && (got.get(0) == p || t.debts.containsKey(got.get(0) + ">" + p));
            return again ? 3 : 0;
        }
        if (part.equals("L")) {
            return LAWS.contains(token) ? 0 : 1;
        }
        if (!part.contains("-")) {
            return part.equals(token) ? 0 : 1;
        }
        if (!token.matches("[0-9]{1,3}")) {
            return 1;
        }
        int whole = Integer.parseInt(token);
        if (head.equals("heard") && got.size() == 1 && t.heard.stream().anyMatch(h -> h[0] == got.get(0) && h[1] == whole)) {
            return 3;
        }
        String[] bounds = part.split("-");
        return whole < Integer.parseInt(bounds[0]) || whole > Integer.parseInt(bounds[1]) ? 4 : 0;
    }

    private static void take(Text t, String head, List<Integer> got, String name) {
        switch (head) {
            case "pier":
                t.words = got.get(0);
                t.dumb = got.get(1);
                break;
            case "pair":
                t.names.add(name);
                t.laws.add(got.get(0));
                t.figures.add(got.get(1));
                t.steps.add(got.get(2));
                break;
            case "contract":
                t.every.put(got.get(0), got.get(1));
                break;
            case "debt":
                t.debts.put(got.get(0) + ">" + got.get(1), got.get(2));
                break;
            case "unsure":
                t.unsure.add(new int[] {got.get(0), got.get(1)});
                break;
            default:
                t.heard.add(new int[] {got.get(0), got.get(1), got.get(2)});
        }
    }

    int fault() {
        return fault;
    }

    int where() {
        return trouble == 4 ? place : -1;
    }

    // ---- refusals

    private int no(int number) {
        trouble = number;
        return -1;
    }

    private boolean refuses(boolean there, boolean number) {
        trouble = there ? number ? 0 : 2 : 1;
        return trouble != 0;
    }

    private int pairs() {
        return text == null ? 0 : text.names.size();
    }

    private boolean has(int p) {
        return p >= 0 && p < pairs();
    }

    private boolean hasTwo(int p, int q) {
        return has(p) && has(q) && p != q;
    }

    private static boolean in(int n, int least, int most) {
        return least <= n && n <= most;
    }

    // ---- seasons

    private int oneSeason(int p, int figure, int step, int every, int number, boolean dumb) {
        int man = text.words - figure;
        int after = figure;
        if (!dumb) {
            int law = text.laws.get(p);
            after = law == 0 ? figure + step : law == 1 ? figure * 2 + step : law == 2 ? figure - step : man + step;
            after = after < 0 ? 0 : after > text.words ? text.words : after;
        }
        return every != 0 && number % every == 0 ? text.words - after : after;
    }

    private int every(int p) {
        return text.every.getOrDefault(p, 0);
    }

    /** What the figure says behind 0 .. n seasons. */
    private int[] line(int p, int n, int step, int every, IntUnaryOperator dumb) {
        int[] row = new int[n + 1];
        row[0] = now.figures.get(p);
        for (int i = 1; i <= n; i++) {
            row[i] = oneSeason(p, row[i - 1], step, every, now.seasons + i, dumb.applyAsInt(i) != 0);
        }
        return row;
    }

    private int[] line(int p, int n) {
        return line(p, n, now.steps.get(p), every(p), i -> 0);
    }

    private boolean more(int figure) {
        return 2 * figure > text.words;
    }

    int pair(int p, int what) {
        if (refuses(has(p) && in(what, 0, 5), true)) {
            return -1;
        }
        int f = now.figures.get(p);
        return new int[] {text.laws.get(p), f, text.words - f, now.steps.get(p), every(p), more(f) ? 1 : 0}[what];
    }

    int says(int p, int n) {
        return refuses(has(p), in(n, 0, 60)) ? -1 : line(p, n)[n];
    }

    int saysAll(int p, int n) {
        if (refuses(has(p), in(n, 0, 60))) {
            return -1;
        }
        int[] row = line(p, n);
        int sum = 0;
        for (int i = 1; i <= n; i++) {
            sum += row[i];
        }
        return sum;
    }

    int moreIn(int p) {
        if (refuses(has(p), true)) {
            return -1;
        }
        int[] row = line(p, 60);
        for (int i = 0; i <= 60; i++) {
            if (more(row[i])) {
                return i;
            }
        }
        return -2;
    }

    int moreTimes(int p, int n) {
        if (refuses(has(p), in(n, 0, 60))) {
            return -1;
        }
        return countMore(line(p, n));
    }

    private int countMore(int[] row) {
        int count = 0;
        for (int i = 1; i < row.length; i++) {
            count += more(row[i]) ? 1 : 0;
        }
        return count;
    }

    /** {first, length}: tried out over so many seasons that nothing new can come behind them. */
    private int[] rounds(int p) {
        int[] row = line(p, 4000);
        for (int length = 1; length <= 1000; length++) {
            boolean again = true;
            for (int i = 1000; again && i + length <= 4000; i++) {
                again = row[i] == row[i + length];
            }
            if (again) {
                int first = 1000;
                while (first > 0 && row[first - 1] == row[first - 1 + length]) {
                    first--;
                }
                return new int[] {first, length};
            }
        }
        throw new IllegalStateException();
    }

    int settles(int p) {
        return refuses(has(p), true) ? -1 : rounds(p)[0];
    }

    int round(int p) {
        return refuses(has(p), true) ? -1 : rounds(p)[1];
    }

    int saysLate(int p, int n) {
        if (refuses(has(p), in(n, 0, 2000000000))) {
            return -1;
        }
        int length = rounds(p)[1];
        int same = n <= 2000 ? n : 1000 + (n - 1000) % length;
        return line(p, same)[same];
    }

    int roundEnd(int p, int sign) {
        if (refuses(has(p), true)) {
            return -1;
        }
        int[] round = rounds(p);
        int[] row = line(p, round[0] + round[1] - 1);
        int best = row[round[0]];
        for (int i = round[0]; i < row.length; i++) {
            best = sign * row[i] > sign * best ? row[i] : best;
        }
        return best;
    }

    int turnsAbout(int p) {
        if (refuses(has(p), true)) {
            return -1;
        }
        int[] row = line(p, 60);
        int count = 0;
        for (int i = 0; i < 60; i++) {
            count += more(row[i]) == more(row[i + 1]) ? 0 : 1;
        }
        return count;
    }

    int alikeIn(int p, int q) {
        if (refuses(hasTwo(p, q), true)) {
            return -1;
        }
        for (int i = 0; i <= 60; i++) {
            if (line(p, i)[i] == line(q, i)[i]) {
                return i;
            }
        }
        return -2;
    }

    int overtakes(int p, int q) {
        if (refuses(hasTwo(p, q), true)) {
            return -1;
        }
        for (int i = 0; i <= 60; i++) {
            if (line(p, i)[i] > line(q, i)[i]) {
                return i;
            }
        }
        return -2;
    }

    int loudest(int n) {
        if (refuses(pairs() > 0, in(n, 0, 60))) {
            return -1;
        }
        int best = -1;
        for (int p = pairs() - 1; p >= 0; p--) {
            if (best < 0 || line(p, n)[n] >= line(best, n)[n]) {
                best = p;
            }
        }
        return best;
    }

    int widest(int n) {
        if (refuses(pairs() > 0, in(n, 0, 60))) {
            return -1;
        }
        int best = -2;
        int far = -1;
        for (int q = pairs() - 1; q > 0; q--) {
            for (int p = q - 1; p >= 0; p--) {
                int apart = Math.abs(line(p, n)[n] - line(q, n)[n]);
                if (apart > far || apart == far && 10 * p + q < best) {
                    far = apart;
                    best = 10 * p + q;
                }
            }
        }
        return best;
    }

    int sumAll(int n) {
        if (refuses(pairs() > 0, in(n, 0, 60))) {
            return -1;
        }
        int sum = 0;
        for (int p = 0; p < pairs(); p++) {
            sum += line(p, n)[n];
        }
        return sum;
    }

    int masters(int n) {
        if (refuses(pairs() > 0, in(n, 0, 60))) {
            return -1;
        }
        int bits = 0;
        for (int p = 0; p < pairs(); p++) {
            bits += more(line(p, n)[n]) ? 1 << p : 0;
        }
        return bits;
    }

    // ---- contracts

    int everyBest(int p, int n, boolean says) {
        if (refuses(has(p), in(n, 0, 60))) {
            return -1;
        }
        int best = -1;
        int at = -1;
        for (int every = 9; every >= 0; every--) {
            int saying = line(p, n, now.steps.get(p), every, i -> 0)[n];
            if (saying >= best) {
                best = saying;
                at = every;
            }
        }
        return says ? best : at;
    }

    int everyNever(int p) {
        if (refuses(has(p), true)) {
            return -1;
        }
        for (int every = 0; every <= 9; every++) {
            if (countMore(line(p, 60, now.steps.get(p), every, i -> 0)) == 0) {
                return every;
            }
        }
        return -2;
    }

    int stepFor(int p, int n) {
        if (refuses(has(p), in(n, 0, 60))) {
            return -1;
        }
        for (int step = 0; step <= 20; step++) {
            if (more(line(p, n, step, every(p), i -> 0)[n])) {
                return step;
            }
        }
        return -2;
    }

    // ---- unsure steps

    private int saidBehind(int p, int step, int seasons) {
        int figure = text.figures.get(p);
        for (int i = 1; i <= seasons; i++) {
            figure = oneSeason(p, figure, step, every(p), i, false);
        }
        return figure;
    }

    private List<Integer> fitList() {
        List<Integer> list = new ArrayList<>();
        for (int set = 0; set < 1 << text.unsure.size(); set++) {
            boolean good = true;
            for (int[] h : text.heard) {
                int step = text.steps.get(h[0]);
                for (int u = 0; u < text.unsure.size(); u++) {
                    if (text.unsure.get(u)[0] == h[0] && (set & 1 << u) != 0) {
                        step = text.unsure.get(u)[1];
                    }
                }
                good &= saidBehind(h[0], step, h[1]) == h[2];
            }
            if (good) {
                list.add(set);
            }
        }
        return list;
    }

    int fits() {
        return refuses(pairs() > 0, true) ? -1 : fitList().size();
    }

    int fitAt(int i) {
        return refuses(pairs() > 0 && in(i, 0, fitList().size() - 1), true) ? -1 : fitList().get(i);
    }

    int could() {
        return refuses(pairs() > 0, true) ? -1 : fitList().stream().reduce(0, (a, b) -> a | b);
    }

    int surely() {
        return refuses(pairs() > 0, true) ? -1 : fitList().isEmpty() ? 0 : fitList().stream().reduce(-1, (a, b) -> a & b);
    }

    int ask(boolean leaves) {
        if (refuses(pairs() > 0, true)) {
            return -1;
        }
        int best = -2;
        int fewest = -2;
        for (int u = text.unsure.size() - 1; u >= 0 && !fitList().isEmpty(); u--) {
            int bit = 1 << u;
            int with = (int) fitList().stream().filter(s -> (s & bit) != 0).count();
            int without = (int) fitList().stream().filter(s -> (s & bit) == 0).count();
            int left = Math.max(with, without);
            if (best < 0 || left <= fewest) {
                best = u;
                fewest = left;
            }
        }
        return leaves ? fewest : best;
    }

    int judge() {
        if (refuses(pairs() > 0, true)) {
            return -1;
        }
        for (int i = 0; i < text.heard.size(); i++) {
            int[] h = text.heard.get(i);
            if (saidBehind(h[0], text.steps.get(h[0]), h[1]) != h[2]) {
                return i;
            }
        }
        return -2;
    }

    int third(int p) {
        if (refuses(has(p), true)) {
            return -1;
        }
        int sum = 0;
        for (int[] h : text.heard) {
            sum += h[0] == p ? Math.abs(saidBehind(p, text.steps.get(p), h[1]) - h[2]) : 0;
        }
        return sum;
    }

    // ---- debts

    private int debt(int p, int q) {
        return now.debts.getOrDefault(p + ">" + q, 0);
    }

    int owes(int p, int to) {
        return refuses(hasTwo(p, to), true) ? -1 : debt(p, to);
    }

    private int netOf(int p) {
        int sum = 0;
        for (int q = 0; q < pairs(); q++) {
            sum += debt(q, p) - debt(p, q);
        }
        return sum;
    }

    int net(int p) {
        return refuses(has(p), true) ? -1000000 : netOf(p);
    }

    int due() {
        if (refuses(pairs() > 0, true)) {
            return -1;
        }
        int sum = 0;
        for (int p = 0; p < pairs(); p++) {
            sum += Math.abs(netOf(p));
        }
        return sum / 2;
    }

    int creditor() {
        if (refuses(pairs() > 0, true)) {
            return -1;
        }
        int best = 0;
        for (int p = pairs() - 1; p >= 0; p--) {
            best = netOf(p) >= netOf(best) ? p : best;
        }
        return best;
    }

    int payments() {
        if (refuses(pairs() > 0, true)) {
            return -1;
        }
        int[] nets = new int[pairs()];
        for (int p = 0; p < nets.length; p++) {
            nets[p] = netOf(p);
        }
        return settle(nets, 0);
    }

    /** Each pair ahead pays its whole net to, or has it from, some pair behind it of the other sign. */
    private static int settle(int[] nets, int from) {
        if (from == nets.length) {
            return 0;
        }
        if (nets[from] == 0) {
            return settle(nets, from + 1);
        }
        int best = 1000;
        for (int q = from + 1; q < nets.length; q++) {
            if (nets[q] != 0 && nets[q] > 0 != nets[from] > 0) {
                nets[q] += nets[from];
                best = Math.min(best, 1 + settle(nets, from + 1));
                nets[q] -= nets[from];
            }
        }
        return best;
    }

    private List<Integer> ringList(int p) {
        List<Integer> best = null;
        List<List<Integer>> paths = new ArrayList<>();
        paths.add(List.of(p));
        for (int length = 1; length <= pairs() && best == null; length++) {
            List<List<Integer>> longer = new ArrayList<>();
            for (List<Integer> path : paths) {
                int last = path.get(path.size() - 1);
                if (length > 1 && debt(last, p) > 0 && best == null) {
                    best = path;
                }
                for (int q = 0; q < pairs(); q++) {
                    if (debt(last, q) > 0 && !path.contains(q)) {
                        List<Integer> next = new ArrayList<>(path);
                        next.add(q);
                        longer.add(next);
                    }
                }
            }
            paths = longer;
        }
        return best == null ? List.of() : best;
    }

    int ring(int p) {
        return refuses(has(p), true) ? -1 : ringList(p).isEmpty() ? -2 : ringList(p).size();
    }

    int ringAt(int p, int i) {
        return refuses(has(p) && in(i, 0, ringList(p).size() - 1), true) ? -1 : ringList(p).get(i);
    }

    // ---- two who talk

    private static int[] shares(int breath, int man, int figure) {
        int[][] rows = {{0, 0}, {-1, 4}, {4, -1}, {1 - breath, 1 - breath}};
        return rows[2 * man + figure];
    }

    int talks(int breath, boolean man, boolean figure, boolean ofFigure) {
        if (refuses(pairs() > 0, in(breath, 0, 9))) {
            return -100;
        }
        return shares(breath, man ? 1 : 0, figure ? 1 : 0)[ofFigure ? 1 : 0];
    }

    private static List<Integer> restList(int breath) {
        List<Integer> list = new ArrayList<>();
        for (int m = 0; m < 2; m++) {
            for (int f = 0; f < 2; f++) {
                if (shares(breath, 1 - m, f)[0] <= shares(breath, m, f)[0]
                    && shares(breath, m, 1 - f)[1] <= shares(breath, m, f)[1]) {
                    list.add(10 * m + f);
                }
            }
        }
        return list;
    }

    int rests(int breath) {
        return refuses(pairs() > 0, in(breath, 0, 9)) ? -1 : restList(breath).size();
    }

    int rest(int breath) {
        return refuses(pairs() > 0, in(breath, 0, 9)) ? -1 : restList(breath).isEmpty() ? -2 : restList(breath).get(0);
    }

    // ---- the gallery

    private static long part(BigInteger upper, BigInteger lower, boolean ofLower) {
        BigInteger gcd = upper.gcd(lower);
        return (ofLower ? lower : upper).divide(gcd).longValueExact();
    }

    private static int first(int[] row) {
        int best = 0;
        for (int i = row.length - 1; i >= 0; i--) {
            best = row[i] >= row[best] ? i : best;
        }
        return best;
    }

    private static int hits(int[] looked, int p, int n) {
        if (n == 0) {
            return first(looked) == p ? 1 : 0;
        }
        int sum = 0;
        for (int q = 0; q < looked.length; q++) {
            looked[q]++;
            sum += hits(looked, p, n - 1);
            looked[q]--;
        }
        return sum;
    }

    long verdictOdds(int p, int n, boolean lower) {
        if (refuses(has(p), in(n, 0, 4))) {
            return -1;
        }
        return part(BigInteger.valueOf(hits(new int[pairs()], p, n)), BigInteger.valueOf(pairs()).pow(n), lower);
    }

    private int[] lookedBy(int seed, int n) {
        int[] looked = new int[pairs()];
        long draw = seed;
        for (int i = 0; i < n; i++) {
            draw = (75 * draw + 74) % 65537;
            looked[(int) (draw % pairs())]++;
        }
        return looked;
    }

    int looks(int p, int seed, int n) {
        return refuses(has(p), in(seed, 0, 65536) && in(n, 0, 200)) ? -1 : lookedBy(seed, n)[p];
    }

    int verdict(int seed, int n) {
        return refuses(pairs() > 0, in(seed, 0, 65536) && in(n, 0, 200)) ? -1 : first(lookedBy(seed, n));
    }

    // ---- dumb seasons

    /** How many of 100 to the n cases lead to each saying. */
    private Map<Integer, BigInteger> cases(int p, int n) {
        Map<Integer, BigInteger> cases = new HashMap<>();
        cases.put(now.figures.get(p), BigInteger.ONE);
        for (int i = 1; i <= n; i++) {
            Map<Integer, BigInteger> next = new HashMap<>();
            for (Map.Entry<Integer, BigInteger> e : cases.entrySet()) {
                for (int dumb = 0; dumb < 2; dumb++) {
                    int after = oneSeason(p, e.getKey(), now.steps.get(p), every(p), now.seasons + i, dumb == 1);
                    BigInteger part = BigInteger.valueOf(dumb == 1 ? text.dumb : 100 - text.dumb);
                    next.merge(after, e.getValue().multiply(part), BigInteger::add);
                }
            }
            cases = next;
        }
        return cases;
    }

    long odds(int p, int n, int much, boolean lower) {
        if (refuses(has(p), in(n, 0, 5) && in(much, 0, 99))) {
            return -1;
        }
        BigInteger sum = BigInteger.ZERO;
        for (Map.Entry<Integer, BigInteger> e : cases(p, n).entrySet()) {
            sum = e.getKey() >= much ? sum.add(e.getValue()) : sum;
        }
        return part(sum, BigInteger.valueOf(100).pow(n), lower);
    }

    long mean(int p, int n, boolean lower) {
        if (refuses(has(p), in(n, 0, 5))) {
            return -1;
        }
        BigInteger sum = BigInteger.ZERO;
        for (Map.Entry<Integer, BigInteger> e : cases(p, n).entrySet()) {
            sum = sum.add(e.getValue().multiply(BigInteger.valueOf(e.getKey())));
        }
        return part(sum, BigInteger.valueOf(100).pow(n), lower);
    }

    int drawn(int p, int seed, int n) {
        if (refuses(has(p), in(seed, 0, 65536) && in(n, 0, 60))) {
            return -1;
        }
        int[] draw = {seed};
        return line(p, n, now.steps.get(p), every(p), i -> {
            draw[0] = (75 * draw[0] + 74) % 65537;
            return draw[0] % 100 < text.dumb ? 1 : 0;
        })[n];
    }

    // ---- acts

    private void act() {
        undo.add(now.copy());
        if (undo.size() > 16) {
            undo.remove(0);
        }
    }

    int season() {
        if (refuses(pairs() > 0, true)) {
            return -1;
        }
        if (now.seasons == 999) {
            return no(3);
        }
        act();
        int bits = 0;
        List<Integer> after = new ArrayList<>();
        for (int p = 0; p < pairs(); p++) {
            after.add(line(p, 1)[1]);
            bits |= more(after.get(p)) ? 1 << p : 0;
        }
        now.figures = after;
        now.seasons++;
        return bits;
    }

    int change(int p) {
        if (refuses(has(p), true)) {
            return -1;
        }
        int man = text.words - now.figures.get(p);
        if (man == now.figures.get(p)) {
            return no(5);
        }
        act();
        now.figures.set(p, man);
        return man;
    }

    int step(int p, int step) {
        if (refuses(has(p), in(step, 0, 20))) {
            return 0;
        }
        if (now.steps.get(p) == step) {
            trouble = 5;
            return 0;
        }
        act();
        now.steps.set(p, step);
        return 1;
    }

    int pay(int p, int to, int much) {
        if (refuses(hasTwo(p, to), in(much, 1, 99))) {
            return -1;
        }
        int left = debt(p, to) - much;
        if (left < 0) {
            return no(5);
        }
        act();
        now.debts.put(p + ">" + to, left);
        return left;
    }

    int undo() {
        trouble = undo.isEmpty() ? 6 : 0;
        if (undo.isEmpty()) {
            return 0;
        }
        now = undo.remove(undo.size() - 1);
        return 1;
    }

    int image() {
        if (refuses(pairs() > 0, true)) {
            return -1;
        }
        if (images.size() == 3) {
            return no(3);
        }
        images.add(now.copy());
        return images.size() - 1;
    }

    int back(int image) {
        if (refuses(in(image, 0, images.size() - 1), true)) {
            return 0;
        }
        now = images.get(image).copy();
        undo.clear();
        return 1;
    }

    // ---- what is told

    long led(int i) {
        List<Integer> list = new ArrayList<>();
        for (int p = 0; p < pairs(); p++) {
            if (more(now.figures.get(p))) {
                list.add(p);
            }
        }
        return in(i, 0, list.size() - 1) ? list.get(i) : Check.THROWS;
    }

    int size(int what) {
        if (what < 0 || what > 10) {
            return -1;
        }
        if (what == 10) {
            return tape.length();
        }
        if (text == null) {
            return 0;
        }
        return new int[] {text.words, text.dumb, pairs(), text.every.size(), text.debts.size(), text.unsure.size(),
            text.heard.size(), now.seasons, undo.size(), images.size()}[what];
    }

    int trouble() {
        return trouble;
    }
}
