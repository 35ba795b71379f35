import java.util.ArrayList;
import java.util.Collections;
import java.util.List;
import java.util.Random;

/** Runs of calls by chance (always the same ones), on FigureKnee and on PlainKnee side by side. */
public final class FigureKneeAgainstPlain {
    private static final int RUNS = 3000;
    private static final int TEXTS = 60000;
    private static final String[] LAWS = {"creeping", "leaping", "fading", "swinging"};
    private static final String[] NAMES = {"a", "b", "figure", "step", "abcdefgh", "abcdefg", "season"};
    private static final String SIGNS = "abz09;; ,{`/:\u00e9\u0000A";

    private static final Check check = new Check();
    private static final Random random = new Random(20261118);

    public static void main(String[] args) {
        for (int i = 0; i < TEXTS; i++) {
            FigureKnee x = new FigureKnee();
            PlainKnee y = new PlainKnee();
            readBoth(x, y, i % 4 == 0 ? text() : spoilt(text()));
            for (int what = 0; what <= 10; what++) {
                check.due("size(" + what + ")", x.size(what), y.size(what));
            }
        }
        for (int i = 0; i < RUNS; i++) {
            runBoth();
        }
        check.end();
    }

    private static int upTo(int n) {
        return random.nextInt(n + 1);
    }

    // ---- texts

    private static String text() {
        int words = random.nextInt(3) == 0 ? 2 + upTo(4) : random.nextInt(4) == 0 ? 99 : 2 + upTo(97);
        int dumb = random.nextInt(3) == 0 ? 50 : upTo(100);
        List<String> lines = new ArrayList<>();
        List<String> names = new ArrayList<>();
        for (int p = 0; p <= upTo(4); p++) {
            String name = NAMES[random.nextInt(NAMES.length)];
            if (!names.contains(name)) {
                names.add(name);
                lines.add("pair " + name + " " + LAWS[random.nextInt(4)] + " figure " + upTo(words)
                    + " step " + (random.nextBoolean() ? upTo(3) : upTo(20)));
            }
        }
        for (String name : shuffled(names)) {
            if (random.nextBoolean()) {
                lines.add("contract " + name + " every " + (1 + upTo(8)));
            }
        }
        for (int d = upTo(11); d > 0; d--) {
            String one = names.get(random.nextInt(names.size()));
            String other = names.get(random.nextInt(names.size()));
            String line = "debt " + one + " " + other + " ";
            if (!one.equals(other) && lines.stream().noneMatch(l -> l.startsWith(line))) {
                lines.add(line + (1 + (random.nextBoolean() ? upTo(3) : upTo(98))));
            }
        }
        String head = "pier words " + words + " dumb " + dumb + ";";
        String sure = head + String.join(";", lines);
        int[] others = new int[names.size()];
        for (String name : shuffled(names)) {
            int p = names.indexOf(name);
            others[p] = -1;
            if (random.nextInt(3) > 0) {
                others[p] = random.nextBoolean() ? upTo(3) : upTo(20);
                lines.add("unsure " + name + " " + others[p]);
            }
        }
        addHeard(lines, names, sure, others);
        return head + String.join(";", lines);
    }

    private static List<String> shuffled(List<String> names) {
        List<String> after = new ArrayList<>(names);
        Collections.shuffle(after, random);
        return after;
    }

    /** Lines of seasons that were heard, mostly ones that go with one of a pair's steps. */
    private static void addHeard(List<String> lines, List<String> names, String sure, int[] others) {
        PlainKnee plain = new PlainKnee();
        feedPlain(plain, sure);
        if (plain.pier(sure.length()) < 0) {
            return;
        }
        for (int p = 0; p < others.length; p++) {
            if (others[p] >= 0 && random.nextBoolean()) {
                plain.step(p, others[p]);
            }
        }
        for (int h = upTo(9); h > 0; h--) {
            int p = random.nextInt(names.size());
            int season = 1 + (random.nextBoolean() ? upTo(3) : upTo(29));
            String line = "heard " + names.get(p) + " season " + season + " ";
            if (lines.stream().noneMatch(l -> l.startsWith(line))) {
                int figure = random.nextInt(30) == 0 ? upTo(2) : plain.says(p, season);
                lines.add(line + "figure " + figure);
            }
        }
    }

    /** A text with one or two things changed that may be faults. */
    private static String spoilt(String text) {
        String after = text;
        for (int i = upTo(1); i >= 0; i--) {
            after = random.nextBoolean() ? spoiltSign(after) : spoiltLine(after);
        }
        return after;
    }

    private static String spoiltSign(String text) {
        int at = upTo(text.length());
        String sign = String.valueOf(SIGNS.charAt(random.nextInt(SIGNS.length())));
        switch (random.nextInt(4)) {
            case 0:
                return text.substring(0, at);
            case 1:
                return text.substring(0, at) + sign + text.substring(at);
            case 2:
                return text.substring(0, at) + text.substring(Math.min(text.length(), at + 1));
            default:
                return text.substring(0, at) + sign + text.substring(Math.min(text.length(), at + 1));
        }
    }

    private static String spoiltLine(String text) {
        List<String> lines = new ArrayList<>(List.of(text.split(";", -1)));
        int at = random.nextInt(lines.size());
        String line = lines.get(at);
        String[] tokens = line.split(" ", -1);
        switch (random.nextInt(5)) {
            case 0:
                lines.add(random.nextInt(lines.size() + 1), line);
                break;
            case 1:
                lines.remove(at);
                break;
            case 2:
                tokens[random.nextInt(tokens.length)] = String.valueOf(new int[] {0, 1, 2, 9, 10, 20, 21, 30, 31, 99, 100, 101}[random.nextInt(12)]);
                lines.set(at, String.join(" ", tokens));
                break;
            case 3:
                tokens[random.nextInt(tokens.length)] = NAMES[random.nextInt(NAMES.length)];
                lines.set(at, String.join(" ", tokens));
                break;
            default:
                String[] others = lines.get(random.nextInt(lines.size())).split(" ", -1);
                tokens[random.nextInt(tokens.length)] = others[random.nextInt(others.length)];
                lines.set(at, String.join(" ", tokens));
        }
        return String.join(";", lines);
    }

    private static void readBoth(FigureKnee x, PlainKnee y, String text) {
        Check.feed(x, text);
        feedPlain(y, text);
        check.due("size(10)", x.size(10), y.size(10));
        check.due("pier of " + text, x.pier(text.length()), y.pier(text.length()));
        check.due("fault() of " + text, x.fault(), y.fault());
        check.due("where() of " + text, x.where(), y.where());
        check.due("trouble() of " + text, x.trouble(), y.trouble());
    }

    private static void feedPlain(PlainKnee y, String text) {
        for (int from = 0; from < text.length(); from += 20) {
            StringBuilder twenty = new StringBuilder(text.substring(from, Math.min(text.length(), from + 20)));
            while (twenty.length() < 20) {
                twenty.append(' ');
            }
            y.feed(twenty.toString());
        }
    }

    // ---- calls

    private static void runBoth() {
        FigureKnee x = new FigureKnee();
        PlainKnee y = new PlainKnee();
        if (random.nextInt(20) != 0) {
            readBoth(x, y, text());
        }
        for (int i = 0; i < 250; i++) {
            if (random.nextInt(100) == 0) {
                readBoth(x, y, random.nextBoolean() ? text() : spoilt(text()));
            }
            callBoth(x, y, random.nextInt(75));
            check.due("trouble()", x.trouble(), y.trouble());
            check.due("where()", x.where(), y.where());
        }
    }

    private static int pair() {
        return random.nextInt(15) == 0 ? new int[] {-1, 5, 6, Integer.MIN_VALUE, Integer.MAX_VALUE}[random.nextInt(5)] : random.nextInt(5);
    }

    /** A number in 0 .. most, now and then out of it. */
    private static int number(int most) {
        switch (random.nextInt(12)) {
            case 0:
                return new int[] {-1, most + 1, Integer.MIN_VALUE, Integer.MAX_VALUE}[random.nextInt(4)];
            case 1:
                return most;
            case 2:
                return 0;
            default:
                return random.nextInt(most + 1);
        }
    }

    private static void callBoth(FigureKnee x, PlainKnee y, int call) {
        if (call < 25) {
            callNow(x, y, call);
        } else if (call < 50) {
            callReckoning(x, y, call);
        } else {
            callAct(x, y, call);
        }
    }

    private static void callNow(FigureKnee x, PlainKnee y, int call) {
        int p = pair();
        int q = pair();
        int n = number(60);
        int what = number(5);
        int late = number(2000000000);
        switch (call) {
            case 0: check.due("pair", x.pair(p, what), y.pair(p, what)); break;
            case 1: check.due("says", x.says(p, n), y.says(p, n)); break;
            case 2: check.due("saysAll", x.saysAll(p, n), y.saysAll(p, n)); break;
            case 3: check.due("moreIn", x.moreIn(p), y.moreIn(p)); break;
            case 4: check.due("moreTimes", x.moreTimes(p, n), y.moreTimes(p, n)); break;
            case 5: check.due("settles", x.settles(p), y.settles(p)); break;
            case 6: check.due("round", x.round(p), y.round(p)); break;
            case 7: check.due("saysLate", x.saysLate(p, late), y.saysLate(p, late)); break;
            case 8: check.due("roundMost", x.roundMost(p), y.roundEnd(p, 1)); break;
            case 9: check.due("roundLeast", x.roundLeast(p), y.roundEnd(p, -1)); break;
            case 10: check.due("turnsAbout", x.turnsAbout(p), y.turnsAbout(p)); break;
            case 11: check.due("alikeIn", x.alikeIn(p, q), y.alikeIn(p, q)); break;
            case 12: check.due("loudest", x.loudest(n), y.loudest(n)); break;
            case 13: check.due("overtakes", x.overtakes(p, q), y.overtakes(p, q)); break;
            case 14: check.due("widest", x.widest(n), y.widest(n)); break;
            case 15: check.due("sumAll", x.sumAll(n), y.sumAll(n)); break;
            case 16: check.due("masters", x.masters(n), y.masters(n)); break;
            case 17: check.due("everyFor", x.everyFor(p, n), y.everyBest(p, n, false)); break;
            case 18: check.due("everySays", x.everySays(p, n), y.everyBest(p, n, true)); break;
            case 19: check.due("everyNever", x.everyNever(p), y.everyNever(p)); break;
            case 20: check.due("stepFor", x.stepFor(p, n), y.stepFor(p, n)); break;
            case 21: check.due("saysLate", x.saysLate(p, n), y.saysLate(p, n)); break;
            case 22: check.due("led", Check.led(x, p), y.led(p)); break;
            case 23: check.due("size", x.size(what * 2), y.size(what * 2)); break;
            default: check.due("size", x.size(what + 6), y.size(what + 6));
        }
    }

    private static void callReckoning(FigureKnee x, PlainKnee y, int call) {
        int p = pair();
        int q = pair();
        int i = number(16);
        int breath = number(9);
        int couples = number(4);
        int many = number(200);
        int seed = number(65536);
        int five = number(5);
        int much = number(99);
        int n = number(60);
        boolean a = random.nextBoolean();
        boolean b = random.nextBoolean();
        boolean c = random.nextBoolean();
        switch (call) {
            case 25: check.due("fits", x.fits(), y.fits()); break;
            case 26: check.due("fitAt", x.fitAt(i), y.fitAt(i)); break;
            case 27: check.due("could", x.could(), y.could()); break;
            case 28: check.due("surely", x.surely(), y.surely()); break;
            case 29: check.due("ask", x.ask(), y.ask(false)); break;
            case 30: check.due("askLeaves", x.askLeaves(), y.ask(true)); break;
            case 31: check.due("judge", x.judge(), y.judge()); break;
            case 32: check.due("third", x.third(p), y.third(p)); break;
            case 33: check.due("owes", x.owes(p, q), y.owes(p, q)); break;
            case 34: check.due("net", x.net(p), y.net(p)); break;
            case 35: check.due("due", x.due(), y.due()); break;
            case 36: check.due("creditor", x.creditor(), y.creditor()); break;
            case 37: check.due("payments", x.payments(), y.payments()); break;
            case 38: check.due("ring", x.ring(p), y.ring(p)); break;
            case 39: check.due("ringAt", x.ringAt(p, five), y.ringAt(p, five)); break;
            case 40: check.due("talks", x.talks(breath, a, b, c), y.talks(breath, a, b, c)); break;
            case 41: check.due("rests", x.rests(breath), y.rests(breath)); break;
            case 42: check.due("rest", x.rest(breath), y.rest(breath)); break;
            case 43: check.due("verdictOdds", x.verdictOdds(p, couples, a), y.verdictOdds(p, couples, a)); break;
            case 44: check.due("looks", x.looks(p, seed, many), y.looks(p, seed, many)); break;
            case 45: check.due("verdict", x.verdict(seed, many), y.verdict(seed, many)); break;
            case 46: check.due("odds", x.odds(p, five, much, a), y.odds(p, five, much, a)); break;
            case 47: check.due("mean", x.mean(p, five, a), y.mean(p, five, a)); break;
            case 48: check.due("drawn", x.drawn(p, seed, n), y.drawn(p, seed, n)); break;
            default: check.due("ringAt", x.ringAt(p, couples), y.ringAt(p, couples));
        }
    }

    private static void callAct(FigureKnee x, PlainKnee y, int call) {
        int p = pair();
        int q = pair();
        int step = number(20);
        int much = number(4);
        int image = number(3);
        int bytes = number(900);
        if (call < 56) {
            check.due("season", x.season(), y.season());
        } else if (call < 60) {
            check.due("change", x.change(p), y.change(p));
        } else if (call < 63) {
            check.due("step", x.step(p, step) ? 1 : 0, y.step(p, step));
        } else if (call < 68) {
            check.due("pay", x.pay(p, q, much), y.pay(p, q, much));
        } else if (call < 71) {
            check.due("undo", x.undo() ? 1 : 0, y.undo());
        } else if (call < 72) {
            check.due("image", x.image(), y.image());
        } else if (call < 73) {
            check.due("back", x.back(image) ? 1 : 0, y.back(image));
        } else if (random.nextInt(4) == 0) {
            check.due("pier", x.pier(bytes), y.pier(bytes));
            check.due("fault", x.fault(), y.fault());
        }
    }
}
