/** Terms III and promises 27 to 50: FITS, debts, RINGS, TWO, the GALLERY and DUMB seasons at their bounds. */
public final class FigureKneeReckoningBounds {
    private static final Bounds bounds = new Bounds();
    private static final Check check = bounds.check;

    public static void main(String[] args) {
        fits();
        fitAt();
        couldAndSurely();
        ask();
        judge();
        third();
        owes();
        net();
        due();
        creditor();
        payments();
        ring();
        ringAt();
        talks();
        rests();
        verdictOdds();
        looks();
        verdict();
        odds();
        mean();
        drawn();
        drawnBelowDumb();
        check.end();
    }

    private static void due(String call, long got, long want) {
        check.due(call, got, want);
    }

    /** Pairs a to e that creep from 0 by 1 of 99 words, and more lines. */
    private static FigureKnee creeping(String more) {
        StringBuilder text = new StringBuilder("pier words 99 dumb 50");
        for (char name = 'a'; name <= 'e'; name++) {
            text.append(";pair ").append(name).append(" creeping figure 0 step 1");
        }
        return Check.of(text.append(more).toString());
    }

    private static final String UNSURE = ";unsure e 2;unsure c 2;unsure b 2;unsure a 2";
    /** Heard ones by which e and b have the other step (bits 0 and 2), c and a the told one. */
    private static final String SURE = UNSURE + ";heard e season 1 figure 2;heard c season 1 figure 1;"
        + "heard b season 1 figure 2;heard a season 1 figure 1";
    /** A heard one that goes with none. */
    private static final String NONE = UNSURE + ";heard d season 30 figure 31";

    // ---- unsure steps

    private static void fits() {
        check.promise(27);
        bounds.withoutPier("fits()", FigureKnee::fits, -1);
        bounds.asked("fits() of none unsure", () -> creeping(""), FigureKnee::fits, 1);
        bounds.asked("fits() of all", () -> creeping(UNSURE), FigureKnee::fits, 16);
        bounds.asked("fits() of one", () -> creeping(SURE), FigureKnee::fits, 1);
        bounds.asked("fits() of none", () -> creeping(NONE), FigureKnee::fits, 0);
        bounds.asked("fits() with a like step", () -> creeping(";unsure a 1;heard a season 9 figure 9"), FigureKnee::fits, 2);
        check.sentence("III: from the beginning on, behind each season that was heard, just so much");
        due("season 30", creeping(";heard d season 30 figure 30").fits(), 1);
        due("season 30, one less", creeping(";heard d season 30 figure 29").fits(), 0);
        due("season 30, one more", creeping(";heard d season 30 figure 31").fits(), 0);
        due("the first pair", creeping(";unsure b 2;heard a season 1 figure 2").fits(), 0);
        due("the last pair", creeping(";unsure b 2;heard e season 1 figure 2").fits(), 0);
        due("season 1", creeping(";unsure d 20;heard d season 1 figure 20").fitAt(0), 1);
        due("each of two", creeping(";unsure d 2;heard d season 1 figure 1;heard d season 2 figure 4").fits(), 0);
        due("each of two pairs", creeping(";unsure d 2;heard d season 1 figure 1;heard e season 1 figure 2").fits(), 0);
        due("with a contract", creeping(";contract d every 9;heard d season 9 figure 90;heard d season 10 figure 91").fits(), 1);
        bounds.asked("NOW doesn't matter", Bounds::busy, FigureKnee::fits, 1);
        FigureKnee x = creeping(SURE);
        x.step(4, 2);
        x.season();
        due("NOW doesn't matter", x.fitAt(0), 5);
    }

    private static void fitAt() {
        check.promise(28);
        bounds.at("fitAt(n) of 16", () -> creeping(UNSURE), FigureKnee::fitAt, 0, 0, 15, 15);
        bounds.beyond("fitAt(n) of 16", () -> creeping(UNSURE), FigureKnee::fitAt, 0, 15, -1, 1);
        bounds.at("fitAt(n) of one", () -> creeping(SURE), FigureKnee::fitAt, 0, 5, 0, 5);
        bounds.beyond("fitAt(n) of one", () -> creeping(SURE), FigureKnee::fitAt, 0, 0, -1, 1);
        bounds.beyond("fitAt(n) of none", () -> creeping(NONE), FigureKnee::fitAt, 0, -1, -1, 1);
        bounds.at("fitAt(n) of none unsure", () -> creeping(""), FigureKnee::fitAt, 0, 0, 0, 0);
        bounds.withoutPier("fitAt(0)", x -> x.fitAt(0), -1);
        FigureKnee x = creeping(UNSURE + ";heard c season 1 figure 2");
        int[] sets = {2, 3, 6, 7, 10, 11, 14, 15};
        for (int i = 0; i < sets.length; i++) {
            due("fitAt(" + i + ")", x.fitAt(i), sets[i]);
        }
        due("fitAt(8)", x.fitAt(8), -1);
    }

    private static void couldAndSurely() {
        check.promise(29);
        bounds.withoutPier("could()", FigureKnee::could, -1);
        bounds.asked("could() of all", () -> creeping(UNSURE), FigureKnee::could, 15);
        bounds.asked("could() of one", () -> creeping(SURE), FigureKnee::could, 5);
        bounds.asked("could() of none", () -> creeping(NONE), FigureKnee::could, 0);
        bounds.asked("could() of none unsure", () -> creeping(""), FigureKnee::could, 0);
        check.promise(30);
        bounds.withoutPier("surely()", FigureKnee::surely, -1);
        bounds.asked("surely() of all", () -> creeping(UNSURE), FigureKnee::surely, 0);
        bounds.asked("surely() of one", () -> creeping(SURE), FigureKnee::surely, 5);
        bounds.asked("surely() of some", () -> creeping(UNSURE + ";heard a season 1 figure 2"), FigureKnee::surely, 8);
        bounds.asked("surely() without a set", () -> creeping(NONE), FigureKnee::surely, 0);
        bounds.asked("surely() of none unsure", () -> creeping(""), FigureKnee::surely, 0);
    }

    private static void ask() {
        String[] more = {UNSURE, SURE, NONE, "", UNSURE + ";heard e season 1 figure 2",
            UNSURE + ";heard e season 1 figure 2;heard c season 1 figure 1;heard b season 1 figure 1", ";unsure a 2", ";unsure a 2;heard a season 1 figure 2"};
        int[] asks = {0, 0, -2, -2, 1, 3, 0, 0};
        int[] leaves = {8, 1, -2, -2, 4, 1, 1, 1};
        for (int i = 0; i < more.length; i++) {
            String lines = more[i];
            check.promise(31);
            bounds.asked("ask() of " + lines, () -> creeping(lines), FigureKnee::ask, asks[i]);
            check.promise(32);
            bounds.asked("askLeaves() of " + lines, () -> creeping(lines), FigureKnee::askLeaves, leaves[i]);
        }
        check.promise(31);
        bounds.withoutPier("ask()", FigureKnee::ask, -1);
        check.promise(32);
        bounds.withoutPier("askLeaves()", FigureKnee::askLeaves, -1);
    }

    private static String eightHeard(int wrongAt) {
        StringBuilder text = new StringBuilder();
        for (int h = 0; h < 8; h++) {
            int season = 30 - h;
            text.append(";heard ").append("abcde".charAt(h % 5)).append(" season ").append(season);
            text.append(" figure ").append(h == wrongAt ? 0 : season);
        }
        return text.toString();
    }

    private static void judge() {
        check.promise(33);
        bounds.withoutPier("judge()", FigureKnee::judge, -1);
        bounds.asked("judge() of none heard", () -> creeping(""), FigureKnee::judge, -2);
        bounds.asked("judge() of none wrong", () -> creeping(eightHeard(-1)), FigureKnee::judge, -2);
        bounds.asked("judge() of the first", () -> creeping(eightHeard(0)), FigureKnee::judge, 0);
        bounds.asked("judge() of the last", () -> creeping(eightHeard(7)), FigureKnee::judge, 7);
        bounds.asked("judge() of two", () -> creeping(";heard b season 9 figure 9;heard a season 2 figure 1;heard c season 1 figure 0"), FigureKnee::judge, 1);
        bounds.asked("judge() by steps as told", () -> creeping(SURE), FigureKnee::judge, 0);
        FigureKnee x = creeping(eightHeard(-1));
        x.step(0, 9);
        x.season();
        x.change(1);
        due("judge() by steps as told, from the beginning", x.judge(), -2);
    }

    private static void third() {
        check.promise(34);
        String heard = ";heard a season 2 figure 5;heard e season 3 figure 1;heard e season 30 figure 99";
        bounds.at("third(n)", () -> creeping(heard), FigureKnee::third, 0, 3, 4, 2 + 69);
        bounds.beyond("third(n)", () -> creeping(heard), FigureKnee::third, 0, 4, -1, 1);
        bounds.beyond("third(n)", Bounds::busy, FigureKnee::third, 0, 3, -1, 1);
        bounds.asked("third(1) of none heard", () -> creeping(heard), x -> x.third(1), 0);
        bounds.asked("third(0) of none wrong", () -> creeping(eightHeard(-1)), x -> x.third(0), 0);
        bounds.asked("third(4) by steps as told", () -> creeping(SURE), x -> x.third(4), 1);
        bounds.withoutPier("third(0)", x -> x.third(0), -1);
        StringBuilder most = new StringBuilder("pier words 99 dumb 0;pair a fading figure 0 step 0");
        for (int season = 1; season <= 8; season++) {
            most.append(";heard a season ").append(season).append(" figure 99");
        }
        due("third(0) of the most", Check.of(most.toString()).third(0), 8 * 99);
    }

    // ---- debts

    /** Five pairs with debts, three signs each: who, to whom, how much (x: 99). */
    private static FigureKnee owing(String debts) {
        StringBuilder more = new StringBuilder();
        for (int i = 0; i + 2 < debts.length(); i += 3) {
            more.append(";debt ").append(debts.charAt(i)).append(' ').append(debts.charAt(i + 1)).append(' ');
            more.append(debts.charAt(i + 2) == 'x' ? "99" : debts.substring(i + 2, i + 3));
        }
        return creeping(more.toString());
    }

    private static void owes() {
        check.promise(35);
        bounds.at("owes(n, 1)", Bounds::four, (x, p) -> x.owes(p, 1), 0, 5, 3, 0);
        bounds.beyond("owes(n, 1)", Bounds::busy, (x, p) -> x.owes(p, 1), 0, 3, -1, 1);
        bounds.at("owes(2, n)", Bounds::four, (x, to) -> x.owes(2, to), 0, 2, 3, 0);
        bounds.beyond("owes(2, n)", Bounds::busy, (x, to) -> x.owes(2, to), 0, 3, -1, 1);
        bounds.withoutPier("owes(0, 1)", x -> x.owes(0, 1), -1);
        check.sentence("35: NONE: 1 (unlike)");
        bounds.at("owes(n, n)", () -> owing(""), (x, p) -> x.owes(p, 4 - p), 0, 0, 4, 0);
        for (int p = 0; p < 5; p++) {
            int same = p;
            bounds.refused("owes(" + p + ", " + p + ")", () -> owing("abxbcx"), x -> x.owes(same, same), -1, 1);
        }
        check.sentence("35: NOW");
        bounds.asked("owes(0, 1)", Bounds::busy, x -> x.owes(0, 1), 3);
        FigureKnee x = owing("ea1");
        x.pay(4, 0, 1);
        bounds.taken(x, "owes(4, 0)", y -> y.owes(4, 0), 0);
    }

    private static void net() {
        check.promise(36);
        bounds.at("net(n)", Bounds::four, FigureKnee::net, 0, 1, 3, -4);
        bounds.beyond("net(n)", Bounds::busy, FigureKnee::net, 0, 3, -1000000, 1);
        bounds.withoutPier("net(0)", x -> x.net(0), -1000000);
        due("net of the most", owing("baxcaxdaxeax").net(0), 396);
        due("net of the least", owing("abxacxadxaex").net(0), -396);
        due("net of none", owing("").net(4), 0);
        due("net of what cancels", owing("abxbax").net(0), 0);
        due("a net of NONE", owing("ab1").net(0), -1);
    }

    private static void due() {
        check.promise(37);
        bounds.withoutPier("due()", FigureKnee::due, -1);
        bounds.asked("due() of no debts", () -> owing(""), FigureKnee::due, 0);
        bounds.asked("due() of what cancels", () -> owing("abxbax"), FigureKnee::due, 0);
        bounds.asked("due() of a ring", () -> owing("ab5bc5ca5"), FigureKnee::due, 0);
        bounds.asked("due() of the most", () -> owing("abxacxadxaex"), FigureKnee::due, 396);
        bounds.asked("due() to the first", () -> owing("ba5"), FigureKnee::due, 5);
        bounds.asked("due() to the last", () -> owing("ae5"), FigureKnee::due, 5);
        bounds.asked("due() of ten", () -> owing("abxacxadxaexbcxbdxbexcdxcexdex"), FigureKnee::due, 594);
        FigureKnee x = owing("ab5");
        x.pay(0, 1, 5);
        due("due() of what is paid", x.due(), 0);
    }

    private static void creditor() {
        check.promise(38);
        bounds.withoutPier("creditor()", FigureKnee::creditor, -1);
        bounds.asked("creditor() of no debts", () -> owing(""), FigureKnee::creditor, 0);
        bounds.asked("creditor() of what cancels", () -> owing("edxdex"), FigureKnee::creditor, 0);
        bounds.asked("creditor(), the first such", () -> owing("ab5cd5"), FigureKnee::creditor, 1);
        bounds.asked("creditor(), the last", () -> owing("ab5ce6"), FigureKnee::creditor, 4);
        bounds.asked("creditor() of one pair", () -> Check.of("pier words 9 dumb 0;pair a fading figure 0 step 0"), FigureKnee::creditor, 0);
        FigureKnee x = owing("ab5cd5");
        x.pay(0, 1, 1);
        due("creditor() NOW", x.creditor(), 3);
    }

    private static void payments() {
        check.promise(39);
        bounds.withoutPier("payments()", FigureKnee::payments, -1);
        bounds.asked("payments() of one pair", () -> Check.of("pier words 9 dumb 0;pair a fading figure 0 step 0"), FigureKnee::payments, 0);
        bounds.asked("payments() of no debts", () -> owing(""), FigureKnee::payments, 0);
        bounds.asked("payments() of a ring", () -> owing("ab5bc5ca5"), FigureKnee::payments, 0);
        bounds.asked("payments() of a chain", () -> owing("ab5bc5cd5de5"), FigureKnee::payments, 1);
        bounds.asked("payments() of two twos", () -> owing("ab5cd4"), FigureKnee::payments, 2);
        bounds.asked("payments() of a three and a two", () -> owing("ab2ac3de1"), FigureKnee::payments, 3);
        bounds.asked("payments(), four", () -> owing("ab1ac2ad3ae4"), FigureKnee::payments, 4);
        bounds.asked("payments(), four of the most", () -> owing("abxacxadxaex"), FigureKnee::payments, 4);
        bounds.asked("payments() of two to two", () -> owing("ac2ad1bc1bd1"), FigureKnee::payments, 2);
        bounds.asked("payments() of two to three", () -> owing("ac2ad1be5"), FigureKnee::payments, 3);
    }

    private static void ring() {
        check.promise(40);
        bounds.at("ring(n)", Bounds::four, FigureKnee::ring, 0, 3, 3, -2);
        bounds.beyond("ring(n)", Bounds::busy, FigureKnee::ring, 0, 3, -1, 1);
        bounds.withoutPier("ring(0)", x -> x.ring(0), -1);
        check.sentence("40: the fewest pairs (2 or more); -2 there is none");
        bounds.asked("two", () -> owing("ab1ba1"), x -> x.ring(0), 2);
        bounds.asked("two of three", () -> owing("ab1bc1ca1ba1"), x -> x.ring(0), 2);
        bounds.asked("three of them", () -> owing("ab1bc1ca1ba1"), x -> x.ring(2), 3);
        bounds.asked("five", () -> owing("ab1bc1cd1de1ea1"), x -> x.ring(3), 5);
        bounds.asked("no debts", () -> owing(""), x -> x.ring(0), -2);
        bounds.asked("a chain", () -> owing("ab1bc1cd1de1"), x -> x.ring(0), -2);
        bounds.asked("one way into a ring", () -> owing("ab1bc1cb1"), x -> x.ring(0), -2);
        bounds.asked("one way out of a ring", () -> owing("ab1ba1bc1"), x -> x.ring(2), -2);
        bounds.asked("one pair", () -> Check.of("pier words 9 dumb 0;pair a fading figure 0 step 0"), x -> x.ring(0), -2);
        check.sentence("40: it owes the next one: NOW");
        FigureKnee x = owing("ab2ba1");
        x.pay(0, 1, 1);
        due("ring(0)", x.ring(0), 2);
        x.pay(1, 0, 1);
        due("ring(0)", x.ring(0), -2);
        x.undo();
        due("ring(0)", x.ring(0), 2);
    }

    private static void ringOf(String debts, int p, int... want) {
        FigureKnee x = owing(debts);
        due("ring(" + p + ") of " + debts, x.ring(p), want.length);
        for (int i = 0; i < want.length; i++) {
            due("ringAt(" + p + ", " + i + ") of " + debts, x.ringAt(p, i), want[i]);
        }
        bounds.beyond("ringAt(" + p + ", n) of " + debts, () -> owing(debts), (y, i) -> y.ringAt(p, i), 0, want.length - 1, -1, 1);
    }

    private static void ringAt() {
        check.promise(41);
        bounds.at("ringAt(1, n)", Bounds::four, (x, i) -> x.ringAt(1, i), 0, 1, 2, 0);
        bounds.beyond("ringAt(1, n)", Bounds::busy, (x, i) -> x.ringAt(1, i), 0, 2, -1, 1);
        bounds.at("ringAt(n, 0)", Bounds::four, (x, p) -> x.ringAt(p, 0), 0, 0, 2, 2);
        bounds.beyond("ringAt(n, 0)", Bounds::busy, (x, p) -> x.ringAt(p, 0), 0, 3, -1, 1);
        bounds.refused("ringAt(3, 0), there is none", Bounds::busy, x -> x.ringAt(3, 0), -1, 1);
        bounds.withoutPier("ringAt(0, 0)", x -> x.ringAt(0, 0), -1);
        ringOf("ab1ba1", 1, 1, 0);
        ringOf("ab1bc1cd1de1ea1", 3, 3, 4, 0, 1, 2);
        ringOf("ae1ed1dc1cb1ba1", 0, 0, 4, 3, 2, 1);
        check.sentence("III: of like ones the first row, pair by pair");
        ringOf("ac1ca1ab1ba1", 0, 0, 1);
        ringOf("ea1ae1eb1be1", 4, 4, 0);
        ringOf("ac1cd1da1ab1be1ea1", 0, 0, 1, 4);
        ringOf("ab1bd1be1da1ea1", 0, 0, 1, 3);
        ringOf("ad1dc1ae1eb1ca1ba1", 0, 0, 3, 2);
        ringOf("ab1bc1cd1da1ae1ed1", 0, 0, 4, 3);
    }

    // ---- two who talk

    private static void talks() {
        check.promise(42);
        bounds.at("talks(n, both)", Bounds::four, (x, n) -> x.talks(n, true, true, false), 0, 1, 9, -8);
        bounds.at("talks(n, both) of the figure", Bounds::four, (x, n) -> x.talks(n, true, true, true), 0, 1, 9, -8);
        bounds.at("talks(n, the man)", Bounds::four, (x, n) -> x.talks(n, true, false, false), 0, 4, 9, 4);
        bounds.at("talks(n, the man) of the figure", Bounds::four, (x, n) -> x.talks(n, true, false, true), 0, -1, 9, -1);
        bounds.at("talks(n, the figure)", Bounds::four, (x, n) -> x.talks(n, false, true, false), 0, -1, 9, -1);
        bounds.at("talks(n, the figure) of the figure", Bounds::four, (x, n) -> x.talks(n, false, true, true), 0, 4, 9, 4);
        bounds.at("talks(n, neither)", Bounds::four, (x, n) -> x.talks(n, false, false, false), 0, 0, 9, 0);
        bounds.at("talks(n, neither) of the figure", Bounds::four, (x, n) -> x.talks(n, false, false, true), 0, 0, 9, 0);
        for (int way = 0; way < 8; way++) {
            boolean man = (way & 4) != 0;
            boolean figure = (way & 2) != 0;
            boolean ofFigure = (way & 1) != 0;
            bounds.beyond("talks", Bounds::busy, (x, n) -> x.talks(n, man, figure, ofFigure), 0, 9, -100, 2);
            bounds.withoutPier("talks", x -> x.talks(0, man, figure, ofFigure), -100);
            bounds.withoutPier("talks", x -> x.talks(10, man, figure, ofFigure), -100);
        }
    }

    private static void rests() {
        check.promise(43);
        bounds.at("rests(n)", Bounds::four, FigureKnee::rests, 0, 1, 9, 2);
        bounds.beyond("rests(n)", Bounds::busy, FigureKnee::rests, 0, 9, -1, 2);
        bounds.withoutPier("rests(0)", x -> x.rests(0), -1);
        bounds.withoutPier("rests(10)", x -> x.rests(10), -1);
        check.promise(44);
        bounds.at("rest(n)", Bounds::four, FigureKnee::rest, 0, 11, 9, 1);
        bounds.beyond("rest(n)", Bounds::busy, FigureKnee::rest, 0, 9, -1, 2);
        bounds.withoutPier("rest(0)", x -> x.rest(0), -1);
        bounds.withoutPier("rest(10)", x -> x.rest(10), -1);
        check.sentence("III: a pair of these by which neither could have more alone");
        // a breath of 2 makes both have -1 if both talk, as much as who holds his tongue alone
        int[] count = {1, 1, 3, 2, 2};
        int[] first = {11, 11, 1, 1, 1};
        for (int breath = 0; breath < count.length; breath++) {
            due("rests(" + breath + ")", Bounds.four().rests(breath), count[breath]);
            due("rest(" + breath + ")", Bounds.four().rest(breath), first[breath]);
        }
    }

    // ---- the gallery

    private static void ratio(String call, Bounds.Maker maker, Bounds.Call upper, Bounds.Call lower, long wantUpper, long wantLower) {
        bounds.asked(call + ", upper", maker, upper, wantUpper);
        bounds.asked(call + ", lower", maker, lower, wantLower);
    }

    private static void verdictOdds(Bounds.Maker maker, int p, int n, long upper, long lower) {
        ratio("verdictOdds(" + p + ", " + n + ")", maker, x -> x.verdictOdds(p, n, false), x -> x.verdictOdds(p, n, true), upper, lower);
    }

    private static void verdictOdds() {
        check.promise(45);
        for (int p = 0; p < 4; p++) {
            verdictOdds(Bounds::four, p, 0, p == 0 ? 1 : 0, 1);
            verdictOdds(Bounds::four, p, 1, 1, 4);
        }
        verdictOdds(Bounds::four, 0, 4, 91, 256);
        verdictOdds(Bounds::four, 3, 4, 49, 256);
        // five pairs, four couples: one alone most, or as much as later ones alone
        int[] of625 = {209, 131, 101, 95, 89};
        for (int p = 0; p < 5; p++) {
            long upper = of625[p] % 5 == 0 ? of625[p] / 5 : of625[p];
            verdictOdds(() -> creeping(""), p, 4, upper, of625[p] % 5 == 0 ? 125 : 625);
        }
        for (boolean lower : new boolean[] {false, true}) {
            bounds.beyond("verdictOdds(0, n)", Bounds::busy, (x, n) -> x.verdictOdds(0, n, lower), 0, 4, -1, 2);
            bounds.beyond("verdictOdds(n, 0)", Bounds::busy, (x, p) -> x.verdictOdds(p, 0, lower), 0, 3, -1, 1);
            bounds.refused("verdictOdds(4, 5)", Bounds::busy, x -> x.verdictOdds(4, 5, lower), -1, 1);
            bounds.withoutPier("verdictOdds(0, 0)", x -> x.verdictOdds(0, 0, lower), -1);
        }
        verdictOdds(() -> Check.of("pier words 9 dumb 0;pair a fading figure 0 step 0"), 0, 4, 1, 1);
        verdictOdds(() -> Check.of("pier words 9 dumb 0;pair a fading figure 0 step 0"), 0, 0, 1, 1);
    }

    /** How often each pair is looked at, draw by draw. */
    private static int[] lookedAt(int pairs, long seed, int n) {
        int[] row = new int[pairs];
        long draw = seed;
        for (int i = 0; i < n; i++) {
            draw = (75 * draw + 74) % 65537;
            row[(int) (draw % pairs)]++;
        }
        return row;
    }

    private static void looks() {
        check.promise(46);
        bounds.at("looks(2, n, 1)", Bounds::four, (x, seed) -> x.looks(2, seed, 1), 0, 1, 65536, 0);
        bounds.beyond("looks(2, n, 1)", Bounds::busy, (x, seed) -> x.looks(2, seed, 1), 0, 65536, -1, 2);
        bounds.at("looks(0, 65536, n)", Bounds::four, (x, n) -> x.looks(0, 65536, n), 0, 0, 200, 200);
        bounds.beyond("looks(0, 65536, n)", Bounds::busy, (x, n) -> x.looks(0, 65536, n), 0, 200, -1, 2);
        bounds.at("looks(n, 0, 3)", Bounds::four, (x, p) -> x.looks(p, 0, 3), 0, 2, 3, 0);
        bounds.beyond("looks(n, 0, 3)", Bounds::busy, (x, p) -> x.looks(p, 0, 3), 0, 3, -1, 1);
        bounds.refused("looks(4, -1, 201)", Bounds::busy, x -> x.looks(4, -1, 201), -1, 1);
        bounds.withoutPier("looks(0, 0, 0)", x -> x.looks(0, 0, 0), -1);
        bounds.asked("looks(0, 5, 200) of one pair", () -> Check.of("pier words 9 dumb 0;pair a fading figure 0 step 0"),
            x -> x.looks(0, 5, 200), 200);
        for (int seed : new int[] {0, 1, 65535, 65536}) {
            FigureKnee x = creeping("");
            for (int p = 0; p < 5; p++) {
                due("looks(" + p + ", " + seed + ", 200)", x.looks(p, seed, 200), lookedAt(5, seed, 200)[p]);
            }
        }
    }

    private static void verdict() {
        check.promise(47);
        bounds.at("verdict(n, 1)", Bounds::four, (x, seed) -> x.verdict(seed, 1), 0, 2, 65536, 0);
        bounds.beyond("verdict(n, 1)", Bounds::busy, (x, seed) -> x.verdict(seed, 1), 0, 65536, -1, 2);
        int[] row = lookedAt(4, 0, 200);
        int most = 0;
        for (int p = 1; p < 4; p++) {
            most = row[p] > row[most] ? p : most;
        }
        bounds.at("verdict(0, n)", Bounds::four, (x, n) -> x.verdict(0, n), 0, 0, 200, most);
        bounds.beyond("verdict(0, n)", Bounds::busy, (x, n) -> x.verdict(0, n), 0, 200, -1, 2);
        bounds.withoutPier("verdict(0, 0)", x -> x.verdict(0, 0), -1);
        bounds.withoutPier("verdict(65537, 201)", x -> x.verdict(65537, 201), -1);
        check.sentence("III: the pair looked at most, the first such");
        // by four pairs 74, 5624, 28652, 51790 are 2, 0, 0, 2
        int[] first = {0, 2, 0, 0, 0};
        for (int n = 0; n < first.length; n++) {
            due("verdict(0, " + n + ")", Bounds.four().verdict(0, n), first[n]);
        }
    }

    // ---- dumb seasons

    private static void odds(Bounds.Maker maker, int p, int n, int much, long upper, long lower) {
        ratio("odds(" + p + ", " + n + ", " + much + ")", maker, x -> x.odds(p, n, much, false), x -> x.odds(p, n, much, true), upper, lower);
    }

    private static FigureKnee dumb(int dumb, int words, String law, int figure, int step) {
        return Check.of("pier words " + words + " dumb " + dumb + ";pair a " + law + " figure " + figure + " step " + step);
    }

    private static void odds() {
        check.promise(48);
        odds(Bounds::four, 0, 0, 2, 1, 1);
        odds(Bounds::four, 0, 0, 3, 0, 1);
        odds(Bounds::four, 0, 5, 5, 13, 16);
        odds(Bounds::four, 0, 3, 0, 1, 1);
        odds(Bounds::four, 0, 3, 99, 0, 1);
        odds(Bounds::four, 0, 1, 3, 1, 2);
        odds(Bounds::four, 3, 1, 3, 1, 1);
        for (boolean lower : new boolean[] {false, true}) {
            bounds.beyond("odds(0, n, 5)", Bounds::busy, (x, n) -> x.odds(0, n, 5, lower), 0, 5, -1, 2);
            bounds.beyond("odds(0, 3, n)", Bounds::busy, (x, much) -> x.odds(0, 3, much, lower), 0, 99, -1, 2);
            bounds.beyond("odds(n, 1, 3)", Bounds::busy, (x, p) -> x.odds(p, 1, 3, lower), 0, 3, -1, 1);
            bounds.refused("odds(4, 6, 100)", Bounds::busy, x -> x.odds(4, 6, 100, lower), -1, 1);
            bounds.withoutPier("odds(0, 0, 0)", x -> x.odds(0, 0, 0, lower), -1);
        }
        check.sentence("I: dumb 0 .. 100 in a hundred, by chance");
        odds(() -> dumb(0, 99, "creeping", 94, 1), 0, 5, 99, 1, 1);
        odds(() -> dumb(100, 99, "creeping", 94, 1), 0, 5, 95, 0, 1);
        odds(() -> dumb(100, 99, "creeping", 94, 1), 0, 5, 94, 1, 1);
        odds(() -> dumb(99, 99, "creeping", 94, 1), 0, 5, 99, 1, 10000000000L);
        odds(() -> dumb(99, 99, "creeping", 94, 1), 0, 5, 95, 490099501L, 10000000000L);
        odds(() -> dumb(1, 99, "creeping", 94, 1), 0, 5, 99, 9509900499L, 10000000000L);
        odds(() -> dumb(1, 99, "creeping", 94, 1), 0, 5, 95, 9999999999L, 10000000000L);
    }

    private static void mean(Bounds.Maker maker, int p, int n, long upper, long lower) {
        ratio("mean(" + p + ", " + n + ")", maker, x -> x.mean(p, n, false), x -> x.mean(p, n, true), upper, lower);
    }

    private static void mean() {
        check.promise(49);
        mean(Bounds::four, 0, 0, 2, 1);
        mean(Bounds::four, 0, 5, 203, 32);
        mean(Bounds::four, 3, 0, 3, 1);
        for (boolean lower : new boolean[] {false, true}) {
            bounds.beyond("mean(0, n)", Bounds::busy, (x, n) -> x.mean(0, n, lower), 0, 5, -1, 2);
            bounds.beyond("mean(n, 0)", Bounds::busy, (x, p) -> x.mean(p, 0, lower), 0, 3, -1, 1);
            bounds.refused("mean(4, 6)", Bounds::busy, x -> x.mean(4, 6, lower), -1, 1);
            bounds.withoutPier("mean(0, 0)", x -> x.mean(0, 0, lower), -1);
        }
        mean(() -> dumb(50, 99, "creeping", 99, 20), 0, 5, 99, 1);
        mean(() -> dumb(50, 99, "fading", 0, 20), 0, 5, 0, 1);
        mean(() -> dumb(0, 10, "creeping", 0, 1), 0, 5, 5, 1);
        mean(() -> dumb(100, 10, "creeping", 0, 1), 0, 5, 0, 1);
        mean(() -> dumb(99, 10, "creeping", 0, 1), 0, 5, 1, 20);
        mean(() -> dumb(1, 10, "creeping", 0, 1), 0, 5, 99, 20);
    }

    private static void drawn() {
        check.promise(50);
        bounds.at("drawn(1, n, 1)", Bounds::four, (x, seed) -> x.drawn(1, seed, 1), 0, 2, 65536, 1);
        bounds.beyond("drawn(1, n, 1)", Bounds::busy, (x, seed) -> x.drawn(1, seed, 1), 0, 65536, -1, 2);
        bounds.at("drawn(1, 0, n)", Bounds::four, (x, n) -> x.drawn(1, 0, n), 0, 1, 60, 10);
        bounds.beyond("drawn(1, 0, n)", Bounds::busy, (x, n) -> x.drawn(1, 0, n), 0, 60, -1, 2);
        bounds.at("drawn(n, 0, 1)", Bounds::four, (x, p) -> x.drawn(p, 0, 1), 0, 5, 3, 8);
        bounds.beyond("drawn(n, 0, 1)", Bounds::busy, (x, p) -> x.drawn(p, 0, 1), 0, 3, -1, 1);
        bounds.refused("drawn(4, -1, 61)", Bounds::busy, x -> x.drawn(4, -1, 61), -1, 1);
        bounds.withoutPier("drawn(0, 0, 0)", x -> x.drawn(0, 0, 0), -1);
        check.sentence("50: (this pair alone)");
        for (int n : new int[] {1, 2, 3, 59, 60}) {
            int alone = (int) dumb(50, 99, "creeping", 0, 1).drawn(0, 7, n);
            for (int p = 0; p < 5; p++) {
                due("drawn(" + p + ", 7, " + n + ")", creeping("").drawn(p, 7, n), alone);
            }
        }
        check.sentence("III: the LAW isn't followed (the contract is)");
        FigureKnee mute = Check.of("pier words 10 dumb 100;pair a creeping figure 1 step 5;contract a every 2");
        int[] want = {1, 1, 9, 9, 1};
        for (int n = 0; n < want.length; n++) {
            due("drawn(0, 0, " + n + ")", mute.drawn(0, 0, n), want[n]);
            due("mean(0, " + n + ")", mute.mean(0, n, false), want[n]);
        }
    }

    /** A SEED whose first DRAW mod 100 is so much. */
    private static int seedFor(int left) {
        int seed = 0;
        while ((75L * seed + 74) % 65537 % 100 != left) {
            seed++;
        }
        return seed;
    }

    private static void drawnBelowDumb() {
        check.sentence("III: a DRAW mod 100 each: below dumb it isn't");
        for (int dumb : new int[] {0, 1, 50, 99, 100}) {
            for (int left : new int[] {0, 1, 49, 50, 51, 98, 99}) {
                FigureKnee x = dumb(dumb, 10, "creeping", 0, 1);
                due("drawn by " + left + ", dumb " + dumb, x.drawn(0, seedFor(left), 1), left < dumb ? 0 : 1);
            }
        }
    }
}
