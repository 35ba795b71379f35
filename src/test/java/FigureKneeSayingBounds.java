/** Terms II and promises 6 to 26: what the figures say at the bounds of all words, and the bounds of each call. */
public final class FigureKneeSayingBounds {
    private static final Bounds bounds = new Bounds();
    private static final Check check = bounds.check;

    public static void main(String[] args) {
        laws();
        contractsOfSeasons();
        more();
        pair();
        says();
        saysAll();
        moreIn();
        moreTimes();
        goingRound();
        saysLate();
        turnsAbout();
        alikeIn();
        overtakes();
        loudest();
        widest();
        sumAll();
        masters();
        everyFor();
        everyNever();
        stepFor();
        check.end();
    }

    private static void due(String call, long got, long want) {
        check.due(call, got, want);
    }

    /** One pair, its law, figure and step, and its contract's every (0 none). */
    private static FigureKnee one(int words, String law, int figure, int step, int every) {
        return Check.of("pier words " + words + " dumb 0;pair a " + law + " figure " + figure + " step " + step
            + (every == 0 ? "" : ";contract a every " + every));
    }

    /** Pairs of ten words, of law, figure and step each. */
    private static FigureKnee pairs(int words, String... each) {
        StringBuilder text = new StringBuilder("pier words ").append(words).append(" dumb 0");
        for (int p = 0; p < each.length; p++) {
            String[] parts = each[p].split(" ");
            text.append(";pair ").append((char) ('a' + p)).append(' ').append(parts[0]);
            text.append(" figure ").append(parts[1]).append(" step ").append(parts[2]);
            if (parts.length > 3) {
                text.append(";contract ").append((char) ('a' + p)).append(" every ").append(parts[3]);
            }
        }
        return Check.of(text.toString());
    }

    // ---- Terms II

    /** What the figure says behind a season: as says() tells, by its law, and as season() makes it. */
    private static void becomes(int words, String law, int figure, int step, int want) {
        FigureKnee x = one(words, law, figure, step, 0);
        String what = law + " " + figure + " of " + words + ", step " + step;
        due(what, x.says(0, 1), want);
        due(what + ", late", x.saysLate(0, 1), want);
        due(what + ", all", x.saysAll(0, 1), want);
        due(what + ", drawn", x.drawn(0, 0, 1), want);
        due(what + ", mean", x.mean(0, 1, false), want);
        x.season();
        due(what + ", now", x.pair(0, 1), want);
        due(what + ", the man", x.pair(0, 2), words - want);
    }

    private static void laws() {
        check.sentence("II: never below 0, never above all words: creeping");
        becomes(10, "creeping", 0, 0, 0);
        becomes(10, "creeping", 9, 0, 9);
        becomes(10, "creeping", 8, 1, 9);
        becomes(10, "creeping", 9, 1, 10);
        becomes(10, "creeping", 9, 2, 10);
        becomes(10, "creeping", 10, 1, 10);
        becomes(99, "creeping", 79, 20, 99);
        becomes(99, "creeping", 80, 20, 99);
        becomes(2, "creeping", 0, 20, 2);
        check.sentence("II: never below 0, never above all words: leaping");
        becomes(10, "leaping", 0, 0, 0);
        becomes(10, "leaping", 4, 1, 9);
        becomes(10, "leaping", 5, 0, 10);
        becomes(10, "leaping", 4, 2, 10);
        becomes(10, "leaping", 4, 3, 10);
        becomes(10, "leaping", 6, 0, 10);
        becomes(99, "leaping", 49, 0, 98);
        becomes(99, "leaping", 99, 20, 99);
        check.sentence("II: never below 0, never above all words: fading");
        becomes(10, "fading", 10, 0, 10);
        becomes(10, "fading", 5, 4, 1);
        becomes(10, "fading", 5, 5, 0);
        becomes(10, "fading", 5, 6, 0);
        becomes(10, "fading", 0, 1, 0);
        becomes(99, "fading", 0, 20, 0);
        becomes(99, "fading", 99, 20, 79);
        check.sentence("II: never below 0, never above all words: swinging");
        becomes(10, "swinging", 10, 0, 0);
        becomes(10, "swinging", 0, 0, 10);
        becomes(10, "swinging", 0, 1, 10);
        becomes(10, "swinging", 1, 0, 9);
        becomes(10, "swinging", 1, 1, 10);
        becomes(10, "swinging", 1, 2, 10);
        becomes(10, "swinging", 10, 20, 10);
        becomes(99, "swinging", 99, 20, 20);
    }

    private static void row(FigureKnee x, int p, int... want) {
        for (int n = 0; n < want.length; n++) {
            due("says(" + p + ", " + n + ")", x.says(p, n), want[n]);
        }
    }

    private static void contractsOfSeasons() {
        check.sentence("II: if its contract's every divides the number of the season (the first one is 1)");
        row(one(10, "creeping", 1, 0, 1), 0, 1, 9, 1, 9, 1);
        row(one(10, "creeping", 1, 0, 2), 0, 1, 1, 9, 9, 1, 1, 9);
        row(one(10, "creeping", 1, 0, 9), 0, 1, 1, 1, 1, 1, 1, 1, 1, 1, 9, 9, 9, 9, 9, 9, 9, 9, 9, 1);
        FigureKnee x = one(10, "creeping", 1, 0, 3);
        x.season();
        row(x, 0, 1, 1, 9, 9, 9, 1);
        x.season();
        row(x, 0, 1, 9, 9, 9, 1);
        due("season()", x.season(), 1);
        row(x, 0, 9, 9, 9, 1, 1, 1, 9);
        due("undo()", x.undo() ? 1 : 0, 1);
        row(x, 0, 1, 9, 9, 9, 1);
        check.sentence("II: Then both change over: the figure says what the man said by then");
        row(one(10, "creeping", 9, 5, 1), 0, 9, 0, 5, 0, 5);
        row(one(10, "fading", 1, 5, 1), 0, 1, 10, 5, 10, 5);
        row(one(10, "leaping", 6, 0, 1), 0, 6, 0, 10, 0);
        row(one(10, "swinging", 3, 2, 1), 0, 3, 1, 0, 0);
        row(one(10, "fading", 10, 0, 1), 0, 10, 0, 10, 0);
        check.sentence("52: a CHANGE over at once is none of a contract: seasons go on with their numbers");
        FigureKnee y = one(10, "creeping", 1, 0, 2);
        due("change(0)", y.change(0), 9);
        row(y, 0, 9, 9, 1, 1, 9);
    }

    private static void more() {
        check.sentence("II: The figure says MORE if it says more than the man");
        int[][] rows = {{10, 5, 0}, {10, 6, 1}, {10, 0, 0}, {10, 10, 1}, {99, 49, 0}, {99, 50, 1}, {2, 1, 0}, {2, 2, 1},
            {3, 1, 0}, {3, 2, 1}, {98, 49, 0}, {98, 50, 1}};
        for (int[] row : rows) {
            FigureKnee x = one(row[0], "creeping", row[1], 0, 0);
            String of = " of " + row[1] + " by " + row[0];
            due("pair(0, 5)" + of, x.pair(0, 5), row[2]);
            due("moreIn(0)" + of, x.moreIn(0), row[2] == 1 ? 0 : -2);
            due("moreTimes(0, 1)" + of, x.moreTimes(0, 1), row[2]);
            due("masters(0)" + of, x.masters(0), row[2]);
            due("masters(1)" + of, x.masters(1), row[2]);
            due("stepFor(0, 0)" + of, x.stepFor(0, 0), row[2] == 1 ? 0 : -2);
            due("led(0)" + of, Check.led(x, 0), row[2] == 1 ? 0 : Check.THROWS);
            due("season()" + of, x.season(), row[2]);
        }
    }

    // ---- promises 6 to 22

    private static void pair() {
        check.promise(6);
        bounds.at("pair(n, 1)", Bounds::four, (x, p) -> x.pair(p, 1), 0, 2, 3, 3);
        bounds.beyond("pair(n, 1)", Bounds::busy, (x, p) -> x.pair(p, 1), 0, 3, -1, 1);
        bounds.at("pair(2, n)", Bounds::four, (x, what) -> x.pair(2, what), 0, 2, 5, 1);
        bounds.beyond("pair(2, n)", Bounds::busy, (x, what) -> x.pair(2, what), 0, 5, -1, 1);
        bounds.withoutPier("pair(0, 0)", x -> x.pair(0, 0), -1);
        check.sentence("6: 4 its contract's every (0 none)");
        bounds.asked("pair(1, 4)", Bounds::four, x -> x.pair(1, 4), 0);
        bounds.asked("pair(0, 4)", Bounds::four, x -> x.pair(0, 4), 3);
        check.sentence("6: 3 step NOW, 1 what the figure says NOW");
        bounds.asked("pair(2, 3)", Bounds::busy, x -> x.pair(2, 3), 7);
        bounds.asked("pair(1, 1)", Bounds::busy, x -> x.pair(1, 1), 10);
        bounds.asked("pair(1, 2)", Bounds::busy, x -> x.pair(1, 2), 0);
    }

    private static void says() {
        check.promise(7);
        bounds.at("says(0, n)", Bounds::four, (x, n) -> x.says(0, n), 0, 2, 60, 1);
        bounds.beyond("says(0, n)", Bounds::busy, (x, n) -> x.says(0, n), 0, 60, -1, 2);
        bounds.at("says(n, 0)", Bounds::four, (x, p) -> x.says(p, 0), 0, 2, 3, 3);
        bounds.beyond("says(n, 0)", Bounds::busy, (x, p) -> x.says(p, 0), 0, 3, -1, 1);
        bounds.withoutPier("says(0, 0)", x -> x.says(0, 0), -1);
        bounds.refused("says(4, 61)", Bounds::four, x -> x.says(4, 61), -1, 1);
        FigureKnee slow = one(99, "creeping", 0, 1, 0);
        due("says(0, 59)", slow.says(0, 59), 59);
        due("says(0, 60)", slow.says(0, 60), 60);
    }

    private static void saysAll() {
        check.promise(8);
        bounds.at("saysAll(0, n)", Bounds::four, (x, n) -> x.saysAll(0, n), 0, 0, 60, 212);
        bounds.beyond("saysAll(0, n)", Bounds::busy, (x, n) -> x.saysAll(0, n), 0, 60, -1, 2);
        bounds.at("saysAll(n, 1)", Bounds::four, (x, p) -> x.saysAll(p, 1), 0, 5, 3, 8);
        bounds.beyond("saysAll(n, 1)", Bounds::busy, (x, p) -> x.saysAll(p, 1), 0, 3, -1, 1);
        bounds.withoutPier("saysAll(0, 0)", x -> x.saysAll(0, 0), -1);
        bounds.refused("saysAll(4, 61)", Bounds::four, x -> x.saysAll(4, 61), -1, 1);
        due("saysAll of the most", one(99, "creeping", 99, 0, 0).saysAll(0, 60), 5940);
        due("saysAll of none", one(99, "creeping", 0, 0, 0).saysAll(0, 60), 0);
    }

    private static void moreIn() {
        check.promise(9);
        bounds.at("moreIn(n)", Bounds::four, FigureKnee::moreIn, 0, 2, 3, 1);
        bounds.beyond("moreIn(n)", Bounds::busy, FigureKnee::moreIn, 0, 3, -1, 1);
        bounds.withoutPier("moreIn(0)", x -> x.moreIn(0), -1);
        check.sentence("9: Behind how many SEASONS (0 .. 60) it first says MORE; -2");
        // no PIER has a figure that says MORE for the first time behind more than 50 seasons
        due("moreIn(0) at once", one(10, "fading", 10, 10, 0).moreIn(0), 0);
        due("moreIn(0) as late as can be", one(99, "creeping", 0, 1, 0).moreIn(0), 50);
        due("moreIn(0) as late as can be", one(98, "creeping", 0, 1, 0).moreIn(0), 50);
        bounds.asked("moreIn(0) of half", () -> one(10, "creeping", 5, 0, 0), x -> x.moreIn(0), -2);
        bounds.asked("moreIn(0) of none", () -> one(10, "leaping", 0, 0, 0), x -> x.moreIn(0), -2);
    }

    private static void moreTimes() {
        check.promise(10);
        bounds.at("moreTimes(0, n)", Bounds::four, (x, n) -> x.moreTimes(0, n), 0, 0, 60, 20);
        bounds.beyond("moreTimes(0, n)", Bounds::busy, (x, n) -> x.moreTimes(0, n), 0, 60, -1, 2);
        bounds.at("moreTimes(n, 3)", Bounds::four, (x, p) -> x.moreTimes(p, 3), 0, 1, 3, 2);
        bounds.beyond("moreTimes(n, 3)", Bounds::busy, (x, p) -> x.moreTimes(p, 3), 0, 3, -1, 1);
        bounds.withoutPier("moreTimes(0, 0)", x -> x.moreTimes(0, 0), -1);
        bounds.refused("moreTimes(4, 61)", Bounds::four, x -> x.moreTimes(4, 61), -1, 1);
        check.sentence("10: In how many of the next n SEASONS, behind each");
        due("moreTimes(0, 1) of one that fades", one(10, "fading", 10, 10, 0).moreTimes(0, 1), 0);
        due("moreTimes(0, 60) of all", one(10, "creeping", 10, 0, 0).moreTimes(0, 60), 60);
        due("moreTimes(0, 60) of none", one(10, "creeping", 5, 0, 0).moreTimes(0, 60), 0);
    }

    private static void round(FigureKnee x, int settles, int length, int most, int least) {
        check.promise(11);
        due("settles(0)", x.settles(0), settles);
        check.promise(12);
        due("round(0)", x.round(0), length);
        check.promise(14);
        due("roundMost(0)", x.roundMost(0), most);
        check.promise(15);
        due("roundLeast(0)", x.roundLeast(0), least);
    }

    private static void goingRound() {
        check.promise(11);
        bounds.at("settles(n)", Bounds::four, FigureKnee::settles, 0, 3, 3, 0);
        bounds.beyond("settles(n)", Bounds::busy, FigureKnee::settles, 0, 3, -1, 1);
        bounds.withoutPier("settles(0)", x -> x.settles(0), -1);
        check.promise(12);
        bounds.at("round(n)", Bounds::four, FigureKnee::round, 0, 6, 3, 4);
        bounds.beyond("round(n)", Bounds::busy, FigureKnee::round, 0, 3, -1, 1);
        bounds.withoutPier("round(0)", x -> x.round(0), -1);
        check.promise(14);
        bounds.at("roundMost(n)", Bounds::four, FigureKnee::roundMost, 0, 7, 3, 8);
        bounds.beyond("roundMost(n)", Bounds::busy, FigureKnee::roundMost, 0, 3, -1, 1);
        bounds.withoutPier("roundMost(0)", x -> x.roundMost(0), -1);
        check.promise(15);
        bounds.at("roundLeast(n)", Bounds::four, FigureKnee::roundLeast, 0, 0, 3, 3);
        bounds.beyond("roundLeast(n)", Bounds::busy, FigureKnee::roundLeast, 0, 3, -1, 1);
        bounds.withoutPier("roundLeast(0)", x -> x.roundLeast(0), -1);
        // the first of the sayings on, a round of one season
        round(one(10, "creeping", 0, 0, 0), 0, 1, 0, 0);
        round(one(10, "creeping", 10, 20, 0), 0, 1, 10, 10);
        // as late as a figure that creeps can settle
        round(one(99, "creeping", 0, 1, 0), 99, 1, 99, 99);
        round(one(99, "fading", 99, 1, 0), 99, 1, 0, 0);
        // 9 again and again, changed over to 1 behind each ninth season: eighteen seasons a round
        round(one(10, "creeping", 1, 0, 9), 0, 18, 9, 1);
        round(one(99, "creeping", 99, 0, 9), 0, 18, 99, 0);
        round(one(2, "creeping", 2, 0, 9), 0, 18, 2, 0);
        // half of all words is half of them when both change over
        round(one(10, "creeping", 5, 0, 9), 0, 1, 5, 5);
        // 3 1 0 0 ..: what the contract does can't be seen any more
        round(one(10, "swinging", 3, 2, 1), 2, 1, 0, 0);
        round(one(10, "swinging", 0, 0, 0), 0, 2, 10, 0);
        round(one(10, "swinging", 0, 0, 1), 0, 1, 0, 0);
        // 1 2 4 8 10 10, then six times 0, six times 10, and so on: the two 10 ahead belong to them
        round(one(10, "leaping", 1, 0, 6), 4, 12, 10, 0);
        // the most and the least count in a round alone: 9 5 1 0 0 ..
        round(one(10, "fading", 9, 4, 0), 3, 1, 0, 0);
        check.sentence("14: of a pair's own ROUND, whichever was asked for ahead");
        FigureKnee three = pairs(99, "creeping 50 1", "creeping 3 0", "creeping 0 1");
        three.settles(0);
        due("roundMost(1)", three.roundMost(1), 3);
        three.settles(2);
        due("roundLeast(1)", three.roundLeast(1), 3);
        FigureKnee x = Bounds.four();
        x.season();
        x.season();
        check.sentence("11: sayings from NOW on");
        due("settles(0)", x.settles(0), 1);
        x.season();
        due("settles(0)", x.settles(0), 0);
        due("round(0)", x.round(0), 6);
    }

    private static void saysLate() {
        check.promise(13);
        bounds.at("saysLate(0, n)", Bounds::four, (x, n) -> x.saysLate(0, n), 0, 2, 2000000000, 7);
        bounds.beyond("saysLate(0, n)", Bounds::busy, (x, n) -> x.saysLate(0, n), 0, 2000000000, -1, 2);
        bounds.at("saysLate(n, 5)", Bounds::four, (x, p) -> x.saysLate(p, 5), 0, 6, 3, 8);
        bounds.beyond("saysLate(n, 5)", Bounds::busy, (x, p) -> x.saysLate(p, 5), 0, 3, -1, 1);
        bounds.withoutPier("saysLate(0, 0)", x -> x.saysLate(0, 0), -1);
        bounds.refused("saysLate(4, -1)", Bounds::four, x -> x.saysLate(4, -1), -1, 1);
        FigureKnee x = Bounds.four();
        for (int n = 0; n <= 60; n++) {
            due("saysLate(0, " + n + ") as says", x.saysLate(0, n), x.says(0, n));
        }
        // 1 3 6 6 6 6 6 6 6 changed over 0, 1 3 6 6 6 6 6 6 0, and so on: from the third on, nine seasons a round
        FigureKnee leap = one(6, "leaping", 1, 1, 9);
        int[] round = {6, 6, 6, 6, 6, 6, 0, 1, 3};
        for (int n : new int[] {3, 4, 8, 9, 10, 11, 12, 60, 1000000000, 1999999999, 2000000000}) {
            due("saysLate(0, " + n + ")", leap.saysLate(0, n), round[(n - 3) % 9]);
        }
        due("saysLate(0, 0)", leap.saysLate(0, 0), 1);
        due("saysLate(0, 2)", leap.saysLate(0, 2), 6);
        FigureKnee slow = one(99, "creeping", 0, 1, 0);
        due("saysLate(0, 98)", slow.saysLate(0, 98), 98);
        due("saysLate(0, 99)", slow.saysLate(0, 99), 99);
        due("saysLate(0, 100)", slow.saysLate(0, 100), 99);
    }

    private static void turnsAbout() {
        check.promise(16);
        bounds.at("turnsAbout(n)", Bounds::four, FigureKnee::turnsAbout, 0, 40, 3, 30);
        bounds.beyond("turnsAbout(n)", Bounds::busy, FigureKnee::turnsAbout, 0, 3, -1, 1);
        bounds.withoutPier("turnsAbout(0)", x -> x.turnsAbout(0), -1);
        check.sentence("16: of its SAYINGS behind 0 .. 60 SEASONS");
        due("each one turns", one(10, "swinging", 10, 0, 0).turnsAbout(0), 60);
        due("each one turns", one(10, "swinging", 0, 0, 0).turnsAbout(0), 60);
        due("none turns", one(10, "creeping", 5, 0, 1).turnsAbout(0), 0);
        due("the first one turns", one(10, "fading", 10, 10, 0).turnsAbout(0), 1);
        due("behind each sixth season", one(10, "creeping", 1, 0, 6).turnsAbout(0), 10);
        due("behind each seventh season", one(10, "creeping", 1, 0, 7).turnsAbout(0), 8);
        check.sentence("16: the last one turns behind season 60, not behind season 61");
        FigureKnee x = one(10, "creeping", 1, 0, 8);
        for (int gone = 0; gone < 5; gone++) {
            // turns behind seasons 8 .. 64: those up to 60 and gone seasons count, less none yet
            due("turnsAbout(0) behind " + gone, x.turnsAbout(0), (60 + gone) / 8);
            x.season();
        }
    }

    private static void alikeIn() {
        check.promise(17);
        bounds.at("alikeIn(n, 2)", Bounds::four, (x, p) -> x.alikeIn(p, 2), 0, 1, 3, -2);
        bounds.beyond("alikeIn(n, 2)", Bounds::busy, (x, p) -> x.alikeIn(p, 2), 0, 3, -1, 1);
        bounds.at("alikeIn(2, n)", Bounds::four, (x, other) -> x.alikeIn(2, other), 0, 1, 3, -2);
        bounds.beyond("alikeIn(2, n)", Bounds::busy, (x, other) -> x.alikeIn(2, other), 0, 3, -1, 1);
        bounds.withoutPier("alikeIn(0, 1)", x -> x.alikeIn(0, 1), -1);
        check.sentence("17: NONE: 1 (unlike)");
        for (int p = 0; p < 4; p++) {
            int same = p;
            bounds.refused("alikeIn(" + p + ", " + p + ")", Bounds::four, x -> x.alikeIn(same, same), -1, 1);
        }
        check.sentence("17: Behind how many SEASONS (0 .. 60); -2");
        FigureKnee x = pairs(99, "creeping 0 1", "creeping 60 0", "creeping 61 0", "creeping 0 0", "creeping 59 0");
        due("alikeIn(0, 3)", x.alikeIn(0, 3), 0);
        due("alikeIn(0, 4)", x.alikeIn(0, 4), 59);
        due("alikeIn(1, 0)", x.alikeIn(1, 0), 60);
        due("alikeIn(0, 2)", x.alikeIn(0, 2), -2);
        due("trouble()", x.trouble(), 0);
    }

    private static void overtakes() {
        check.promise(19);
        bounds.at("overtakes(n, 2)", Bounds::four, (x, p) -> x.overtakes(p, 2), 0, 2, 3, 1);
        bounds.beyond("overtakes(n, 2)", Bounds::busy, (x, p) -> x.overtakes(p, 2), 0, 3, -1, 1);
        bounds.at("overtakes(1, n)", Bounds::four, (x, other) -> x.overtakes(1, other), 0, 3, 3, 3);
        bounds.beyond("overtakes(1, n)", Bounds::busy, (x, other) -> x.overtakes(1, other), 0, 3, -1, 1);
        bounds.withoutPier("overtakes(0, 1)", x -> x.overtakes(0, 1), -1);
        check.sentence("19: NONE: 1 (unlike)");
        for (int p = 0; p < 4; p++) {
            int same = p;
            bounds.refused("overtakes(" + p + ", " + p + ")", Bounds::four, x -> x.overtakes(same, same), -1, 1);
        }
        check.sentence("19: Behind how many SEASONS (0 .. 60); -2");
        FigureKnee x = pairs(99, "creeping 0 1", "creeping 60 0", "creeping 59 0", "creeping 0 0", "creeping 58 0");
        due("overtakes(1, 0)", x.overtakes(1, 0), 0);
        due("overtakes(0, 4)", x.overtakes(0, 4), 59);
        due("overtakes(0, 2)", x.overtakes(0, 2), 60);
        due("overtakes(0, 1)", x.overtakes(0, 1), -2);
        due("trouble()", x.trouble(), 0);
        due("overtakes(0, 3), as much at first", x.overtakes(0, 3), 1);
        due("overtakes(3, 0), as much at first", x.overtakes(3, 0), -2);
    }

    private static void loudest() {
        check.promise(18);
        bounds.at("loudest(n)", Bounds::four, FigureKnee::loudest, 0, 2, 60, 1);
        bounds.beyond("loudest(n)", Bounds::busy, FigureKnee::loudest, 0, 60, -1, 2);
        bounds.withoutPier("loudest(0)", x -> x.loudest(0), -1);
        bounds.withoutPier("loudest(61)", x -> x.loudest(61), -1);
        check.sentence("18: the first such");
        due("all like", pairs(10, "creeping 3 0", "creeping 3 0", "creeping 3 0").loudest(0), 0);
        due("all none", pairs(10, "creeping 0 0", "creeping 0 0").loudest(60), 0);
        due("the later two like", pairs(10, "creeping 2 0", "creeping 3 0", "creeping 3 0").loudest(0), 1);
        due("the last one of five", pairs(10, "creeping 2 0", "creeping 3 0", "creeping 1 0", "creeping 3 0",
            "creeping 4 0").loudest(0), 4);
        due("a pair alone", pairs(10, "creeping 0 0").loudest(0), 0);
    }

    private static void widest() {
        check.promise(20);
        bounds.at("widest(n)", Bounds::four, FigureKnee::widest, 0, 12, 60, 12);
        bounds.beyond("widest(n)", Bounds::busy, FigureKnee::widest, 0, 60, -1, 2);
        bounds.withoutPier("widest(0)", x -> x.widest(0), -1);
        bounds.withoutPier("widest(61)", x -> x.widest(61), -1);
        check.sentence("20: -2 there are no two");
        bounds.asked("widest(0) of one", () -> one(10, "creeping", 3, 0, 0), x -> x.widest(0), -2);
        bounds.asked("widest(60) of one", () -> one(10, "creeping", 3, 0, 0), x -> x.widest(60), -2);
        bounds.refused("widest(61) of one", () -> one(10, "creeping", 3, 0, 0), x -> x.widest(61), -1, 2);
        check.sentence("20: farthest apart, the first two");
        due("all like", pairs(10, "creeping 3 0", "creeping 3 0", "creeping 3 0").widest(0), 1);
        due("first and last like", pairs(10, "creeping 3 0", "creeping 4 0", "creeping 3 0").widest(0), 1);
        due("of like distances", pairs(10, "creeping 5 0", "creeping 5 0", "creeping 9 0", "creeping 1 0", "creeping 1 0").widest(0), 23);
        due("the last two of five", pairs(10, "creeping 5 0", "creeping 5 0", "creeping 5 0", "creeping 0 0", "creeping 10 0").widest(0), 34);
        due("first and last of five", pairs(99, "creeping 99 0", "creeping 1 0", "creeping 5 0", "creeping 9 0", "creeping 0 0").widest(0), 4);
        due("two", pairs(10, "creeping 0 0", "creeping 10 0").widest(60), 1);
        FigureKnee slow = pairs(99, "creeping 0 1", "creeping 30 0", "creeping 1 0");
        due("widest(0)", slow.widest(0), 1);
        due("widest(59)", slow.widest(59), 2);
        due("widest(60)", slow.widest(60), 2);
    }

    private static void sumAll() {
        check.promise(21);
        bounds.at("sumAll(n)", Bounds::four, FigureKnee::sumAll, 0, 15, 60, 14);
        bounds.beyond("sumAll(n)", Bounds::busy, FigureKnee::sumAll, 0, 60, -1, 2);
        bounds.withoutPier("sumAll(0)", x -> x.sumAll(0), -1);
        bounds.withoutPier("sumAll(61)", x -> x.sumAll(61), -1);
        due("the most", pairs(99, "creeping 99 0", "creeping 99 0", "creeping 99 0", "creeping 99 0", "creeping 99 0").sumAll(60), 495);
        due("none", pairs(99, "creeping 0 0", "creeping 0 0").sumAll(60), 0);
    }

    private static void masters() {
        check.promise(22);
        bounds.at("masters(n)", Bounds::four, FigureKnee::masters, 0, 4, 60, 2);
        bounds.beyond("masters(n)", Bounds::busy, FigureKnee::masters, 0, 60, -1, 2);
        bounds.withoutPier("masters(0)", x -> x.masters(0), -1);
        bounds.withoutPier("masters(61)", x -> x.masters(61), -1);
        due("all five", pairs(10, "creeping 6 0", "creeping 6 0", "creeping 6 0", "creeping 6 0", "creeping 6 0").masters(60), 31);
        due("the last of five", pairs(10, "creeping 5 0", "creeping 5 0", "creeping 5 0", "creeping 5 0", "creeping 6 0").masters(60), 16);
        due("none", pairs(10, "creeping 5 0", "creeping 0 0").masters(60), 0);
    }

    // ---- promises 23 to 26

    private static void everyFor() {
        check.promise(23);
        // old: none 0, every 1 and 2 say 9 behind 60, every 3 changes 0 over to 10
        bounds.at("everyFor(2, n)", Bounds::four, (x, n) -> x.everyFor(2, n), 0, 0, 60, 3);
        bounds.beyond("everyFor(2, n)", Bounds::busy, (x, n) -> x.everyFor(2, n), 0, 60, -1, 2);
        bounds.at("everyFor(n, 2)", Bounds::four, (x, p) -> x.everyFor(p, 2), 0, 0, 3, 2);
        bounds.beyond("everyFor(n, 2)", Bounds::busy, (x, p) -> x.everyFor(p, 2), 0, 3, -1, 1);
        bounds.withoutPier("everyFor(0, 0)", x -> x.everyFor(0, 0), -1);
        bounds.refused("everyFor(4, 61)", Bounds::four, x -> x.everyFor(4, 61), -1, 1);
        check.promise(24);
        bounds.at("everySays(2, n)", Bounds::four, (x, n) -> x.everySays(2, n), 0, 9, 60, 10);
        bounds.beyond("everySays(2, n)", Bounds::busy, (x, n) -> x.everySays(2, n), 0, 60, -1, 2);
        bounds.at("everySays(n, 2)", Bounds::four, (x, p) -> x.everySays(p, 2), 0, 8, 3, 7);
        bounds.beyond("everySays(n, 2)", Bounds::busy, (x, p) -> x.everySays(p, 2), 0, 3, -1, 1);
        bounds.withoutPier("everySays(0, 0)", x -> x.everySays(0, 0), -1);
        bounds.refused("everySays(4, 61)", Bounds::four, x -> x.everySays(4, 61), -1, 1);
        check.sentence("23: (0 none .. 9), the least such");
        // one that stays at 1 says 9 if it was changed over an odd number of times
        int[] least = {0, 1, 2, 1, 3, 1, 2, 1, 5, 1};
        for (int n = 0; n < least.length; n++) {
            FigureKnee x = one(10, "creeping", 1, 0, 0);
            due("everyFor(0, " + n + ")", x.everyFor(0, n), least[n]);
            due("everySays(0, " + n + ")", x.everySays(0, n), n == 0 ? 1 : 9);
        }
        due("every 9", one(4, "fading", 4, 1, 0).everyFor(0, 9), 9);
        due("every 9 says", one(4, "fading", 4, 1, 0).everySays(0, 9), 4);
        due("all like", one(10, "creeping", 5, 0, 3).everyFor(0, 60), 0);
        due("its own contract doesn't count", one(10, "creeping", 9, 0, 1).everyFor(0, 1), 0);
        due("its own contract doesn't count", one(10, "creeping", 9, 0, 1).everySays(0, 1), 9);
        due("nothing to say", one(10, "fading", 0, 20, 0).everySays(0, 0), 0);
    }

    private static void everyNever() {
        check.promise(25);
        bounds.at("everyNever(n)", Bounds::four, FigureKnee::everyNever, 0, 1, 3, 1);
        bounds.beyond("everyNever(n)", Bounds::busy, FigureKnee::everyNever, 0, 3, -1, 1);
        bounds.withoutPier("everyNever(0)", x -> x.everyNever(0), -1);
        check.sentence("25: The least every (0 none .. 9); -2");
        bounds.asked("everyNever(1)", Bounds::four, x -> x.everyNever(1), -2);
        due("what it says NOW doesn't count", one(10, "fading", 10, 10, 0).everyNever(0), 0);
        due("its own contract doesn't count", one(10, "creeping", 1, 0, 1).everyNever(0), 0);
        due("half", one(10, "creeping", 5, 0, 0).everyNever(0), 0);
        due("all words", one(10, "creeping", 10, 0, 0).everyNever(0), -2);
        due("as late as can be", one(99, "creeping", 0, 1, 0).everyNever(0), -2);
        // by 1 from 0 and twice as many each time: 1, 3, 7, 15 .., all words just when both change over;
        // no PIER has a figure of which an every of more than 6 is the least
        int[] words = {2, 3, 6, 14, 30, 62};
        for (int i = 0; i < words.length; i++) {
            due("everyNever(0) by " + words[i], one(words[i], "leaping", 0, 1, 0).everyNever(0), i + 1);
        }
        due("everyNever(0) by 99", one(99, "leaping", 0, 1, 0).everyNever(0), -2);
    }

    private static void stepFor() {
        check.promise(26);
        // coker behind 60 seasons has just changed over: by no step it says MORE; behind 59 by 0 it does
        bounds.at("stepFor(0, n)", Bounds::four, (x, n) -> x.stepFor(0, n), 0, -2, 60, -2);
        bounds.asked("stepFor(0, 59)", Bounds::four, x -> x.stepFor(0, 59), 0);
        bounds.beyond("stepFor(0, n)", Bounds::busy, (x, n) -> x.stepFor(0, n), 0, 60, -1, 2);
        bounds.at("stepFor(n, 2)", Bounds::four, (x, p) -> x.stepFor(p, 2), 0, 2, 3, 0);
        bounds.beyond("stepFor(n, 2)", Bounds::busy, (x, p) -> x.stepFor(p, 2), 0, 3, -1, 1);
        bounds.withoutPier("stepFor(0, 0)", x -> x.stepFor(0, 0), -1);
        bounds.refused("stepFor(4, 61)", Bounds::four, x -> x.stepFor(4, 61), -1, 1);
        check.sentence("26: The least step (0 .. 20); -2");
        due("step 20", one(41, "creeping", 1, 0, 0).stepFor(0, 1), 20);
        due("step 21 is none", one(41, "creeping", 0, 0, 0).stepFor(0, 1), -2);
        due("step 19", one(41, "creeping", 2, 0, 0).stepFor(0, 1), 19);
        due("step 0", one(41, "creeping", 21, 20, 0).stepFor(0, 1), 0);
        due("step 1", one(41, "creeping", 20, 20, 0).stepFor(0, 1), 1);
        due("no step of one that fades", one(41, "fading", 20, 0, 0).stepFor(0, 60), -2);
        due("its own step doesn't count NOW", one(41, "fading", 41, 20, 0).stepFor(0, 0), 0);
    }
}
