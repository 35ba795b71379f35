/** Each promise of the document by examples reckoned by hand: ordinary ones, edges, wrong inputs. */
public final class FigureKneePromises {
    private static final String HEAD = "pier words 10 dumb 50;";
    private static final String FOUR = HEAD
        + "pair coker creeping figure 2 step 3;pair wife leaping figure 1 step 0;"
        + "pair old fading figure 9 step 4;pair duo swinging figure 3 step 1;"
        + "contract coker every 3;contract duo every 2;"
        + "debt coker wife 5;debt wife old 5;debt old coker 2;debt duo coker 4;"
        + "unsure coker 2;unsure wife 1;"
        + "heard coker season 2 figure 8;heard wife season 3 figure 8";
    // Behind 0, 1, 2 .. seasons the figures of FOUR say
    //   coker 2 5 8 0 3 6 1 4 7 0 3 6 ..
    //   wife  1 2 4 8 10 10 ..
    //   old   9 5 1 0 0 ..
    //   duo   3 8 7 4 3 8 7 4 ..

    private static final Check check = new Check();

    public static void main(String[] args) {
        newObject();
        tape();
        piers();
        forms();
        bounds();
        names();
        roomAndLacks();
        firstFault();
        pairs();
        sayings();
        rounds();
        twoPairs();
        allPairs();
        contracts();
        unsureSteps();
        heardOnes();
        debts();
        rings();
        two();
        gallery();
        dumbSeasons();
        seasonsAndChanges();
        stepsAndPayments();
        undoing();
        images();
        toldThings();
        troubles();
        check.end();
    }

    private static void due(String call, long got, long want) {
        check.due(call, got, want);
    }

    private static void due(String call, boolean got, boolean want) {
        check.due(call, got, want);
    }

    private static void refused(FigureKnee x, String call, long got, long want, int number) {
        check.due(call, got, want);
        check.due("trouble() behind " + call, x.trouble(), number);
    }

    private static void refused(FigureKnee x, String call, boolean got, int number) {
        refused(x, call, got ? 1 : 0, 0, number);
    }

    private static void fault(String text, int number, int place) {
        FigureKnee x = Check.of(FOUR);
        Check.feed(x, text);
        due("pier of " + text, x.pier(text.length()), -1);
        due("fault() of " + text, x.fault(), number);
        due("where() of " + text, x.where(), place);
        due("trouble() of " + text, x.trouble(), 4);
        due("the pier stays", x.size(2), 4);
    }

    /** A text whose FAULT is at the sign ! (which isn't fed). */
    private static void faultAt(String text, int number) {
        int place = text.indexOf('!');
        fault(text.substring(0, place) + text.substring(place + 1), number, place);
    }

    private static void good(String text, int pairs) {
        FigureKnee x = new FigureKnee();
        due("pier of " + text, Check.pier(x, text), pairs);
        due("fault() of " + text, x.fault(), 0);
        due("trouble() of " + text, x.trouble(), 0);
        due("where() of " + text, x.where(), -1);
    }

    private static void newObject() {
        check.promise(1);
        FigureKnee x = new FigureKnee();
        for (int what = 0; what <= 10; what++) {
            due("size(" + what + ")", x.size(what), 0);
        }
        due("trouble()", x.trouble(), 0);
        due("fault()", x.fault(), 0);
        due("where()", x.where(), -1);
        refused(x, "fits()", x.fits(), -1, 1);
        refused(x, "undo()", x.undo(), 6);
        refused(x, "back(0)", x.back(0), 1);
    }

    private static void tape() {
        check.promise(2);
        FigureKnee x = new FigureKnee();
        for (int i = 1; i <= 45; i++) {
            due("feed " + i, x.feed(0x20202020, 0x20202020, 0x20202020, 0x20202020, 0x20202020), 20 * i);
        }
        due("feed into a full tape", x.feed(0, 0, 0, 0, 0), -1);
        due("trouble() doesn't tell of feed", x.trouble(), 0);
        due("size(10)", x.size(10), 900);
        refused(x, "pier(901)", x.pier(901), -1, 2);
        due("size(10)", x.size(10), 900);
        refused(x, "pier(900)", x.pier(900), -1, 4);
        due("where() is the end", x.where(), 900);
        due("size(10)", x.size(10), 0);
        // "pier words 7 dumb 0;", the highest byte of each number first
        due("feed", x.feed(0x70696572, 0x20776f72, 0x64732037, 0x2064756d, 0x6220303b), 20);
        Check.feed(x, "pair a fading figure 7 step 0");
        due("pier(49)", x.pier(49), 1);
        due("size(0)", x.size(0), 7);
        // where() tells of the latest pier() still, whatever is fed
        Check.feed(x, "?");
        x.pier(1);
        Check.feed(x, "pier");
        due("trouble()", x.trouble(), 4);
        due("where()", x.where(), 0);
    }

    private static void piers() {
        check.promise(3);
        FigureKnee x = Check.of(FOUR);
        due("trouble()", x.trouble(), 0);
        x.season();
        x.change(1);
        x.image();
        Check.feed(x, "pier");
        refused(x, "pier(-1)", x.pier(-1), -1, 2);
        refused(x, "pier(21)", x.pier(21), -1, 2);
        due("size(10)", x.size(10), 20);
        due("where()", x.where(), -1);
        refused(x, "pier(4)", x.pier(4), -1, 4);
        due("size(10)", x.size(10), 0);
        due("size(7)", x.size(7), 1);
        due("size(8)", x.size(8), 2);
        due("size(9)", x.size(9), 1);
        due("pair(1, 1)", x.pair(1, 1), 8);
        due("pier again", Check.pier(x, "pier words 4 dumb 1;pair a leaping figure 4 step 2"), 1);
        due("size(7)", x.size(7), 0);
        due("size(8)", x.size(8), 0);
        due("size(9)", x.size(9), 0);
        due("size(3)", x.size(3), 0);
        due("size(4)", x.size(4), 0);
        due("size(5)", x.size(5), 0);
        due("size(6)", x.size(6), 0);
        due("pair(0, 4)", x.pair(0, 4), 0);
        due("pair(0, 1)", x.pair(0, 1), 4);
        refused(x, "pair(1, 0)", x.pair(1, 0), -1, 1);
        due("pier behind trouble", Check.pier(x, FOUR), 4);
        due("trouble()", x.trouble(), 0);
        // nothing of a pier is left, however many came ahead of it
        Check.pier(x, FOUR);
        Check.pier(x, FOUR);
        due("pier once more", Check.pier(x, "pier words 4 dumb 1;pair a leaping figure 4 step 2;pair b leaping figure 4 step 2"), 2);
        int[] sizes = {4, 1, 2, 0, 0, 0, 0, 0, 0, 0, 0};
        for (int what = 0; what <= 10; what++) {
            due("size(" + what + ")", x.size(what), sizes[what]);
        }
        due("owes(0, 1)", x.owes(0, 1), 0);
        due("pair(0, 4)", x.pair(0, 4), 0);
        refused(x, "pier(0)", x.pier(0), -1, 4);
        due("fault()", x.fault(), 1);
        due("where()", x.where(), 0);

        check.promise(4);
        refused(x, "pier(1)", x.pier(1), -1, 2);
        due("fault() is of the one ahead", x.fault(), 1);
        due("where()", x.where(), -1);
        x.season();
        due("fault()", x.fault(), 1);
        Check.pier(x, FOUR);
        due("fault()", x.fault(), 0);

        check.promise(5);
        Check.pier(x, HEAD + "pair a rising");
        due("where()", x.where(), 29);
        x.size(0);
        x.trouble();
        Check.led(x, 9);
        due("where()", x.where(), 29);
        x.says(0, 0);
        due("where()", x.where(), -1);
    }

    private static void forms() {
        check.promise(3);
        good("pier words 2 dumb 0;pair a creeping figure 0 step 0", 1);
        good("  pier  words99dumb100;  pair a fading figure099 step 020  ", 1);
        good("pier words 002 dumb 000 ; pair figure swinging figure 2 step 0", 1);
        good(HEAD + "pair abcdefgh leaping figure 0 step 0;contract abcdefgh every 1", 1);
        good(HEAD + "pair every leaping figure 0 step 0;pair season leaping figure 0 step 0;"
            + "contract every every 1;heard season season 1 figure 0", 2);
        good(FOUR, 4);
        good(HEAD + "pair za leaping figure 0 step 0;pair az leaping figure 0 step 0;contract za every 1", 2);
        faultAt("!bier words 2 dumb 0", 1);
        faultAt("pier !xords 2", 1);
        faultAt(HEAD + "!bair a", 1);
        faultAt(HEAD + "!pairs a", 1);
        faultAt(HEAD + "pair a !ceeping", 1);
        faultAt("!", 1);
        faultAt("   !", 1);
        faultAt("!foo", 1);
        faultAt("!;", 1);
        faultAt("!7", 1);
        faultAt("!Pier words 2 dumb 0", 1);
        faultAt("!pierwords 2 dumb 0", 1);
        faultAt("pier!", 1);
        faultAt("pier  !", 1);
        faultAt("pier !word 3", 1);
        faultAt("pier words !;", 1);
        faultAt("pier words !1234 dumb 0", 1);
        faultAt("pier words 10 !dum 0", 1);
        faultAt("pier words 10 dumb!", 1);
        faultAt("pier words 10 dumb 0!,", 1);
        faultAt("pier words 10 dumb 0;!", 1);
        faultAt("pier words 10 dumb 0 ; !", 1);
        faultAt("pier words 10 dumb 0 !0;", 1);
        faultAt("pier words 10 dumb 0 !pair a", 1);
        faultAt(HEAD + "!;pair a creeping figure 0 step 0", 1);
        faultAt(HEAD + "!figure", 1);
        faultAt(HEAD + "pair !", 1);
        faultAt(HEAD + "pair !abcdefghi creeping figure 0 step 0", 1);
        faultAt(HEAD + "pair !12", 1);
        faultAt(HEAD + "pair !;", 1);
        faultAt(HEAD + "pair !heard", 1);
        faultAt(HEAD + "pair !pair", 1);
        faultAt(HEAD + "pair a !step", 1);
        faultAt(HEAD + "pair a !3", 1);
        faultAt(HEAD + "pair a fading !step 3", 1);
        faultAt(HEAD + "pair a fading figure !a", 1);
        faultAt(HEAD + "pair a fading figure 3 !figure 3", 1);
        faultAt(HEAD + "pair a fading figure 3 step!", 1);
        faultAt(HEAD + "pair a fading figure 3 step 3 !pair b", 1);
        faultAt(HEAD + "pair a fading figure 3 step 3!\n;", 1);
        faultAt(HEAD + "pair a fading figure 3 step 3;!\u00e9", 1);
        faultAt(HEAD + "pair a fading figure 3 step 3;contract !contract", 1);
        faultAt(HEAD + "pair a fading figure 3 step 3;contract a !3", 1);
        faultAt(HEAD + "pair a fading figure 3 step 3;contract a every !every", 1);
        faultAt(HEAD + "pair a fading figure 3 step 3;debt a !4", 1);
        faultAt(HEAD + "pair a fading figure 3 step 3;unsure a !a", 1);
        faultAt(HEAD + "pair a fading figure 3 step 3;unsure !pier 2", 1);
        faultAt(HEAD + "pair a fading figure 3 step 3;heard a !figure", 1);
        faultAt(HEAD + "pair a fading figure 3 step 3;heard a season 4 !4", 1);
        faultAt(HEAD + "pair a fading figure 3 step 3;heard a season 4 figure!", 1);
    }

    private static void bounds() {
        check.promise(3);
        String one = HEAD + "pair a fading figure 3 step 3;pair b fading figure 3 step 3;";
        faultAt("pier words !0", 4);
        faultAt("pier words !1 dumb", 4);
        faultAt("pier words !100", 4);
        faultAt("pier words 99 dumb !101", 4);
        faultAt(HEAD + "pair a fading figure !11", 4);
        faultAt(HEAD + "pair a fading figure 10 step !21", 4);
        faultAt(one + "contract a every !0", 4);
        faultAt(one + "contract a every !10", 4);
        faultAt(one + "debt a b !0", 4);
        faultAt(one + "debt a b !100", 4);
        faultAt(one + "unsure a !21", 4);
        faultAt(one + "heard a season !0", 4);
        faultAt(one + "heard a season !31", 4);
        faultAt(one + "heard a season 30 figure !11", 4);
        good(one + "contract a every 9;debt a b 99;debt b a 1;unsure a 20;unsure b 0;"
            + "heard a season 30 figure 10;heard a season 1 figure 0;heard b season 30 figure 0", 2);
    }

    private static void names() {
        check.promise(3);
        String two = HEAD + "pair a fading figure 3 step 3;pair b fading figure 3 step 3;";
        faultAt(two + "pair !a", 3);
        faultAt(two + "contract !c", 2);
        faultAt(two + "contract !ab", 2);
        faultAt(two + "debt !c b 3", 2);
        faultAt(two + "debt a !c 3", 2);
        faultAt(two + "unsure !c 3", 2);
        faultAt(two + "heard !c season 3", 2);
        faultAt(HEAD + "contract !a every 3;pair a fading figure 3 step 3", 2);
        faultAt(two + "contract b every 3;contract !b", 3);
        faultAt(two + "unsure b 3;unsure !b 4", 3);
        faultAt(two + "debt b !b 4", 3);
        faultAt(two + "debt b a 4;debt b !a 4", 3);
        faultAt(two + "heard a season 3 figure 3;heard b season 3 figure 3;heard a season !3 figure 4", 3);
        faultAt(two + "!pier words 10 dumb 0", 3);
        faultAt(two + "pair c fading figure 3 step 3;pair !c", 3);
    }

    private static void roomAndLacks() {
        check.promise(3);
        StringBuilder five = new StringBuilder(HEAD);
        five.append("pair a fading figure 3 step 3");
        for (String name : new String[] {"b", "c", "d", "e"}) {
            five.append(";pair ").append(name).append(" fading figure 3 step 3");
        }
        good(five.toString(), 5);
        faultAt(five + ";!pair", 5);
        faultAt(five + ";!pair a", 5);
        String unsures = five + ";unsure a 1;unsure b 1;unsure c 1;unsure d 1";
        good(unsures, 5);
        faultAt(unsures + ";!unsure a 1", 5);
        good(unsures + ";contract a every 1;contract b every 1;contract c every 1;"
            + "contract d every 1;contract e every 1", 5);
        String debts = five + ";debt a b 1;debt a c 1;debt a d 1;debt a e 1;debt b a 1;"
            + "debt b c 1;debt b d 1;debt b e 1;debt c a 1;debt c b 1";
        good(debts, 5);
        faultAt(debts + ";!debt c d 1", 5);
        StringBuilder heards = new StringBuilder(five);
        for (int h = 1; h <= 8; h++) {
            heards.append(";heard a season ").append(h).append(" figure 0");
        }
        good(heards.toString(), 5);
        faultAt(heards + ";!heard a season 1", 5);
        faultAt("!pair a", 6);
        faultAt(" !contract a", 6);
        faultAt("!debt", 6);
        faultAt("!unsure", 6);
        faultAt("!heard ,", 6);
        faultAt("pier words 10 dumb 0!", 6);
        faultAt("pier words 10 dumb 0  !", 6);
    }

    private static void firstFault() {
        check.promise(3);
        faultAt("pier words !1 dumb 101;,", 4);
        faultAt(HEAD + "pair a !foo figure 11 step 99", 1);
        faultAt(HEAD + "contract !a every 0", 2);
        faultAt(HEAD + "pair a fading figure 3 step 3;pair !a", 3);
        faultAt(HEAD + "pair a fading figure 3 step 3;debt a !pair 0", 1);
    }

    private static void pairs() {
        check.promise(6);
        FigureKnee x = Check.of(FOUR);
        int[][] rows = {{0, 2, 8, 3, 3, 0}, {1, 1, 9, 0, 0, 0}, {2, 9, 1, 4, 0, 1}, {3, 3, 7, 1, 2, 0}};
        for (int p = 0; p < 4; p++) {
            for (int what = 0; what < 6; what++) {
                due("pair(" + p + ", " + what + ")", x.pair(p, what), rows[p][what]);
            }
        }
        refused(x, "pair(4, 0)", x.pair(4, 0), -1, 1);
        refused(x, "pair(-1, 0)", x.pair(-1, 0), -1, 1);
        refused(x, "pair(0, 6)", x.pair(0, 6), -1, 1);
        refused(x, "pair(0, -1)", x.pair(0, -1), -1, 1);
        x.step(0, 7);
        due("pair(0, 3)", x.pair(0, 3), 7);
        x.change(0);
        due("pair(0, 1)", x.pair(0, 1), 8);
        due("pair(0, 2)", x.pair(0, 2), 2);
        due("pair(0, 5)", x.pair(0, 5), 1);
        FigureKnee half = Check.of("pier words 10 dumb 0;pair a fading figure 5 step 0");
        due("pair(0, 5) of half", half.pair(0, 5), 0);
        FigureKnee odd = Check.of("pier words 11 dumb 0;pair a fading figure 6 step 0;pair b fading figure 5 step 0");
        due("pair(0, 5) of 6 by 11", odd.pair(0, 5), 1);
        due("pair(1, 5) of 5 by 11", odd.pair(1, 5), 0);
    }

    private static void row(FigureKnee x, int p, int... want) {
        for (int n = 0; n < want.length; n++) {
            due("says(" + p + ", " + n + ")", x.says(p, n), want[n]);
        }
    }

    private static void sayings() {
        check.promise(7);
        FigureKnee x = Check.of(FOUR);
        row(x, 0, 2, 5, 8, 0, 3, 6, 1, 4, 7, 0, 3);
        row(x, 1, 1, 2, 4, 8, 10, 10);
        row(x, 2, 9, 5, 1, 0, 0);
        row(x, 3, 3, 8, 7, 4, 3, 8, 7);
        due("says(0, 60)", x.says(0, 60), 1);
        refused(x, "says(0, 61)", x.says(0, 61), -1, 2);
        refused(x, "says(0, -1)", x.says(0, -1), -1, 2);
        refused(x, "says(4, 61)", x.says(4, 61), -1, 1);
        x.season();
        row(x, 0, 5, 8, 0, 3);
        row(x, 3, 8, 7, 4, 3);

        FigureKnee y = Check.of(FOUR);
        check.promise(8);
        due("saysAll(0, 0)", y.saysAll(0, 0), 0);
        due("saysAll(0, 1)", y.saysAll(0, 1), 5);
        due("saysAll(0, 4)", y.saysAll(0, 4), 16);
        due("saysAll(1, 60)", y.saysAll(1, 60), 14 + 57 * 10);
        refused(y, "saysAll(0, 61)", y.saysAll(0, 61), -1, 2);
        refused(y, "saysAll(-1, 0)", y.saysAll(-1, 0), -1, 1);

        check.promise(9);
        due("moreIn(0)", y.moreIn(0), 2);
        due("moreIn(2)", y.moreIn(2), 0);
        due("moreIn(3)", y.moreIn(3), 1);
        refused(y, "moreIn(4)", y.moreIn(4), -1, 1);
        FigureKnee slow = Check.of("pier words 99 dumb 0;pair a creeping figure 0 step 1;pair b fading figure 40 step 0;"
            + "pair c creeping figure 49 step 0;pair d creeping figure 1 step 1");
        due("moreIn(0)", slow.moreIn(0), 50);
        due("moreIn(1)", slow.moreIn(1), -2);
        due("moreIn(2)", slow.moreIn(2), -2);
        due("trouble()", slow.trouble(), 0);

        check.promise(10);
        due("moreTimes(0, 6)", y.moreTimes(0, 6), 2);
        due("moreTimes(2, 0)", y.moreTimes(2, 0), 0);
        due("moreTimes(2, 60)", y.moreTimes(2, 60), 0);
        due("moreTimes(1, 60)", y.moreTimes(1, 60), 58);
        refused(y, "moreTimes(0, 61)", y.moreTimes(0, 61), -1, 2);
        refused(y, "moreTimes(9, 61)", y.moreTimes(9, 61), -1, 1);
    }

    private static void rounds() {
        FigureKnee x = Check.of(FOUR);
        int[][] want = {{3, 6, 7, 0}, {4, 1, 10, 10}, {3, 1, 0, 0}, {0, 4, 8, 3}};
        for (int p = 0; p < 4; p++) {
            check.promise(11);
            due("settles(" + p + ")", x.settles(p), want[p][0]);
            check.promise(12);
            due("round(" + p + ")", x.round(p), want[p][1]);
            check.promise(14);
            due("roundMost(" + p + ")", x.roundMost(p), want[p][2]);
            check.promise(15);
            due("roundLeast(" + p + ")", x.roundLeast(p), want[p][3]);
        }
        check.promise(11);
        refused(x, "settles(4)", x.settles(4), -1, 1);
        check.promise(12);
        refused(x, "round(-1)", x.round(-1), -1, 1);
        check.promise(14);
        refused(x, "roundMost(4)", x.roundMost(4), -1, 1);
        check.promise(15);
        refused(x, "roundLeast(4)", x.roundLeast(4), -1, 1);
        // sayings alone count: a contract by which half of all words changes over every 7 is no round of 7
        FigureKnee half = Check.of("pier words 10 dumb 0;pair a creeping figure 5 step 0;contract a every 7;"
            + "pair b creeping figure 3 step 0;contract b every 9");
        check.promise(12);
        due("round(0)", half.round(0), 1);
        due("settles(0)", half.settles(0), 0);
        due("round(1)", half.round(1), 18);
        due("settles(1)", half.settles(1), 0);
        half.season();
        due("round(1)", half.round(1), 18);
        due("settles(1)", half.settles(1), 0);
        // 1 3 6 6 .. 6, changed over behind 9, 18 ..: 0 1 3 6 6 6 6 6 6, and so on: from 3 on
        FigureKnee leap = Check.of("pier words 6 dumb 0;pair a leaping figure 1 step 1;contract a every 9");
        check.promise(11);
        due("settles(0)", leap.settles(0), 3);
        due("round(0)", leap.round(0), 9);

        check.promise(14);
        due("roundMost(1)", x.roundMost(1), 10);
        due("roundMost(0)", x.roundMost(0), 7);
        due("roundMost(0)", leap.roundMost(0), 6);
        check.promise(15);
        due("roundLeast(1)", x.roundLeast(1), 10);
        due("roundLeast(0)", x.roundLeast(0), 0);
        due("roundLeast(0)", leap.roundLeast(0), 0);
        FigureKnee wide = Check.of("pier words 99 dumb 0;pair a creeping figure 99 step 0;contract a every 9");
        check.promise(12);
        due("round(0)", wide.round(0), 18);
        check.promise(13);
        for (int n : new int[] {0, 8, 18, 26, 36, 1800000008}) {
            due("saysLate(0, " + n + ")", wide.saysLate(0, n), 99);
            due("saysLate(0, " + (n + 9) + ")", wide.saysLate(0, n + 9), 0);
        }
        int[] leaps = {1, 3, 6, 6, 6, 6, 6, 6, 6, 0, 1, 3, 6, 6, 6, 6, 6, 6, 0, 1, 3};
        for (int n = 0; n < leaps.length; n++) {
            due("saysLate(0, " + n + ")", leap.saysLate(0, n), leaps[n]);
        }
        due("saysLate(0, 2000000000)", leap.saysLate(0, 2000000000), 3);

        int[] round = {0, 3, 6, 1, 4, 7};
        for (int n : new int[] {3, 4, 8, 9, 60, 1000, 999999999, 2000000000}) {
            due("saysLate(0, " + n + ")", x.saysLate(0, n), round[(n - 3) % 6]);
        }
        due("saysLate(0, 0)", x.saysLate(0, 0), 2);
        due("saysLate(0, 1)", x.saysLate(0, 1), 5);
        due("saysLate(1, 2000000000)", x.saysLate(1, 2000000000), 10);
        refused(x, "saysLate(0, 2000000001)", x.saysLate(0, 2000000001), -1, 2);
        refused(x, "saysLate(0, -1)", x.saysLate(0, -1), -1, 2);
        refused(x, "saysLate(4, -1)", x.saysLate(4, -1), -1, 1);

        check.promise(16);
        due("turnsAbout(0)", x.turnsAbout(0), 40);
        due("turnsAbout(1)", x.turnsAbout(1), 1);
        due("turnsAbout(2)", x.turnsAbout(2), 1);
        // duo: 3 8 7 4 again and again, from 0 to 60: 15 rounds of two turns
        due("turnsAbout(3)", x.turnsAbout(3), 30);
        refused(x, "turnsAbout(4)", x.turnsAbout(4), -1, 1);
        FigureKnee still = Check.of("pier words 9 dumb 0;pair a swinging figure 9 step 0;pair b creeping figure 9 step 0");
        due("turnsAbout(0)", still.turnsAbout(0), 60);
        due("turnsAbout(1)", still.turnsAbout(1), 0);
    }

    private static void twoPairs() {
        FigureKnee x = Check.of(FOUR);
        check.promise(17);
        due("alikeIn(0, 2)", x.alikeIn(0, 2), 1);
        due("alikeIn(2, 0)", x.alikeIn(2, 0), 1);
        due("alikeIn(0, 3)", x.alikeIn(0, 3), 4);
        due("alikeIn(1, 2)", x.alikeIn(1, 2), -2);
        due("trouble()", x.trouble(), 0);
        refused(x, "alikeIn(1, 1)", x.alikeIn(1, 1), -1, 1);
        refused(x, "alikeIn(1, 4)", x.alikeIn(1, 4), -1, 1);
        refused(x, "alikeIn(-1, 0)", x.alikeIn(-1, 0), -1, 1);
        FigureKnee late = Check.of("pier words 99 dumb 0;pair a creeping figure 0 step 1;pair b fading figure 60 step 0;"
            + "pair c fading figure 61 step 0;pair d creeping figure 0 step 0;pair e fading figure 59 step 0");
        due("alikeIn(0, 1)", late.alikeIn(0, 1), 60);
        due("alikeIn(0, 2)", late.alikeIn(0, 2), -2);
        due("alikeIn(0, 3)", late.alikeIn(0, 3), 0);

        check.promise(19);
        due("overtakes(0, 2)", x.overtakes(0, 2), 2);
        due("overtakes(2, 0)", x.overtakes(2, 0), 0);
        due("overtakes(1, 0)", x.overtakes(1, 0), 3);
        refused(x, "overtakes(1, 1)", x.overtakes(1, 1), -1, 1);
        refused(x, "overtakes(4, 1)", x.overtakes(4, 1), -1, 1);
        due("overtakes(0, 4)", late.overtakes(0, 4), 60);
        due("overtakes(0, 1)", late.overtakes(0, 1), -2);
        due("overtakes(0, 3)", late.overtakes(0, 3), 1);
        due("overtakes(3, 0)", late.overtakes(3, 0), -2);
    }

    private static void allPairs() {
        FigureKnee x = Check.of(FOUR);
        FigureKnee none = new FigureKnee();
        check.promise(18);
        due("loudest(0)", x.loudest(0), 2);
        due("loudest(1)", x.loudest(1), 3);
        due("loudest(2)", x.loudest(2), 0);
        due("loudest(60)", x.loudest(60), 1);
        refused(x, "loudest(61)", x.loudest(61), -1, 2);
        refused(none, "loudest(61)", none.loudest(61), -1, 1);
        FigureKnee alike = Check.of(HEAD + "pair a fading figure 1 step 0;pair b fading figure 2 step 0;pair c fading figure 2 step 0");
        due("loudest(5) of like ones", alike.loudest(5), 1);

        check.promise(20);
        due("widest(0)", x.widest(0), 12);
        due("widest(1)", x.widest(1), 13);
        due("widest(2)", x.widest(2), 2);
        due("widest(5)", x.widest(5), 12);
        due("widest of like ones", alike.widest(0), 1);
        refused(x, "widest(-1)", x.widest(-1), -1, 2);
        refused(none, "widest(0)", none.widest(0), -1, 1);
        FigureKnee one = Check.of(HEAD + "pair a fading figure 1 step 0");
        due("widest(0) of one", one.widest(0), -2);
        due("trouble()", one.trouble(), 0);
        FigureKnee same = Check.of(HEAD + "pair a fading figure 1 step 0;pair b fading figure 1 step 0;pair c fading figure 1 step 0");
        due("widest(0) of like ones", same.widest(0), 1);

        check.promise(21);
        due("sumAll(0)", x.sumAll(0), 15);
        due("sumAll(1)", x.sumAll(1), 20);
        due("sumAll(4)", x.sumAll(4), 16);
        refused(x, "sumAll(61)", x.sumAll(61), -1, 2);
        refused(none, "sumAll(0)", none.sumAll(0), -1, 1);

        check.promise(22);
        due("masters(0)", x.masters(0), 4);
        due("masters(2)", x.masters(2), 9);
        due("masters(3)", x.masters(3), 2);
        due("masters(5)", x.masters(5), 11);
        refused(x, "masters(61)", x.masters(61), -1, 2);
        refused(none, "masters(0)", none.masters(0), -1, 1);
    }

    private static void contracts() {
        FigureKnee x = Check.of(FOUR);
        check.promise(23);
        due("everyFor(0, 3)", x.everyFor(0, 3), 0);
        // old behind two seasons: none 1; 1: 9 5>5 1>9; 2: 9 5 1>9; the least such is 1
        due("everyFor(2, 2)", x.everyFor(2, 2), 1);
        due("everyFor(0, 0)", x.everyFor(0, 0), 0);
        // fading from 4 to 0, and changed over at the very last
        due("everyFor(0, 9)", Check.of("pier words 4 dumb 0;pair a fading figure 4 step 1").everyFor(0, 9), 9);
        refused(x, "everyFor(0, 61)", x.everyFor(0, 61), -1, 2);
        refused(x, "everyFor(4, 0)", x.everyFor(4, 0), -1, 1);
        check.promise(24);
        due("everySays(0, 3)", x.everySays(0, 3), 10);
        due("everySays(2, 2)", x.everySays(2, 2), 9);
        due("everySays(0, 0)", x.everySays(0, 0), 2);
        refused(x, "everySays(0, -1)", x.everySays(0, -1), -1, 2);
        refused(x, "everySays(-1, -1)", x.everySays(-1, -1), -1, 1);
        check.promise(25);
        due("everyNever(0)", x.everyNever(0), 1);
        due("everyNever(1)", x.everyNever(1), -2);
        due("everyNever(2)", x.everyNever(2), 0);
        // 0 1 3 6, changed over 0, and so on: every 3; by every 2 the 3 changes over to 3 and leaps to 6
        due("everyNever(0)", Check.of("pier words 6 dumb 0;pair a leaping figure 0 step 1").everyNever(0), 3);
        refused(x, "everyNever(4)", x.everyNever(4), -1, 1);
        // seasons are numbered from the beginning, not from NOW
        FigureKnee later = Check.of(HEAD + "pair a creeping figure 1 step 0");
        later.season();
        due("everyFor(0, 2)", later.everyFor(0, 2), 2);
        due("everyFor(0, 1)", later.everyFor(0, 1), 1);
        later.season();
        due("everyFor(0, 1)", later.everyFor(0, 1), 1);
        due("everyFor(0, 2)", later.everyFor(0, 2), 2);
        due("everyFor(0, 3)", later.everyFor(0, 3), 1);

        check.promise(26);
        due("stepFor(0, 2)", x.stepFor(0, 2), 2);
        due("stepFor(2, 1)", x.stepFor(2, 1), 0);
        due("stepFor(1, 1)", x.stepFor(1, 1), 4);
        due("stepFor(0, 0)", x.stepFor(0, 0), -2);
        due("stepFor(2, 0)", x.stepFor(2, 0), 0);
        // coker behind three seasons: 10 less (2 and three steps) is more than 5 with a step of 0
        due("stepFor(0, 3)", x.stepFor(0, 3), 0);
        refused(x, "stepFor(0, 61)", x.stepFor(0, 61), -1, 2);
        refused(x, "stepFor(4, 61)", x.stepFor(4, 61), -1, 1);
        FigureKnee far = Check.of("pier words 41 dumb 0;pair a creeping figure 0 step 0;pair b creeping figure 1 step 0");
        due("stepFor(0, 1)", far.stepFor(0, 1), -2);
        due("stepFor(1, 1)", far.stepFor(1, 1), 20);
    }

    private static final String STEPS = HEAD
        + "pair a creeping figure 0 step 1;pair b creeping figure 0 step 2;pair c fading figure 10 step 1;";

    private static void unsureSteps() {
        FigureKnee none = new FigureKnee();
        FigureKnee free = Check.of(STEPS + "unsure c 1;unsure a 3;heard b season 2 figure 4");
        FigureKnee sure = Check.of(STEPS + "unsure a 3;unsure c 1;heard a season 1 figure 3;heard b season 2 figure 4");
        FigureKnee no = Check.of(STEPS + "unsure a 3;heard b season 2 figure 5");
        FigureKnee plain = Check.of(STEPS + "heard b season 2 figure 4");
        check.promise(27);
        due("fits()", free.fits(), 4);
        due("fits()", sure.fits(), 2);
        due("fits()", no.fits(), 0);
        due("trouble()", no.trouble(), 0);
        due("fits()", plain.fits(), 1);
        due("fits()", Check.of(STEPS + "unsure b 3;heard a season 1 figure 5").fits(), 0);
        due("fits()", Check.of(STEPS + "unsure a 3;heard a season 1 figure 3;heard a season 2 figure 5").fits(), 0);
        FigureKnee only = Check.of(STEPS + "unsure a 3;heard a season 1 figure 3");
        due("fits()", only.fits(), 1);
        check.promise(29);
        due("could()", only.could(), 1);
        check.promise(30);
        due("surely()", only.surely(), 1);
        check.promise(27);
        due("fits()", Check.of(FOUR).fits(), 1);
        refused(none, "fits()", none.fits(), -1, 1);
        check.promise(28);
        for (int i = 0; i < 4; i++) {
            due("fitAt(" + i + ")", free.fitAt(i), i);
        }
        refused(free, "fitAt(4)", free.fitAt(4), -1, 1);
        refused(free, "fitAt(-1)", free.fitAt(-1), -1, 1);
        due("fitAt(0)", sure.fitAt(0), 1);
        due("fitAt(1)", sure.fitAt(1), 3);
        due("fitAt(0)", plain.fitAt(0), 0);
        refused(no, "fitAt(0)", no.fitAt(0), -1, 1);
        refused(none, "fitAt(0)", none.fitAt(0), -1, 1);
        check.promise(29);
        due("could()", free.could(), 3);
        due("could()", sure.could(), 3);
        due("could()", no.could(), 0);
        due("could()", Check.of(FOUR).could(), 0);
        refused(none, "could()", none.could(), -1, 1);
        check.promise(30);
        due("surely()", free.surely(), 0);
        due("surely()", sure.surely(), 1);
        due("surely()", no.surely(), 0);
        refused(none, "surely()", none.surely(), -1, 1);
        check.promise(31);
        due("ask()", free.ask(), 0);
        due("ask()", sure.ask(), 1);
        due("ask()", no.ask(), -2);
        due("ask()", plain.ask(), -2);
        due("trouble()", plain.trouble(), 0);
        due("ask()", Check.of(FOUR).ask(), 0);
        refused(none, "ask()", none.ask(), -1, 1);
        check.promise(32);
        due("askLeaves()", free.askLeaves(), 2);
        due("askLeaves()", sure.askLeaves(), 1);
        due("askLeaves()", no.askLeaves(), -2);
        due("askLeaves()", plain.askLeaves(), -2);
        due("askLeaves()", Check.of(FOUR).askLeaves(), 1);
        refused(none, "askLeaves()", none.askLeaves(), -1, 1);
        // what is NOW doesn't matter: fits go from the beginning on, by steps as told
        sure.season();
        sure.step(1, 9);
        sure.change(1);
        due("fits()", sure.fits(), 2);
    }

    private static void heardOnes() {
        FigureKnee none = new FigureKnee();
        check.promise(33);
        FigureKnee good = Check.of(FOUR);
        due("judge()", good.judge(), -2);
        FigureKnee wrong = Check.of(STEPS + "unsure a 3;heard b season 2 figure 4;heard a season 1 figure 3;"
            + "heard c season 30 figure 2;heard a season 2 figure 0");
        due("judge()", wrong.judge(), 1);
        FigureKnee first = Check.of(STEPS + "heard b season 2 figure 1");
        due("judge()", first.judge(), 0);
        refused(none, "judge()", none.judge(), -1, 1);
        check.promise(34);
        due("third(0)", wrong.third(0), 2 + 2);
        due("third(1)", wrong.third(1), 0);
        due("third(1)", first.third(1), 3);
        due("third(2)", wrong.third(2), 2);
        refused(wrong, "third(3)", wrong.third(3), -1, 1);
        refused(none, "third(0)", none.third(0), -1, 1);
        wrong.step(0, 9);
        wrong.season();
        due("third(0)", wrong.third(0), 4);
        due("judge()", wrong.judge(), 1);
    }

    private static String five(String debts) {
        StringBuilder text = new StringBuilder("pier words 9 dumb 0");
        for (String name : new String[] {"a", "b", "c", "d", "e"}) {
            text.append(";pair ").append(name).append(" creeping figure 0 step 0");
        }
        for (int i = 0; i + 2 < debts.length(); i += 3) {
            text.append(";debt ").append(debts.charAt(i)).append(' ').append(debts.charAt(i + 1));
            text.append(' ').append(debts.charAt(i + 2));
        }
        return text.toString();
    }

    private static void debts() {
        FigureKnee x = Check.of(FOUR);
        FigureKnee none = new FigureKnee();
        check.promise(35);
        due("owes(0, 1)", x.owes(0, 1), 5);
        due("owes(1, 0)", x.owes(1, 0), 0);
        due("owes(3, 0)", x.owes(3, 0), 4);
        refused(x, "owes(1, 1)", x.owes(1, 1), -1, 1);
        refused(x, "owes(1, 4)", x.owes(1, 4), -1, 1);
        refused(x, "owes(-1, 1)", x.owes(-1, 1), -1, 1);
        check.promise(36);
        int[] nets = {1, 0, 3, -4};
        for (int p = 0; p < 4; p++) {
            due("net(" + p + ")", x.net(p), nets[p]);
        }
        refused(x, "net(4)", x.net(4), -1000000, 1);
        check.promise(37);
        due("due()", Check.of(FOUR).due(), 4);
        due("due()", x.due(), 4);
        refused(none, "due()", none.due(), -1, 1);
        check.promise(38);
        due("creditor()", x.creditor(), 2);
        refused(none, "creditor()", none.creditor(), -1, 1);
        due("creditor() of like ones", Check.of(five("ab3cd3")).creditor(), 1);
        check.promise(39);
        due("payments()", x.payments(), 2);
        refused(none, "payments()", none.payments(), -1, 1);
        due("payments()", Check.of(five("")).payments(), 0);
        due("payments()", Check.of(five("ab3ba3")).payments(), 0);
        due("payments()", Check.of(five("ab3cd3")).payments(), 2);
        due("payments()", Check.of(five("ab3cd4")).payments(), 2);
        due("payments()", Check.of(five("ab3bc4cd5de6")).payments(), 4);
        due("payments()", Check.of(five("ab1ac2ad3ae4")).payments(), 4);
        // groups of three and of two
        due("payments()", Check.of(five("ab2ac3de1")).payments(), 3);
        due("payments()", Check.of(five("ad2bc1ec2")).payments(), 3);
        // nets -3 -2 3 2 0: two groups of two
        due("payments()", Check.of(five("ac2ad1bc1bd1")).payments(), 2);
        x.pay(3, 0, 4);
        check.promise(35);
        due("owes(3, 0)", x.owes(3, 0), 0);
        check.promise(36);
        due("net(0)", x.net(0), -3);
        due("net(3)", x.net(3), 0);
        check.promise(39);
        due("payments()", x.payments(), 1);
        check.promise(37);
        due("due()", x.due(), 3);
    }

    private static void rings() {
        FigureKnee x = Check.of(FOUR);
        check.promise(40);
        due("ring(0)", x.ring(0), 3);
        due("ring(1)", x.ring(1), 3);
        due("ring(3)", x.ring(3), -2);
        due("trouble()", x.trouble(), 0);
        refused(x, "ring(4)", x.ring(4), -1, 1);
        check.promise(41);
        due("ringAt(1, 0)", x.ringAt(1, 0), 1);
        due("ringAt(1, 1)", x.ringAt(1, 1), 2);
        due("ringAt(1, 2)", x.ringAt(1, 2), 0);
        refused(x, "ringAt(1, 3)", x.ringAt(1, 3), -1, 1);
        refused(x, "ringAt(1, -1)", x.ringAt(1, -1), -1, 1);
        refused(x, "ringAt(3, 0)", x.ringAt(3, 0), -1, 1);
        refused(x, "ringAt(4, 0)", x.ringAt(4, 0), -1, 1);
        // a debt that was paid is none
        x.pay(2, 0, 1);
        due("ring(0)", x.ring(0), 3);
        x.pay(2, 0, 1);
        due("ring(0)", x.ring(0), -2);

        FigureKnee long5 = Check.of(five("ac1cb1be1ed1da1"));
        check.promise(40);
        due("ring(0)", long5.ring(0), 5);
        int[] row = {0, 2, 1, 4, 3};
        check.promise(41);
        for (int i = 0; i < 5; i++) {
            due("ringAt(0, " + i + ")", long5.ringAt(0, i), row[i]);
        }
        // a>d>a is shorter than a>b>c>a; of a>b>c>a and a>b>d>a for b the first row, b c a
        FigureKnee many = Check.of(five("ab1bc1ca1bd1da1ad1ec1"));
        check.promise(40);
        due("ring(0)", many.ring(0), 2);
        due("ring(1)", many.ring(1), 3);
        due("ring(4)", many.ring(4), -2);
        check.promise(41);
        due("ringAt(0, 1)", many.ringAt(0, 1), 3);
        due("ringAt(1, 1)", many.ringAt(1, 1), 2);
        due("ringAt(1, 2)", many.ringAt(1, 2), 0);
        // b doesn't owe home, so that the first row goes by c
        FigureKnee home = Check.of(five("ab1ac1ad1bd1ce1ea1de1"));
        due("ring(0)", home.ring(0), 3);
        due("ringAt(0, 1)", home.ringAt(0, 1), 2);
        due("ringAt(0, 2)", home.ringAt(0, 2), 4);
    }

    private static void two() {
        FigureKnee x = Check.of(FOUR);
        FigureKnee none = new FigureKnee();
        check.promise(42);
        for (int breath = 0; breath <= 9; breath++) {
            due("both talk", x.talks(breath, true, true, false), 1 - breath);
            due("both talk", x.talks(breath, true, true, true), 1 - breath);
            due("the man alone", x.talks(breath, true, false, false), 4);
            due("the man alone, of the figure", x.talks(breath, true, false, true), -1);
            due("the figure alone", x.talks(breath, false, true, false), -1);
            due("the figure alone, of the figure", x.talks(breath, false, true, true), 4);
            due("neither", x.talks(breath, false, false, false), 0);
            due("neither", x.talks(breath, false, false, true), 0);
        }
        refused(x, "talks(10, ..)", x.talks(10, true, true, true), -100, 2);
        refused(x, "talks(-1, ..)", x.talks(-1, true, true, true), -100, 2);
        refused(none, "talks(10, ..)", none.talks(10, true, true, true), -100, 1);
        int[] rests = {1, 1, 3, 2, 2, 2, 2, 2, 2, 2};
        int[] first = {11, 11, 1, 1, 1, 1, 1, 1, 1, 1};
        for (int breath = 0; breath <= 9; breath++) {
            check.promise(43);
            due("rests(" + breath + ")", x.rests(breath), rests[breath]);
            check.promise(44);
            due("rest(" + breath + ")", x.rest(breath), first[breath]);
        }
        check.promise(43);
        refused(x, "rests(10)", x.rests(10), -1, 2);
        refused(none, "rests(10)", none.rests(10), -1, 1);
        check.promise(44);
        refused(x, "rest(-1)", x.rest(-1), -1, 2);
        refused(none, "rest(0)", none.rest(0), -1, 1);
    }

    private static void ratio(String call, long upper, long lower, long wantUpper, long wantLower) {
        due(call + ", upper", upper, wantUpper);
        due(call + ", lower", lower, wantLower);
    }

    private static void gallery() {
        FigureKnee x = Check.of(FOUR);
        FigureKnee none = new FigureKnee();
        check.promise(45);
        long[] twoCouples = {7, 5, 3, 1};
        for (int p = 0; p < 4; p++) {
            ratio("verdictOdds(" + p + ", 0)", x.verdictOdds(p, 0, false), x.verdictOdds(p, 0, true), p == 0 ? 1 : 0, 1);
            ratio("verdictOdds(" + p + ", 1)", x.verdictOdds(p, 1, false), x.verdictOdds(p, 1, true), 1, 4);
            ratio("verdictOdds(" + p + ", 2)", x.verdictOdds(p, 2, false), x.verdictOdds(p, 2, true), twoCouples[p], 16);
        }
        FigureKnee pair = Check.of(HEAD + "pair a fading figure 0 step 0;pair b fading figure 0 step 0");
        // of 16 outcomes b is looked at more in 4 and 1
        ratio("verdictOdds(1, 4)", pair.verdictOdds(1, 4, false), pair.verdictOdds(1, 4, true), 5, 16);
        ratio("verdictOdds(0, 3)", pair.verdictOdds(0, 3, false), pair.verdictOdds(0, 3, true), 1, 2);
        refused(x, "verdictOdds(0, 5)", x.verdictOdds(0, 5, false), -1, 2);
        refused(x, "verdictOdds(0, -1)", x.verdictOdds(0, -1, true), -1, 2);
        refused(x, "verdictOdds(4, 5)", x.verdictOdds(4, 5, false), -1, 1);
        // draws from 0: 74, 5624, 28652, 51790; by four: 2, 0, 0, 2
        check.promise(46);
        due("looks(0, 0, 3)", x.looks(0, 0, 3), 2);
        due("looks(2, 0, 3)", x.looks(2, 0, 3), 1);
        due("looks(1, 0, 3)", x.looks(1, 0, 3), 0);
        due("looks(2, 0, 4)", x.looks(2, 0, 4), 2);
        due("looks(2, 0, 0)", x.looks(2, 0, 0), 0);
        // mod 65537, 65536 is -1, and 75 times -1 and 74 is -1 again; 65536 by four leaves 0
        due("looks(0, 65536, 200)", x.looks(0, 65536, 200), 200);
        refused(x, "looks(0, 65537, 0)", x.looks(0, 65537, 0), -1, 2);
        refused(x, "looks(0, -1, 0)", x.looks(0, -1, 0), -1, 2);
        refused(x, "looks(0, 0, 201)", x.looks(0, 0, 201), -1, 2);
        refused(x, "looks(0, 0, -1)", x.looks(0, 0, -1), -1, 2);
        refused(x, "looks(4, 0, -1)", x.looks(4, 0, -1), -1, 1);
        check.promise(47);
        due("verdict(0, 0)", x.verdict(0, 0), 0);
        due("verdict(0, 1)", x.verdict(0, 1), 2);
        due("verdict(0, 2)", x.verdict(0, 2), 0);
        due("verdict(0, 4)", x.verdict(0, 4), 0);
        refused(x, "verdict(65537, 0)", x.verdict(65537, 0), -1, 2);
        refused(x, "verdict(0, 201)", x.verdict(0, 201), -1, 2);
        refused(none, "verdict(0, 201)", none.verdict(0, 201), -1, 1);
    }

    private static void dumbSeasons() {
        FigureKnee x = Check.of(FOUR);
        check.promise(48);
        ratio("odds(1, 1, 2)", x.odds(1, 1, 2, false), x.odds(1, 1, 2, true), 1, 2);
        // coker behind three seasons: 8, 5, 2, 0 with 1, 3, 3, 1 of 8
        ratio("odds(0, 3, 5)", x.odds(0, 3, 5, false), x.odds(0, 3, 5, true), 1, 2);
        ratio("odds(0, 3, 6)", x.odds(0, 3, 6, false), x.odds(0, 3, 6, true), 1, 8);
        ratio("odds(0, 3, 9)", x.odds(0, 3, 9, false), x.odds(0, 3, 9, true), 0, 1);
        ratio("odds(0, 3, 0)", x.odds(0, 3, 0, false), x.odds(0, 3, 0, true), 1, 1);
        ratio("odds(0, 0, 2)", x.odds(0, 0, 2, false), x.odds(0, 0, 2, true), 1, 1);
        ratio("odds(0, 0, 3)", x.odds(0, 0, 3, false), x.odds(0, 0, 3, true), 0, 1);
        ratio("odds(0, 5, 99)", x.odds(0, 5, 99, false), x.odds(0, 5, 99, true), 0, 1);
        refused(x, "odds(0, 6, 0)", x.odds(0, 6, 0, false), -1, 2);
        refused(x, "odds(0, 0, 100)", x.odds(0, 0, 100, false), -1, 2);
        refused(x, "odds(0, 0, -1)", x.odds(0, 0, -1, false), -1, 2);
        refused(x, "odds(4, 0, -1)", x.odds(4, 0, -1, false), -1, 1);
        FigureKnee rare = Check.of("pier words 10 dumb 3;pair a creeping figure 0 step 1");
        // all five followed: 97 to the fifth by 100 to the fifth, in lowest terms as they are
        ratio("odds(0, 5, 5)", rare.odds(0, 5, 5, false), rare.odds(0, 5, 5, true), 8587340257L, 10000000000L);
        check.promise(49);
        ratio("mean(0, 3)", x.mean(0, 3, false), x.mean(0, 3, true), 29, 8);
        ratio("mean(1, 1)", x.mean(1, 1, false), x.mean(1, 1, true), 3, 2);
        ratio("mean(2, 0)", x.mean(2, 0, false), x.mean(2, 0, true), 9, 1);
        ratio("mean(0, 5)", rare.mean(0, 5, false), rare.mean(0, 5, true), 97, 20);
        refused(x, "mean(0, 6)", x.mean(0, 6, false), -1, 2);
        refused(x, "mean(-1, 6)", x.mean(-1, 6, true), -1, 1);
        FigureKnee mute = Check.of("pier words 10 dumb 100;pair a creeping figure 3 step 1;contract a every 2;pair b fading figure 0 step 0");
        ratio("mean(0, 5)", mute.mean(0, 5, false), mute.mean(0, 5, true), 3, 1);
        ratio("mean(0, 2)", mute.mean(0, 2, false), mute.mean(0, 2, true), 7, 1);
        ratio("mean(1, 5)", mute.mean(1, 5, false), mute.mean(1, 5, true), 0, 1);
        check.promise(50);
        // draws from 0: 74, 5624, 28652, 51790; mod 100 by 50: followed, dumb, followed, followed
        int[] wife = {1, 2, 2, 4, 8};
        for (int n = 0; n <= 4; n++) {
            due("drawn(1, 0, " + n + ")", x.drawn(1, 0, n), wife[n]);
        }
        due("drawn(0, 0, 1)", Check.of("pier words 9 dumb 74;pair a creeping figure 3 step 1").drawn(0, 0, 1), 4);
        due("drawn(0, 0, 1)", Check.of("pier words 9 dumb 75;pair a creeping figure 3 step 1").drawn(0, 0, 1), 3);
        // coker: 2, 5, dumb 5, 8 and changed over 2
        due("drawn(0, 0, 3)", x.drawn(0, 0, 3), 2);
        due("drawn(0, 0, 3) of dumb ones", mute.drawn(0, 0, 3), 7);
        refused(x, "drawn(0, 65537, 0)", x.drawn(0, 65537, 0), -1, 2);
        refused(x, "drawn(0, 0, 61)", x.drawn(0, 0, 61), -1, 2);
        refused(x, "drawn(4, 0, 61)", x.drawn(4, 0, 61), -1, 1);
    }

    private static void seasonsAndChanges() {
        FigureKnee x = Check.of(FOUR);
        FigureKnee none = new FigureKnee();
        check.promise(51);
        int[] masters = {8, 9, 2, 2, 11};
        int[][] figures = {{5, 2, 5, 8}, {8, 4, 1, 7}, {0, 8, 0, 4}, {3, 10, 0, 3}, {6, 10, 0, 8}};
        for (int s = 0; s < 5; s++) {
            due("season() " + (s + 1), x.season(), masters[s]);
            due("size(7)", x.size(7), s + 1);
            for (int p = 0; p < 4; p++) {
                due("pair(" + p + ", 1)", x.pair(p, 1), figures[s][p]);
            }
        }
        refused(none, "season()", none.season(), -1, 1);
        // beyond the calls that an object is used for, but the document tells this edge
        FigureKnee old = Check.of(HEAD + "pair a swinging figure 9 step 0");
        for (int s = 1; s <= 999; s++) {
            old.season();
        }
        due("trouble()", old.trouble(), 0);
        refused(old, "season() 1000", old.season(), -1, 3);
        due("size(7)", old.size(7), 999);

        check.promise(52);
        FigureKnee y = Check.of(FOUR);
        due("change(0)", y.change(0), 8);
        due("trouble()", y.trouble(), 0);
        due("change(0)", y.change(0), 2);
        due("change(2)", y.change(2), 1);
        y.season();
        refused(y, "change(0) of half", y.change(0), -1, 5);
        due("size(8)", y.size(8), 4);
        refused(y, "change(4)", y.change(4), -1, 1);
        refused(none, "change(0)", none.change(0), -1, 1);
    }

    private static void stepsAndPayments() {
        FigureKnee x = Check.of(FOUR);
        FigureKnee none = new FigureKnee();
        check.promise(53);
        due("step(0, 20)", x.step(0, 20), true);
        due("trouble()", x.trouble(), 0);
        due("pair(0, 3)", x.pair(0, 3), 20);
        due("says(0, 1)", x.says(0, 1), 10);
        refused(x, "step(0, 20)", x.step(0, 20), 5);
        refused(x, "step(0, 21)", x.step(0, 21), 2);
        refused(x, "step(0, -1)", x.step(0, -1), 2);
        refused(x, "step(4, -1)", x.step(4, -1), 1);
        refused(none, "step(0, 0)", none.step(0, 0), 1);
        due("step(0, 0)", x.step(0, 0), true);
        due("size(8)", x.size(8), 2);
        check.promise(54);
        due("pay(0, 1, 2)", x.pay(0, 1, 2), 3);
        refused(x, "pay(0, 1, 4)", x.pay(0, 1, 4), -1, 5);
        due("pay(0, 1, 3)", x.pay(0, 1, 3), 0);
        due("trouble()", x.trouble(), 0);
        refused(x, "pay(0, 1, 1)", x.pay(0, 1, 1), -1, 5);
        refused(x, "pay(1, 0, 1)", x.pay(1, 0, 1), -1, 5);
        refused(x, "pay(0, 1, 0)", x.pay(0, 1, 0), -1, 2);
        refused(x, "pay(0, 1, 100)", x.pay(0, 1, 100), -1, 2);
        refused(x, "pay(0, 0, 0)", x.pay(0, 0, 0), -1, 1);
        refused(x, "pay(0, 4, 1)", x.pay(0, 4, 1), -1, 1);
        refused(none, "pay(0, 1, 1)", none.pay(0, 1, 1), -1, 1);
        FigureKnee much = Check.of(five("").concat(";debt e d 99"));
        due("pay(4, 3, 99)", much.pay(4, 3, 99), 0);
        due("undo()", much.undo(), true);
        due("owes(4, 3)", much.owes(4, 3), 99);
        due("size(4) as told", x.size(4), 4);
        due("size(8)", x.size(8), 4);
    }

    private static void undoing() {
        check.promise(55);
        FigureKnee x = Check.of(FOUR);
        refused(x, "undo()", x.undo(), 6);
        x.season();
        x.change(1);
        x.step(2, 7);
        x.pay(0, 1, 5);
        x.change(9);
        due("size(8)", x.size(8), 4);
        due("undo()", x.undo(), true);
        due("trouble()", x.trouble(), 0);
        due("owes(0, 1)", x.owes(0, 1), 5);
        due("pair(2, 3)", x.pair(2, 3), 7);
        due("undo()", x.undo(), true);
        due("pair(2, 3)", x.pair(2, 3), 4);
        refused(x, "change(0) of half", x.change(0), -1, 5);
        due("pair(1, 1)", x.pair(1, 1), 8);
        due("undo()", x.undo(), true);
        due("pair(1, 1)", x.pair(1, 1), 2);
        due("undo()", x.undo(), true);
        due("size(7)", x.size(7), 0);
        due("pair(0, 1)", x.pair(0, 1), 2);
        due("size(8)", x.size(8), 0);
        refused(x, "undo()", x.undo(), 6);
        for (int i = 0; i < 20; i++) {
            x.season();
        }
        due("size(8)", x.size(8), 16);
        for (int i = 19; i >= 4; i--) {
            due("undo()", x.undo(), true);
            due("size(7)", x.size(7), i);
        }
        refused(x, "undo()", x.undo(), 6);
        due("size(7)", x.size(7), 4);
        due("pair(0, 1)", x.pair(0, 1), 3);
    }

    private static void images() {
        FigureKnee x = Check.of(FOUR);
        FigureKnee none = new FigureKnee();
        check.promise(56);
        due("image()", x.image(), 0);
        x.season();
        x.pay(0, 1, 5);
        x.step(0, 9);
        due("image()", x.image(), 1);
        due("size(8)", x.size(8), 3);
        x.season();
        due("image()", x.image(), 2);
        refused(x, "image()", x.image(), -1, 3);
        due("size(9)", x.size(9), 3);
        refused(none, "image()", none.image(), -1, 1);
        check.promise(57);
        due("back(0)", x.back(0), true);
        due("trouble()", x.trouble(), 0);
        due("size(7)", x.size(7), 0);
        due("pair(0, 1)", x.pair(0, 1), 2);
        due("pair(0, 3)", x.pair(0, 3), 3);
        due("owes(0, 1)", x.owes(0, 1), 5);
        due("size(8)", x.size(8), 0);
        due("size(9)", x.size(9), 3);
        refused(x, "undo()", x.undo(), 6);
        due("back(1)", x.back(1), true);
        due("size(7)", x.size(7), 1);
        due("pair(0, 3)", x.pair(0, 3), 9);
        due("owes(0, 1)", x.owes(0, 1), 0);
        x.season();
        due("undo()", x.undo(), true);
        due("size(7)", x.size(7), 1);
        due("back(2)", x.back(2), true);
        due("size(7)", x.size(7), 2);
        x.season();
        refused(x, "back(3)", x.back(3), 1);
        refused(x, "back(-1)", x.back(-1), 1);
        due("size(8)", x.size(8), 1);
        refused(none, "back(0)", none.back(0), 1);
    }

    private static void toldThings() {
        FigureKnee x = Check.of(FOUR);
        check.promise(58);
        due("led(0)", Check.led(x, 0), 2);
        due("led(1)", Check.led(x, 1), Check.THROWS);
        due("led(-1)", Check.led(x, -1), Check.THROWS);
        due("led(0) without a pier", Check.led(new FigureKnee(), 0), Check.THROWS);
        for (int i = 0; i < 5; i++) {
            x.season();
        }
        due("led(0)", Check.led(x, 0), 0);
        due("led(1)", Check.led(x, 1), 1);
        due("led(2)", Check.led(x, 2), 3);
        due("led(3)", Check.led(x, 3), Check.THROWS);
        check.promise(59);
        int[] sizes = {10, 50, 4, 2, 4, 2, 2, 5, 5, 0, 0};
        for (int what = 0; what < 11; what++) {
            due("size(" + what + ")", x.size(what), sizes[what]);
        }
        due("size(11)", x.size(11), -1);
        due("size(-1)", x.size(-1), -1);
        Check.feed(x, "pier");
        due("size(10)", x.size(10), 20);
    }

    private static void troubles() {
        check.promise(60);
        FigureKnee x = Check.of(FOUR);
        x.says(0, 99);
        due("trouble()", x.trouble(), 2);
        due("trouble()", x.trouble(), 2);
        x.size(99);
        Check.led(x, 99);
        x.feed(0, 0, 0, 0, 0);
        x.fault();
        x.where();
        due("trouble() of says still", x.trouble(), 2);
        x.says(0, 0);
        due("trouble()", x.trouble(), 0);
        x.pair(9, 9);
        due("trouble()", x.trouble(), 1);
        x.undo();
        due("trouble()", x.trouble(), 6);
        x.fits();
        due("trouble()", x.trouble(), 0);
    }
}
