/**
 * Looks at calls at their bounds: what they answer, the number of TROUBLE, and, against a twin on
 * which the call wasn't made, that all that is to stay has stayed. Each look has an object of its own.
 */
final class Bounds {
    interface Maker {
        FigureKnee make();
    }

    interface Call {
        long on(FigureKnee x);
    }

    interface NumberCall {
        long on(FigureKnee x, int n);
    }

    static final String HEAD = "pier words 10 dumb 50;";

    /**
     * Behind 0, 1, 2 .. seasons the figures say: coker 2 5 8, then 0 3 6 1 4 7 again and again;
     * wife 1 2 4 8 10 10 ..; old 9 5 1 0 0 ..; duo 3 8 7 4 again and again.
     */
    static final String FOUR = HEAD
        + "pair coker creeping figure 2 step 3;pair wife leaping figure 1 step 0;"
        + "pair old fading figure 9 step 4;pair duo swinging figure 3 step 1;"
        + "contract coker every 3;contract duo every 2;"
        + "debt coker wife 5;debt wife old 5;debt old coker 2;debt duo coker 4;"
        + "unsure coker 2;unsure wife 1;"
        + "heard coker season 2 figure 8;heard wife season 3 figure 8";

    final Check check = new Check();

    static FigureKnee four() {
        return Check.of(FOUR);
    }

    /** FOUR with something of each sort that can be lost: ACTS of all kinds, IMAGES, bytes of THE TAPE. */
    static FigureKnee busy() {
        FigureKnee x = Check.of(FOUR);
        x.change(1);
        x.image();
        x.season();
        x.step(2, 7);
        x.image();
        x.pay(0, 1, 2);
        Check.feed(x, "pier words 7 dumb 0");
        return x;
    }

    // ---- calls

    /** TROUBLE has another number ahead of a call than behind it, so that the call must set it. */
    private static void otherTrouble(FigureKnee x, int number) {
        if (number == 2) {
            x.back(-1);
        } else {
            x.pier(-1);
        }
    }

    private void answers(FigureKnee x, String call, long got, long want, int number) {
        check.due(call, got, want);
        check.due("trouble() behind " + call, x.trouble(), number);
        check.due("where() behind " + call, x.where(), -1);
    }

    /** A call that isn't refused. */
    void taken(FigureKnee x, String call, Call made, long want) {
        otherTrouble(x, 0);
        answers(x, call, made.on(x), want, 0);
    }

    /** A call that isn't refused and changes nothing; made again, it answers the same. */
    void asked(String call, Maker maker, Call made, long want) {
        FigureKnee x = maker.make();
        taken(x, call, made, want);
        taken(x, call + " again", made, want);
        check.due("all behind " + call, Picture.whole(x), Picture.whole(maker.make()));
    }

    /** A call that is refused with a number other than 4 and changes nothing. */
    void refused(String call, Maker maker, Call made, long want, int number) {
        FigureKnee x = maker.make();
        otherTrouble(x, number);
        answers(x, call, made.on(x), want, number);
        check.due("all behind " + call, Picture.whole(x), Picture.whole(maker.make()));
    }

    void withoutPier(String call, Call made, long want) {
        refused(call + " without a PIER", FigureKnee::new, made, want, 1);
    }

    /** What is refused just beyond a least and a most number, and far beyond them. */
    void beyond(String call, Maker maker, NumberCall made, int least, int most, long want, int number) {
        for (int n : new int[] {least - 1, most + 1, Integer.MIN_VALUE, Integer.MAX_VALUE}) {
            refused(call + ", n " + n, maker, x -> made.on(x, n), want, number);
        }
    }

    /** A call that asks, with its answers at the least and at the most number it takes. */
    void at(String call, Maker maker, NumberCall made, int least, long atLeast, int most, long atMost) {
        asked(call + ", n " + least, maker, x -> made.on(x, least), atLeast);
        asked(call + ", n " + most, maker, x -> made.on(x, most), atMost);
    }

    // ---- texts

    /** A text with a FAULT at the sign ! (which isn't fed); all but THE TAPE and the FAULT stays. */
    void faultAt(String text, int number) {
        int place = text.indexOf('!');
        fault(text.substring(0, place) + text.substring(place + 1), number, place);
    }

    void fault(String text, int number, int place) {
        FigureKnee x = busy();
        FigureKnee twin = busy();
        x.pier(20);
        twin.pier(20);
        Check.feed(x, text);
        check.due("pier of " + text, x.pier(text.length()), -1);
        check.due("trouble() of " + text, x.trouble(), 4);
        check.due("fault() of " + text, x.fault(), number);
        check.due("where() of " + text, x.where(), place);
        check.due("size(10) behind " + text, x.size(10), 0);
        check.due("all behind " + text, Picture.ofPier(x), Picture.ofPier(twin));
    }

    /** A text without a FAULT; it takes the place of all that was. */
    FigureKnee good(String text, int pairs) {
        FigureKnee x = busy();
        x.pier(20);
        Check.feed(x, text);
        check.due("pier of " + text, x.pier(text.length()), pairs);
        check.due("trouble() of " + text, x.trouble(), 0);
        check.due("fault() of " + text, x.fault(), 0);
        check.due("where() of " + text, x.where(), -1);
        check.due("size(2) of " + text, x.size(2), pairs);
        for (int what = 7; what <= 10; what++) {
            check.due("size(" + what + ") of " + text, x.size(what), 0);
        }
        return x;
    }
}
