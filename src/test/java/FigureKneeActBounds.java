/** Terms III and IV and promises 51 to 60: ACTS, UNDO, IMAGES, what is told and TROUBLE at their bounds. */
public final class FigureKneeActBounds {
    private static final Bounds bounds = new Bounds();
    private static final Check check = bounds.check;

    public static void main(String[] args) {
        season();
        season999();
        change();
        step();
        pay();
        undo();
        undo16();
        undoBehindUndo();
        undoOfEachAct();
        image();
        back();
        imagesStay();
        led();
        size();
        sizesNow();
        troubleOfAll();
        troubleStays();
        check.end();
    }

    private static void due(String call, long got, long want) {
        check.due(call, got, want);
    }

    private static long bit(boolean answer) {
        return answer ? 1 : 0;
    }

    private static FigureKnee one(int words, int figure) {
        return Check.of("pier words " + words + " dumb 0;pair a creeping figure " + figure + " step 0");
    }

    /** Five pairs that stay at so much of ten words. */
    private static FigureKnee five(int... figures) {
        StringBuilder text = new StringBuilder("pier words 10 dumb 0");
        for (int p = 0; p < figures.length; p++) {
            text.append(";pair ").append((char) ('a' + p)).append(" creeping figure ").append(figures[p]).append(" step 0");
        }
        return Check.of(text.toString());
    }

    // ---- acts

    private static void season() {
        check.promise(51);
        bounds.withoutPier("season()", FigureKnee::season, -1);
        FigureKnee x = Bounds.four();
        bounds.taken(x, "season()", FigureKnee::season, 8);
        due("size(7)", x.size(7), 1);
        due("size(8)", x.size(8), 1);
        bounds.taken(five(5, 5, 5, 5, 5), "season() of halves", FigureKnee::season, 0);
        bounds.taken(five(6, 6, 6, 6, 6), "season() of all", FigureKnee::season, 31);
        bounds.taken(five(5, 5, 5, 5, 6), "season() of the last", FigureKnee::season, 16);
    }

    /** The document tells this bound, though an object is used for fewer calls. */
    private static FigureKnee after(int seasons) {
        FigureKnee x = Check.of("pier words 10 dumb 0;pair a swinging figure 9 step 0;contract a every 9");
        x.image();
        for (int i = 0; i < seasons; i++) {
            x.season();
        }
        return x;
    }

    private static void season999() {
        check.sentence("51: NONE: 3 (999 went by)");
        FigureKnee x = after(998);
        bounds.taken(x, "season() 999", FigureKnee::season, x.says(0, 1) > 5 ? 1 : 0);
        due("size(7)", x.size(7), 999);
        due("says(0, 60)", x.says(0, 60), x.saysLate(0, 60));
        bounds.refused("season() 1000", () -> after(999), FigureKnee::season, -1, 3);
        x.undo();
        bounds.taken(x, "season() 999 once more", FigureKnee::season, x.says(0, 1) > 5 ? 1 : 0);
        x.back(0);
        bounds.taken(x, "season() behind an image", FigureKnee::season, 0);
    }

    private static void change() {
        check.promise(52);
        int[] after = {8, 9, 1, 7};
        for (int p = 0; p < 4; p++) {
            int pair = p;
            FigureKnee x = Bounds.four();
            bounds.taken(x, "change(" + p + ")", y -> y.change(pair), after[p]);
            due("pair(" + p + ", 1)", x.pair(p, 1), after[p]);
            due("size(7)", x.size(7), 0);
            due("size(8)", x.size(8), 1);
        }
        bounds.beyond("change(n)", Bounds::busy, FigureKnee::change, 0, 3, -1, 1);
        bounds.withoutPier("change(0)", x -> x.change(0), -1);
        check.sentence("52: 5 (both say as much)");
        bounds.refused("change(0) of 5 by 10", () -> one(10, 5), x -> x.change(0), -1, 5);
        bounds.refused("change(0) of 1 by 2", () -> one(2, 1), x -> x.change(0), -1, 5);
        bounds.refused("change(0) of 49 by 98", () -> one(98, 49), x -> x.change(0), -1, 5);
        bounds.taken(one(10, 4), "change(0) of 4 by 10", x -> x.change(0), 6);
        bounds.taken(one(10, 6), "change(0) of 6 by 10", x -> x.change(0), 4);
        bounds.taken(one(99, 49), "change(0) of 49 by 99", x -> x.change(0), 50);
        bounds.taken(one(99, 0), "change(0) of none", x -> x.change(0), 99);
        bounds.taken(one(99, 99), "change(0) of all", x -> x.change(0), 0);
    }

    private static void step() {
        check.promise(53);
        int[] told = {3, 0, 4, 1};
        for (int p = 0; p < 4; p++) {
            int pair = p;
            for (int step : new int[] {0, told[p], 20}) {
                if (step == told[p]) {
                    bounds.refused("step(" + p + ", " + step + ")", Bounds::four, x -> bit(x.step(pair, step)), 0, 5);
                } else {
                    FigureKnee x = Bounds.four();
                    bounds.taken(x, "step(" + p + ", " + step + ")", y -> bit(y.step(pair, step)), 1);
                    due("pair(" + p + ", 3)", x.pair(p, 3), step);
                    due("size(8)", x.size(8), 1);
                    bounds.taken(x, "step(" + p + ") as told", y -> bit(y.step(pair, told[pair])), 1);
                }
            }
        }
        bounds.beyond("step(n, 5)", Bounds::busy, (x, p) -> bit(x.step(p, 5)), 0, 3, 0, 1);
        check.sentence("53: 2 (0 .. 20)");
        bounds.beyond("step(0, n)", Bounds::busy, (x, step) -> bit(x.step(0, step)), 0, 20, 0, 2);
        bounds.refused("step(4, 21)", Bounds::busy, x -> bit(x.step(4, 21)), 0, 1);
        bounds.withoutPier("step(0, 0)", x -> bit(x.step(0, 0)), 0);
        check.sentence("53: the step from NOW on");
        FigureKnee y = Bounds.four();
        y.step(0, 0);
        y.step(1, 20);
        due("says(0, 1)", y.says(0, 1), 2);
        due("says(1, 1)", y.says(1, 1), 10);
        due("drawn(1, 0, 1)", y.drawn(1, 0, 1), 10);
        due("odds(1, 1, 10, true)", y.odds(1, 1, 10, true), 2);
        due("settles(1)", y.settles(1), 1);
        due("season()", y.season(), 10);
        due("pair(0, 1)", y.pair(0, 1), 2);
        check.sentence("53: 5 (it is), NOW");
        bounds.refused("step(2, 7)", Bounds::busy, x -> bit(x.step(2, 7)), 0, 5);
        bounds.taken(Bounds.busy(), "step(2, 4)", x -> bit(x.step(2, 4)), 1);
    }

    private static FigureKnee owing(int much) {
        return Check.of("pier words 9 dumb 0;pair a fading figure 0 step 0;pair b fading figure 0 step 0;"
            + "pair c fading figure 0 step 0;debt a c " + much);
    }

    private static void pay() {
        check.promise(54);
        bounds.taken(owing(99), "pay(0, 2, 1)", x -> x.pay(0, 2, 1), 98);
        bounds.taken(owing(99), "pay(0, 2, 98)", x -> x.pay(0, 2, 98), 1);
        bounds.taken(owing(99), "pay(0, 2, 99)", x -> x.pay(0, 2, 99), 0);
        bounds.taken(owing(1), "pay(0, 2, 1)", x -> x.pay(0, 2, 1), 0);
        bounds.taken(Bounds.four(), "pay(3, 0, 4)", x -> x.pay(3, 0, 4), 0);
        check.sentence("54: NONE: 1 (unlike)");
        bounds.beyond("pay(n, 1, 1)", Bounds::busy, (x, p) -> x.pay(p, 1, 1), 0, 3, -1, 1);
        bounds.beyond("pay(0, n, 1)", Bounds::busy, (x, to) -> x.pay(0, to, 1), 0, 3, -1, 1);
        for (int p = 0; p < 4; p++) {
            int same = p;
            bounds.refused("pay(" + p + ", " + p + ", 1)", Bounds::busy, x -> x.pay(same, same, 1), -1, 1);
            bounds.refused("pay(" + p + ", " + p + ", 0)", Bounds::busy, x -> x.pay(same, same, 0), -1, 1);
        }
        bounds.withoutPier("pay(0, 1, 1)", x -> x.pay(0, 1, 1), -1);
        check.sentence("54: 2 (1 .. 99)");
        bounds.beyond("pay(0, 2, n)", () -> owing(99), (x, much) -> x.pay(0, 2, much), 1, 99, -1, 2);
        bounds.beyond("pay(2, 0, n), nothing owed", () -> owing(99), (x, much) -> x.pay(2, 0, much), 1, 99, -1, 2);
        check.sentence("54: 5 (it is more than that)");
        bounds.refused("pay(0, 2, 99)", () -> owing(98), x -> x.pay(0, 2, 99), -1, 5);
        bounds.refused("pay(0, 2, 2)", () -> owing(1), x -> x.pay(0, 2, 2), -1, 5);
        bounds.refused("pay(2, 0, 1)", () -> owing(1), x -> x.pay(2, 0, 1), -1, 5);
        bounds.refused("pay(0, 1, 4)", Bounds::busy, x -> x.pay(0, 1, 4), -1, 5);
        FigureKnee x = owing(3);
        x.pay(0, 2, 2);
        due("pay(0, 2, 2)", x.pay(0, 2, 2), -1);
        due("trouble()", x.trouble(), 5);
        bounds.taken(x, "pay(0, 2, 1)", y -> y.pay(0, 2, 1), 0);
        due("pay(0, 2, 1)", x.pay(0, 2, 1), -1);
        due("trouble()", x.trouble(), 5);
        due("owes(0, 2)", x.owes(0, 2), 0);
    }

    // ---- undoing

    private static void undo() {
        check.promise(55);
        bounds.refused("undo() without a PIER", FigureKnee::new, x -> bit(x.undo()), 0, 6);
        bounds.refused("undo() of nothing", Bounds::four, x -> bit(x.undo()), 0, 6);
        FigureKnee x = Bounds.four();
        x.season();
        bounds.taken(x, "undo()", y -> bit(y.undo()), 1);
        due("size(8)", x.size(8), 0);
        due("undo()", bit(x.undo()), 0);
        due("trouble()", x.trouble(), 6);
        check.sentence("55: an ACT that was refused can't be undone");
        x.change(9);
        x.step(0, 3);
        x.pay(0, 1, 6);
        x.image();
        due("size(8)", x.size(8), 0);
        due("undo()", bit(x.undo()), 0);
    }

    private static void undo16() {
        check.sentence("III: UNDO: the latest (16 are kept)");
        for (int acts : new int[] {1, 15, 16, 17, 18, 31, 32, 33, 40}) {
            FigureKnee x = Bounds.four();
            for (int i = 0; i < acts; i++) {
                x.season();
                due("size(8) behind " + (i + 1), x.size(8), Math.min(16, i + 1));
            }
            int kept = Math.min(16, acts);
            for (int i = 1; i <= kept; i++) {
                bounds.taken(x, "undo() " + i + " of " + acts, y -> bit(y.undo()), 1);
                due("size(7)", x.size(7), acts - i);
                due("size(8)", x.size(8), kept - i);
            }
            due("undo() of " + acts, bit(x.undo()), 0);
            due("trouble()", x.trouble(), 6);
            due("size(7)", x.size(7), acts - kept);
            due("pair(0, 1)", x.pair(0, 1), Bounds.four().says(0, acts - kept));
        }
    }

    private static void undoBehindUndo() {
        check.sentence("55: what was undone isn't kept; new ACTS take its room");
        FigureKnee x = Bounds.four();
        for (int i = 0; i < 16; i++) {
            x.season();
        }
        for (int i = 0; i < 5; i++) {
            x.undo();
        }
        due("size(8)", x.size(8), 11);
        for (int i = 0; i < 7; i++) {
            x.season();
        }
        due("size(7)", x.size(7), 18);
        due("size(8)", x.size(8), 16);
        for (int i = 17; i >= 2; i--) {
            due("undo()", bit(x.undo()), 1);
            due("size(7)", x.size(7), i);
            due("pair(3, 1)", x.pair(3, 1), Bounds.four().says(3, i));
        }
        due("undo()", bit(x.undo()), 0);
        due("size(7)", x.size(7), 2);
    }

    private static String brief(FigureKnee x) {
        StringBuilder text = new StringBuilder();
        text.append(x.size(7));
        for (int p = 0; p < 4; p++) {
            text.append(' ').append(x.pair(p, 1)).append(' ').append(x.pair(p, 3));
        }
        return text.append(' ').append(x.owes(0, 1)).append(' ').append(x.owes(3, 0)).toString();
    }

    private static void act(FigureKnee x, int i) {
        switch (i % 5) {
            case 0 -> due("season()", x.season() >= 0 ? 1 : 0, 1);
            case 1 -> due("change(1)", x.change(1) >= 0 ? 1 : 0, 1);
            case 2 -> due("step(2, ..)", bit(x.step(2, i)), 1);
            case 3 -> due("pay(0, 1, 1)", x.pay(0, 1, 1) >= 0 ? 1 : 0, 1);
            default -> due("pay(3, 0, 1)", x.pay(3, 0, 1) >= 0 ? 1 : 0, 1);
        }
    }

    private static void undoOfEachAct() {
        check.sentence("55: UNDO of each kind of ACT, up to 16 of them");
        FigureKnee x = Bounds.four();
        String[] before = new String[18];
        for (int i = 0; i < before.length; i++) {
            before[i] = brief(x);
            act(x, i);
        }
        for (int i = before.length - 1; i >= 2; i--) {
            due("undo()", bit(x.undo()), 1);
            check.due("what is NOW", brief(x), before[i]);
        }
        due("undo()", bit(x.undo()), 0);
        check.due("what is NOW", brief(x), before[2]);
    }

    // ---- images

    private static void image() {
        check.promise(56);
        bounds.withoutPier("image()", FigureKnee::image, -1);
        FigureKnee x = Bounds.four();
        for (int i = 0; i < 3; i++) {
            due("size(9)", x.size(9), i);
            bounds.taken(x, "image()", FigureKnee::image, i);
            due("size(8)", x.size(8), i);
            x.season();
        }
        due("size(9)", x.size(9), 3);
        check.sentence("56: NONE: 3 (IMAGES: up to 3)");
        Bounds.Maker full = () -> {
            FigureKnee y = Bounds.busy();
            y.image();
            return y;
        };
        bounds.refused("image()", full, FigureKnee::image, -1, 3);
        FigureKnee gone = full.make();
        gone.back(0);
        due("image() behind back", gone.image(), -1);
        due("trouble()", gone.trouble(), 3);
        due("undo() behind back", bit(gone.undo()), 0);
        Check.pier(gone, "pier");
        due("image() behind a FAULT", gone.image(), -1);
        due("trouble()", gone.trouble(), 3);
    }

    private static void back() {
        check.promise(57);
        bounds.refused("back(0) without a PIER", FigureKnee::new, x -> bit(x.back(0)), 0, 1);
        bounds.refused("back(0) without an IMAGE", Bounds::four, x -> bit(x.back(0)), 0, 1);
        bounds.beyond("back(n)", Bounds::busy, (x, image) -> bit(x.back(image)), 0, 1, 0, 1);
        bounds.refused("back(3) of three", () -> {
            FigureKnee y = Bounds.busy();
            y.image();
            return y;
        }, x -> bit(x.back(3)), 0, 1);
        bounds.taken(Bounds.busy(), "back(0)", x -> bit(x.back(0)), 1);
        bounds.taken(Bounds.busy(), "back(1)", x -> bit(x.back(1)), 1);
        check.sentence("III: gone back to one, nothing can be undone");
        FigureKnee x = Bounds.busy();
        x.back(1);
        due("size(8)", x.size(8), 0);
        due("undo()", bit(x.undo()), 0);
        due("trouble()", x.trouble(), 6);
        x.season();
        due("size(8)", x.size(8), 1);
        due("undo()", bit(x.undo()), 1);
        due("undo()", bit(x.undo()), 0);
        due("size(7)", x.size(7), 1);
    }

    private static void imagesStay() {
        check.sentence("57: All is as by an IMAGE (all IMAGES stay)");
        FigureKnee x = Bounds.four();
        String[] looks = new String[3];
        for (int image = 0; image < 3; image++) {
            looks[image] = brief(x);
            x.image();
            x.season();
            x.change(1);
            x.step(2, 9 + image);
            x.pay(0, 1, 1);
        }
        for (int image : new int[] {2, 0, 1, 1, 2, 0}) {
            bounds.taken(x, "back(" + image + ")", y -> bit(y.back(image)), 1);
            check.due("what is NOW", brief(x), looks[image]);
            due("size(9)", x.size(9), 3);
            x.season();
            x.step(2, 20);
            x.undo();
            x.change(3);
        }
        check.sentence("57: the numbers of seasons go on as by the IMAGE");
        FigureKnee y = Check.of("pier words 10 dumb 0;pair a creeping figure 1 step 0;contract a every 2");
        y.season();
        y.image();
        due("season()", y.season(), 1);
        y.season();
        y.back(0);
        due("size(7)", y.size(7), 1);
        due("season()", y.season(), 1);
        due("season()", y.season(), 1);
        due("season()", y.season(), 0);
    }

    // ---- what is told

    private static void led() {
        check.promise(58);
        FigureKnee all = five(6, 7, 8, 9, 10);
        for (int i = 0; i < 5; i++) {
            due("led(" + i + ")", Check.led(all, i), i);
        }
        FigureKnee some = five(5, 6, 0, 4, 10);
        due("led(0)", Check.led(some, 0), 1);
        due("led(1)", Check.led(some, 1), 4);
        FigureKnee none = five(5, 4, 0, 1, 5);
        check.sentence("58: NoSuchElementException if there is none such");
        for (int i : new int[] {-1, 5, 6, Integer.MIN_VALUE, Integer.MAX_VALUE}) {
            due("led(" + i + ")", Check.led(all, i), Check.THROWS);
            due("led(" + i + ")", Check.led(some, i), Check.THROWS);
        }
        due("led(2)", Check.led(some, 2), Check.THROWS);
        for (int i : new int[] {-1, 0, 1, 5}) {
            due("led(" + i + ")", Check.led(none, i), Check.THROWS);
            due("led(" + i + ")", Check.led(new FigureKnee(), i), Check.THROWS);
        }
        check.sentence("58: NOW");
        none.change(2);
        due("led(0)", Check.led(none, 0), 2);
        due("led(1)", Check.led(none, 1), Check.THROWS);
        none.undo();
        due("led(0)", Check.led(none, 0), Check.THROWS);
        check.sentence("58: a call that throws changes nothing");
        FigureKnee x = Bounds.busy();
        due("led(4)", Check.led(x, 4), Check.THROWS);
        check.due("all behind led(4)", Picture.whole(x), Picture.whole(Bounds.busy()));
    }

    private static void size() {
        check.promise(59);
        int[] busy = {10, 50, 4, 2, 4, 2, 2, 1, 4, 2, 20};
        FigureKnee x = Bounds.busy();
        for (int what = 0; what <= 10; what++) {
            due("size(" + what + ")", x.size(what), busy[what]);
        }
        check.sentence("59: NONE for others; 0 for what there isn't");
        FigureKnee none = new FigureKnee();
        for (int what : new int[] {-1, 11, 12, Integer.MIN_VALUE, Integer.MAX_VALUE}) {
            due("size(" + what + ")", x.size(what), -1);
            due("size(" + what + ")", none.size(what), -1);
        }
        for (int what = 0; what <= 10; what++) {
            due("size(" + what + ") without a PIER", none.size(what), 0);
        }
        Check.pier(none, "pier words 10 dumb 50;pair a creeping figure 1 step 0;contract a every 2;unsure a 1;?");
        for (int what = 0; what <= 10; what++) {
            due("size(" + what + ") behind a FAULT", none.size(what), 0);
        }
        FigureKnee bare = one(2, 0);
        int[] least = {2, 0, 1, 0, 0, 0, 0, 0, 0, 0, 0};
        for (int what = 0; what <= 10; what++) {
            due("size(" + what + ") of the least", bare.size(what), least[what]);
        }
    }

    private static void sizesNow() {
        check.sentence("59: 4 debts as told");
        FigureKnee x = owing(1);
        x.pay(0, 2, 1);
        due("size(4)", x.size(4), 1);
        check.sentence("59: 7 seasons gone by NOW");
        x.season();
        x.season();
        due("size(7)", x.size(7), 2);
        x.undo();
        due("size(7)", x.size(7), 1);
        check.sentence("59: 10 bytes of THE TAPE");
        Check.feed(x, "pier");
        due("size(10)", x.size(10), 20);
        x.pier(21);
        due("size(10)", x.size(10), 20);
        x.pier(20);
        due("size(10)", x.size(10), 0);
    }

    private static void troubleOfAll() {
        check.sentence("60: 0 it wasn't; 1 none such; 2 a number; 3 no room; 4 a FAULT; 5 not so; 6 there is none");
        FigureKnee x = new FigureKnee();
        due("trouble()", x.trouble(), 0);
        x.image();
        due("trouble()", x.trouble(), 1);
        x.undo();
        due("trouble()", x.trouble(), 6);
        x.pier(1);
        due("trouble()", x.trouble(), 2);
        x.pier(0);
        due("trouble()", x.trouble(), 4);
        Check.pier(x, "pier words 10 dumb 0;pair a creeping figure 5 step 0");
        due("trouble()", x.trouble(), 0);
        x.change(0);
        due("trouble()", x.trouble(), 5);
        for (int i = 0; i < 4; i++) {
            x.image();
            due("trouble()", x.trouble(), i < 3 ? 0 : 3);
        }
        x.back(2);
        due("trouble()", x.trouble(), 0);
    }

    private static void troubleStays() {
        check.sentence("IV: TROUBLE of the latest call that may be refused (those of which a number is told)");
        for (int number : new int[] {0, 1, 2, 3, 4, 5, 6}) {
            FigureKnee x = one(10, 5);
            switch (number) {
                case 1 -> x.fitAt(-1);
                case 2 -> x.masters(-1);
                case 3 -> {
                    for (int i = 0; i < 4; i++) {
                        x.image();
                    }
                }
                case 4 -> Check.pier(x, "  ?");
                case 5 -> x.step(0, 0);
                case 6 -> x.undo();
                default -> x.fits();
            }
            due("trouble()", x.trouble(), number);
            x.feed(0, 0, 0, 0, 0);
            x.fault();
            x.where();
            for (int what = -1; what <= 11; what++) {
                x.size(what);
            }
            Check.led(x, 0);
            Check.led(x, -1);
            x.trouble();
            due("trouble() of " + number, x.trouble(), number);
            due("where() of " + number, x.where(), number == 4 ? 2 : -1);
        }
    }
}
