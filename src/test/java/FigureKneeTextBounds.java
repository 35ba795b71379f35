/** Terms I and promises 1 to 5: each bound of THE TAPE and of the text, and each FAULT with its place. */
public final class FigureKneeTextBounds {
    private static final String HEAD = Bounds.HEAD;
    private static final String ONE = HEAD + "pair a fading figure 3 step 3;";
    private static final String TWO = ONE + "pair b leaping figure 4 step 0;";
    private static final String[] HEADS = {"pier", "pair", "contract", "debt", "unsure", "heard"};

    private static final Bounds bounds = new Bounds();
    private static final Check check = bounds.check;

    public static void main(String[] args) {
        newObject();
        feedUpToFull();
        feedByBytes();
        feedBehindTrouble();
        pierByNumbers();
        pierOfFirstBytes();
        pierOfFullTape();
        pierAnew();
        pierStays();
        faultAndWhere();
        bytes();
        blanks();
        words();
        wholes();
        linesAndSemicolons();
        boundsOfPier();
        boundsOfPair();
        boundsOfContract();
        boundsOfDebt();
        boundsOfUnsure();
        boundsOfHeard();
        fullPier();
        names();
        namesAheadOfUse();
        endOfText();
        againFaults();
        manyFaults();
        lacksFaults();
        firstFromLeft();
        leastNumber();
        check.end();
    }

    private static void due(String call, long got, long want) {
        check.due(call, got, want);
    }

    private static String blanks(int count) {
        return " ".repeat(count);
    }

    private static int feedBlanks(FigureKnee x) {
        return x.feed(0x20202020, 0x20202020, 0x20202020, 0x20202020, 0x20202020);
    }

    private static void fillTape(FigureKnee x) {
        for (int i = 0; i < 45; i++) {
            feedBlanks(x);
        }
        due("size(10)", x.size(10), 900);
    }

    // ---- promises 1 to 5

    private static void newObject() {
        check.sentence("1: No PIER");
        FigureKnee x = new FigureKnee();
        due("trouble()", x.trouble(), 0);
        due("fault()", x.fault(), 0);
        due("where()", x.where(), -1);
        for (int what = 0; what <= 10; what++) {
            due("size(" + what + ")", x.size(what), 0);
        }
        due("led(0)", Check.led(x, 0), Check.THROWS);
        due("trouble()", x.trouble(), 0);
    }

    private static void feedUpToFull() {
        check.sentence("2: NONE, and none comes, if there would be more than 900");
        String text = "pier words 7 dumb 1;pair a fading figure 7 step 1";
        FigureKnee x = new FigureKnee();
        Check.feed(x, text);
        for (int length = 80; length <= 900; length += 20) {
            due("feed up to " + length, feedBlanks(x), length);
            due("size(10)", x.size(10), length);
        }
        for (int i = 0; i < 3; i++) {
            due("feed beyond 900", x.feed(0x3b3b3b3b, 0x3b3b3b3b, 0x3b3b3b3b, 0x3b3b3b3b, 0x3b3b3b3b), -1);
            due("size(10)", x.size(10), 900);
        }
        due("pier(900) of what stayed", x.pier(900), 1);
        due("size(0)", x.size(0), 7);
        due("feed into the emptied tape", feedBlanks(x), 20);
    }

    private static void feedByBytes() {
        check.sentence("2: of each number the highest first");
        for (int place = 0; place < 20; place++) {
            for (int sign : new int[] {0, 1, 127, 128, 255}) {
                int[] row = new int[5];
                for (int i = 0; i < 20; i++) {
                    row[i / 4] = row[i / 4] << 8 | (i == place ? sign : 32);
                }
                FigureKnee x = new FigureKnee();
                due("feed", x.feed(row[0], row[1], row[2], row[3], row[4]), 20);
                due("pier(20) with " + sign + " at " + place, x.pier(20), -1);
                due("where()", x.where(), place);
            }
        }
        check.sentence("2: bytes come behind THE TAPE");
        FigureKnee x = new FigureKnee();
        feedBlanks(x);
        x.feed(0x20202020, 0x20202020, 0x20203f20, 0x20202020, 0x20202020);
        due("pier(40)", x.pier(40), -1);
        due("where()", x.where(), 30);
    }

    private static void feedBehindTrouble() {
        check.sentence("IV: TROUBLE is of calls of which a number is told; of feed none is");
        FigureKnee x = new FigureKnee();
        x.undo();
        fillTape(x);
        due("trouble()", x.trouble(), 6);
        due("feed", feedBlanks(x), -1);
        due("trouble()", x.trouble(), 6);
        FigureKnee faulty = new FigureKnee();
        Check.pier(faulty, "pier ?");
        feedBlanks(faulty);
        due("trouble()", faulty.trouble(), 4);
        due("where()", faulty.where(), 5);
        due("fault()", faulty.fault(), 1);
    }

    private static void pierByNumbers() {
        check.sentence("3: NONE: 2 (THE TAPE stays)");
        bounds.beyond("pier of a new object", FigureKnee::new, FigureKnee::pier, 0, 0, -1, 2);
        bounds.beyond("pier of 20 bytes", Bounds::busy, FigureKnee::pier, 0, 20, -1, 2);
        FigureKnee full = new FigureKnee();
        fillTape(full);
        due("pier(901)", full.pier(901), -1);
        due("trouble()", full.trouble(), 2);
        due("size(10)", full.size(10), 900);
        FigureKnee x = new FigureKnee();
        Check.feed(x, ONE + "pair b leaping figure 4 step 0");
        due("pier(101)", x.pier(101), -1);
        due("trouble()", x.trouble(), 2);
        due("pier(-1)", x.pier(-1), -1);
        due("size(10)", x.size(10), 100);
        due("pier(82) of what stayed", x.pier(82), 2);
        check.sentence("3: the first 0 bytes are a text with a FAULT at its end");
        FigureKnee none = new FigureKnee();
        due("pier(0)", none.pier(0), -1);
        due("trouble()", none.trouble(), 4);
        due("fault()", none.fault(), 1);
        due("where()", none.where(), 0);
        due("size(2)", none.size(2), 0);
    }

    private static void pierOfFirstBytes() {
        check.sentence("3: The first n bytes of THE TAPE are the PIER");
        String text = HEAD + "pair a fading figure 3 step 12";
        for (int fewer = 0; fewer < 2; fewer++) {
            FigureKnee x = new FigureKnee();
            Check.feed(x, text);
            due("pier", x.pier(text.length() - fewer), 1);
            due("pair(0, 3)", x.pair(0, 3), fewer == 0 ? 12 : 1);
            due("size(10)", x.size(10), 0);
        }
        FigureKnee cut = new FigureKnee();
        Check.feed(cut, text);
        due("pier", cut.pier(text.length() - 2), -1);
        due("where()", cut.where(), text.length() - 2);
        check.sentence("3: it is empty then, behind a FAULT too");
        due("size(10)", cut.size(10), 0);
        due("pier(1)", cut.pier(1), -1);
        due("trouble()", cut.trouble(), 2);
    }

    private static void pierOfFullTape() {
        check.sentence("I: THE TAPE has 900 bytes");
        String start = HEAD + "pair a fading figure 3 step";
        String gap = blanks(899 - start.length());
        FigureKnee x = bounds.good(start + gap + "7", 1);
        due("pair(0, 3)", x.pair(0, 3), 7);
        bounds.fault(start + gap + ";", 1, 899);
        bounds.fault(start + gap + " ", 1, 900);
        bounds.fault(start + blanks(898 - start.length()) + "21", 4, 898);
        String whole = HEAD + "pair a fading figure 3 step 7";
        bounds.good(whole + blanks(900 - whole.length()), 1);
        bounds.fault(whole + blanks(899 - whole.length()) + ";", 1, 900);
        bounds.fault(";".repeat(900), 1, 0);
        bounds.fault("a".repeat(900), 1, 0);
        bounds.fault("9".repeat(900), 1, 0);
        bounds.fault(blanks(900), 1, 900);
    }

    private static void pierAnew() {
        check.sentence("3: no season gone by; nothing to undo, no IMAGES");
        FigureKnee x = Bounds.busy();
        x.pier(20);
        due("pier", Check.pier(x, ONE + "pair b leaping figure 4 step 0"), 2);
        due("size(7)", x.size(7), 0);
        due("size(8)", x.size(8), 0);
        due("size(9)", x.size(9), 0);
        due("undo()", x.undo() ? 1 : 0, 0);
        due("trouble()", x.trouble(), 6);
        due("back(0)", x.back(0) ? 1 : 0, 0);
        due("trouble()", x.trouble(), 1);
        due("image()", x.image(), 0);
        int[] sizes = {10, 50, 2, 0, 0, 0, 0};
        for (int what = 0; what < 7; what++) {
            due("size(" + what + ")", x.size(what), sizes[what]);
        }
        due("pair(0, 4)", x.pair(0, 4), 0);
        due("pair(0, 3)", x.pair(0, 3), 3);
        due("owes(0, 1)", x.owes(0, 1), 0);
        due("net(0)", x.net(0), 0);
        due("third(0)", x.third(0), 0);
        due("fits()", x.fits(), 1);
        due("pair(2, 1)", x.pair(2, 1), -1);
        check.sentence("3: nothing is left of bigger PIERS ahead");
        for (int piers = 1; piers <= 3; piers++) {
            smallBehindBig(piers);
        }
        check.sentence("II: the number of the season (the first one is 1), in a new PIER again");
        FigureKnee y = Check.of(HEAD + "pair a creeping figure 1 step 0;contract a every 2");
        y.season();
        Check.pier(y, HEAD + "pair a creeping figure 1 step 0;contract a every 2");
        due("season()", y.season(), 0);
        due("season()", y.season(), 1);
    }

    private static void smallBehindBig(int piers) {
        FigureKnee x = new FigureKnee();
        for (int i = 0; i < piers; i++) {
            due("the big pier", Check.pier(x, fullText()), 5);
            x.masters(0);
            x.net(0);
            x.looks(0, 65536, 9);
            x.settles(0);
        }
        due("the small pier", Check.pier(x, "pier words 99 dumb 0;pair a creeping figure 1 step 0"), 1);
        int[] sizes = {99, 0, 1, 0, 0, 0, 0, 0, 0, 0, 0};
        for (int what = 0; what <= 10; what++) {
            due("size(" + what + ")", x.size(what), sizes[what]);
        }
        due("loudest(0)", x.loudest(0), 0);
        due("masters(0)", x.masters(0), 0);
        due("sumAll(0)", x.sumAll(0), 1);
        due("widest(0)", x.widest(0), -2);
        due("season()", x.season(), 0);
        due("led(0)", Check.led(x, 0), Check.THROWS);
        due("creditor()", x.creditor(), 0);
        due("due()", x.due(), 0);
        due("net(0)", x.net(0), 0);
        due("payments()", x.payments(), 0);
        due("ring(0)", x.ring(0), -2);
        due("fits()", x.fits(), 1);
        due("could()", x.could(), 0);
        due("judge()", x.judge(), -2);
        due("third(0)", x.third(0), 0);
        due("pair(0, 4)", x.pair(0, 4), 0);
        due("verdict(65536, 9)", x.verdict(65536, 9), 0);
        due("looks(0, 65536, 9)", x.looks(0, 65536, 9), 9);
        due("says(0, 9)", x.says(0, 9), 1);
        due("round(0)", x.round(0), 1);
        due("owes(0, 1)", x.owes(0, 1), -1);
    }

    private static void pierStays() {
        check.sentence("3: 4 (the PIER stays)");
        bounds.faultAt(TWO + "contract a every 2;contract b every 1;debt a b 9;unsure b 7;heard a season 1 figure 9;!foo", 1);
        check.sentence("3: nothing of a text with a FAULT is in the next PIER");
        FigureKnee x = new FigureKnee();
        Check.pier(x, TWO + "contract a every 2;debt a b 9;unsure a 7;heard a season 1 figure 9;foo");
        due("size(2)", x.size(2), 0);
        due("fits()", x.fits(), -1);
        due("pier", Check.pier(x, ONE + "pair b leaping figure 4 step 0;contract a every 3;debt a b 1;unsure a 3;heard a season 1 figure 0"), 2);
        due("size(3)", x.size(3), 1);
        due("size(4)", x.size(4), 1);
        due("size(5)", x.size(5), 1);
        due("pair(0, 4)", x.pair(0, 4), 3);
        due("owes(0, 1)", x.owes(0, 1), 1);
        due("fits()", x.fits(), 2);
        due("size(6)", x.size(6), 1);
        check.sentence("I: NAMES are told in their own text");
        FigureKnee y = Bounds.four();
        due("pier", Check.pier(y, HEAD + "contract coker every 1"), -1);
        due("fault()", y.fault(), 2);
        due("pier", Check.pier(y, HEAD + "pair coker fading figure 0 step 0"), 1);
    }

    private static void faultAndWhere() {
        check.sentence("4: The FAULT of the latest pier() not refused by 2; 0 without one");
        FigureKnee x = new FigureKnee();
        due("fault()", x.fault(), 0);
        x.pier(1);
        due("fault() behind 2", x.fault(), 0);
        Check.pier(x, "pier words 1");
        due("fault()", x.fault(), 4);
        x.pier(1);
        due("fault() behind 2", x.fault(), 4);
        x.season();
        x.undo();
        due("fault() behind others", x.fault(), 4);
        Check.pier(x, HEAD + "pair a fading figure 3 step 3");
        due("fault()", x.fault(), 0);
        x.pier(1);
        due("fault() behind 2", x.fault(), 0);
        check.sentence("5: Its place, if the latest call that may be refused was by 4; NONE else");
        due("where() behind 2", x.where(), -1);
        Check.pier(x, "pier words 1");
        due("where()", x.where(), 11);
        due("where() once more", x.where(), 11);
        x.fault();
        x.size(2);
        x.size(-1);
        x.trouble();
        Check.led(x, 0);
        feedBlanks(x);
        due("where() behind calls without a number", x.where(), 11);
        x.pier(21);
        due("where() behind 2", x.where(), -1);
        due("fault() behind 2", x.fault(), 4);
        x.pier(20);
        due("where()", x.where(), 20);
        x.fits();
        due("where() behind a call that wasn't refused", x.where(), -1);
        Check.pier(x, "?");
        due("where()", x.where(), 0);
        x.fitAt(99);
        due("where() behind 1", x.where(), -1);
    }

    // ---- TOKENS

    private static void bytes() {
        check.sentence("I: FORM: the first byte that begins no TOKEN");
        for (int sign = 0; sign < 256; sign++) {
            String one = String.valueOf((char) sign);
            String line = ONE.substring(0, ONE.length() - 1);
            if (sign == ' ') {
                bounds.good(line + one, 1);
            } else {
                bounds.fault(line + " " + one, 1, sign == ';' ? line.length() + 2 : line.length() + 1);
            }
            bounds.fault(HEAD + one, 1, sign == ' ' ? HEAD.length() + 1 : HEAD.length());
            bounds.fault(one, 1, sign == ' ' ? 1 : 0);
            byteInName(sign);
            byteInWhole(sign);
        }
    }

    private static void byteInName(int sign) {
        String text = HEAD + "pair " + (char) sign + " fading figure 3 step 3";
        if (sign >= 'a' && sign <= 'z') {
            bounds.good(text, 1);
        } else {
            bounds.fault(text, 1, sign == ' ' ? text.indexOf("figure") : HEAD.length() + 5);
        }
    }

    private static void byteInWhole(int sign) {
        String text = HEAD + "pair a fading figure " + (char) sign + " step 3";
        if (sign >= '0' && sign <= '9') {
            due("pair(0, 1)", bounds.good(text, 1).pair(0, 1), sign - '0');
        } else {
            bounds.fault(text, 1, sign == ' ' ? text.indexOf("step") : HEAD.length() + 21);
        }
    }

    private static void blanks() {
        check.sentence("I: blanks, 32, part TOKENS and mean nothing else");
        bounds.good("   pier   words   10   dumb   0   ;   pair   a   fading   figure   3   step   3   ", 1);
        bounds.good("pier words10dumb0;pair a fading figure3step3", 1);
        bounds.faultAt("!pi er words 10 dumb 0", 1);
        bounds.faultAt("pier words 9 !0 dumb 0", 1);
        bounds.faultAt(HEAD + "pair a !b fading figure 3 step 3", 1);
        bounds.faultAt(HEAD + "pair a fading figure 3 step 1 !2", 1);
        bounds.faultAt("!pierwords 10 dumb 0", 1);
        bounds.good(TWO + "contract b every9;debt a b9;unsure b3;heard b season30figure9;debt b a99", 2);
    }

    private static void words() {
        check.sentence("I: WORDS of 1 to 8 small letters that stand together");
        bounds.good(HEAD + "pair z fading figure 3 step 3", 1);
        bounds.good(HEAD + "pair abcdefgh fading figure 3 step 3", 1);
        bounds.faultAt(HEAD + "pair !abcdefghi fading figure 3 step 3", 1);
        bounds.faultAt(HEAD + "pair abcdefgh !i fading figure 3 step 3", 1);
        bounds.faultAt(HEAD + "pair !abcdefghijklmnop fading figure 3 step 3", 1);
        bounds.faultAt(HEAD + "pair a !creepings figure 3 step 3", 1);
        bounds.faultAt(HEAD + "!contracts a every 1", 1);
        bounds.faultAt(HEAD + "pair !Abc fading figure 3 step 3", 1);
        bounds.faultAt(HEAD + "pair ab!C fading figure 3 step 3", 1);
        bounds.faultAt(HEAD + "pair a!1 fading figure 3 step 3", 1);
        bounds.faultAt(ONE + "contract !abcdefghi every 1", 1);
        bounds.faultAt(ONE + "contract !abcdefgh every 1", 2);
    }

    private static void wholes() {
        check.sentence("I: WHOLES of 1 to 3 digits that stand together");
        FigureKnee x = bounds.good("pier words 010 dumb 000;pair a fading figure 003 step 020", 1);
        due("size(0)", x.size(0), 10);
        due("size(1)", x.size(1), 0);
        due("pair(0, 1)", x.pair(0, 1), 3);
        due("pair(0, 3)", x.pair(0, 3), 20);
        bounds.faultAt("pier words !0010 dumb 0", 1);
        bounds.faultAt("pier words !1000 dumb 0", 1);
        bounds.faultAt("pier words !999 dumb 0", 4);
        bounds.faultAt("pier words 10 dumb !0000", 1);
        bounds.faultAt("pier words 10 dumb !999", 4);
        bounds.faultAt("pier words !4294967306 dumb 0", 1);
        bounds.faultAt("pier words !00000000000000000000000000000010 dumb 0", 1);
        bounds.faultAt(HEAD + "pair a fading figure 3 step !0001", 1);
        bounds.faultAt("pier words !-10 dumb 0", 1);
        bounds.faultAt("pier words 10!.5 dumb 0", 1);
    }

    private static void linesAndSemicolons() {
        check.sentence("I: LINE {; LINE}");
        bounds.faultAt(ONE + "!", 1);
        bounds.faultAt(ONE + " !", 1);
        bounds.faultAt(HEAD + "!;pair a fading figure 3 step 3", 1);
        bounds.faultAt("!;" + HEAD + "pair a fading figure 3 step 3", 1);
        bounds.faultAt(ONE + "!;", 1);
        bounds.faultAt(HEAD.replace(';', ' ') + "!pair a fading figure 3 step 3", 1);
        bounds.faultAt(HEAD + "pair a fading figure 3 step 3 !contract a every 1", 1);
        bounds.faultAt(ONE + "contract a every 1!, contract a every 1", 1);
    }

    // ---- bounds of LINES

    /** At the least and at the most number there is no FAULT; one below and one above it is out of bounds. */
    private static void whole(String before, int least, int most, String behind, int pairs) {
        for (int number : new int[] {least, most}) {
            bounds.good(before + number + behind, pairs);
        }
        if (least > 0) {
            bounds.fault(before + (least - 1) + behind, 4, before.length());
        }
        for (int number : new int[] {most + 1, 999}) {
            bounds.fault(before + number + behind, 4, before.length());
            bounds.fault(before + number + " ?", 4, before.length());
        }
    }

    private static void boundsOfPier() {
        check.sentence("I: pier words WHOLE dumb WHOLE (2 .. 99; 0 .. 100 in a hundred)");
        whole("pier words ", 2, 99, " dumb 0;pair a fading figure 0 step 0", 1);
        bounds.faultAt("pier words !0 dumb 0", 4);
        bounds.faultAt("pier words !000 dumb 0", 4);
        whole("pier words 10 dumb ", 0, 100, ";pair a fading figure 0 step 0", 1);
        FigureKnee x = bounds.good("pier words 2 dumb 100;pair a fading figure 2 step 0", 1);
        due("size(0)", x.size(0), 2);
        due("size(1)", x.size(1), 100);
        due("size(0)", bounds.good("pier words 99 dumb 0;pair a fading figure 2 step 0", 1).size(0), 99);
    }

    private static void boundsOfPair() {
        check.sentence("I: pair NAME LAW figure WHOLE step WHOLE (0 .. words; 0 .. 20)");
        whole(HEAD + "pair a fading figure ", 0, 10, " step 0", 1);
        whole("pier words 2 dumb 0;pair a fading figure ", 0, 2, " step 0", 1);
        whole("pier words 99 dumb 0;pair a fading figure ", 0, 99, " step 0", 1);
        whole(HEAD + "pair a fading figure 0 step ", 0, 20, "", 1);
        check.sentence("I: LAW: creeping, leaping, fading, or swinging");
        String[] laws = {"creeping", "leaping", "fading", "swinging"};
        for (int law = 0; law < 4; law++) {
            due("pair(0, 0)", bounds.good(HEAD + "pair a " + laws[law] + " figure 0 step 0", 1).pair(0, 0), law);
            bounds.faultAt(HEAD + "pair a !" + laws[law].substring(1) + " figure 0 step 0", 1);
        }
        for (String other : new String[] {"creepin", "figure", "pair", "a", "leapings", "7", ";"}) {
            bounds.faultAt(HEAD + "pair a !" + other + " figure 0 step 0", 1);
        }
    }

    private static void boundsOfContract() {
        check.sentence("I: contract PAIR every WHOLE (seasons, 1 .. 9; each once)");
        whole(TWO + "contract b every ", 1, 9, "", 2);
        due("pair(1, 4)", bounds.good(TWO + "contract b every 9", 2).pair(1, 4), 9);
        bounds.good(TWO + "contract b every 9;contract a every 9", 2);
        bounds.faultAt(TWO + "contract b every 9;contract !b every 8", 3);
        bounds.faultAt(TWO + "contract b every 9;contract a every 9;contract !b every 0", 3);
    }

    private static void boundsOfDebt() {
        check.sentence("I: debt PAIR PAIR WHOLE (unlike; 1 .. 99; each two in that order once)");
        whole(TWO + "debt a b ", 1, 99, "", 2);
        FigureKnee x = bounds.good(TWO + "debt a b 99;debt b a 1", 2);
        due("owes(0, 1)", x.owes(0, 1), 99);
        due("owes(1, 0)", x.owes(1, 0), 1);
        bounds.faultAt(TWO + "debt a !a 1", 3);
        bounds.faultAt(TWO + "debt b !b 1", 3);
        bounds.faultAt(TWO + "debt a b 1;debt a !b 1", 3);
        bounds.faultAt(TWO + "debt a b 1;debt b a 1;debt a !b 1", 3);
        bounds.faultAt(TWO + "debt a b 1;debt b a 1;debt b !a 0", 3);
    }

    private static void boundsOfUnsure() {
        check.sentence("I: unsure PAIR WHOLE (0 .. 20; each once)");
        whole(TWO + "unsure b ", 0, 20, "", 2);
        bounds.good(TWO + "unsure b 0;unsure a 20", 2);
        bounds.good(TWO + "unsure a 3", 2);
        bounds.faultAt(TWO + "unsure a 0;unsure !a 1", 3);
        bounds.faultAt(TWO + "unsure a 0;unsure b 0;unsure !b 21", 3);
    }

    private static void boundsOfHeard() {
        check.sentence("I: heard PAIR season WHOLE figure WHOLE (1 .. 30; 0 .. words; each season of a PAIR once)");
        whole(TWO + "heard b season ", 1, 30, " figure 0", 2);
        whole(TWO + "heard b season 1 figure ", 0, 10, "", 2);
        String small = "pier words 2 dumb 0;pair a fading figure 0 step 0;";
        whole(small + "heard a season 1 figure ", 0, 2, "", 1);
        bounds.good(TWO + "heard a season 30 figure 0;heard b season 30 figure 0;heard a season 29 figure 0", 2);
        bounds.faultAt(TWO + "heard a season 30 figure 0;heard a season !30 figure 1", 3);
        bounds.faultAt(TWO + "heard b season 1 figure 0;heard a season 1 figure 0;heard b season !1 figure 11", 3);
        bounds.faultAt(TWO + "heard b season 7 figure 0;heard b season !007 figure 0", 3);
    }

    private static String fivePairs() {
        StringBuilder text = new StringBuilder("pier words 99 dumb 100");
        for (char name = 'a'; name <= 'e'; name++) {
            text.append(";pair ").append(name).append(" creeping figure 99 step 20");
        }
        return text.toString();
    }

    private static String fullText() {
        StringBuilder text = new StringBuilder(fivePairs());
        for (char name = 'a'; name <= 'e'; name++) {
            text.append(";contract ").append(name).append(" every 9");
        }
        for (String two : new String[] {"a b", "b a", "a c", "c a", "a d", "d a", "a e", "e a", "b c", "e d"}) {
            text.append(";debt ").append(two).append(" 99");
        }
        for (char name = 'b'; name <= 'e'; name++) {
            text.append(";unsure ").append(name).append(" 20");
        }
        for (int season = 23; season <= 30; season++) {
            text.append(";heard e season ").append(season).append(" figure 99");
        }
        return text.toString();
    }

    private static void fullPier() {
        check.sentence("I: pairs up to 5, debts up to 10, unsure ones up to 4, heard ones up to 8");
        FigureKnee x = bounds.good(fullText(), 5);
        int[] sizes = {99, 100, 5, 5, 10, 4, 8};
        for (int what = 0; what < 7; what++) {
            due("size(" + what + ")", x.size(what), sizes[what]);
        }
        for (int p = 0; p < 5; p++) {
            due("pair(" + p + ", 1)", x.pair(p, 1), 99);
            due("pair(" + p + ", 3)", x.pair(p, 3), 20);
            due("pair(" + p + ", 4)", x.pair(p, 4), 9);
        }
        due("owes(4, 3)", x.owes(4, 3), 99);
    }

    // ---- NAMES

    private static void names() {
        check.sentence("I: NAMES are WORDS but pier, pair, contract, debt, unsure, heard");
        for (String head : HEADS) {
            bounds.faultAt(HEAD + "pair !" + head + " fading figure 0 step 0", 1);
            bounds.faultAt(TWO + "contract !" + head + " every 1", 1);
            bounds.faultAt(TWO + "debt !" + head + " a 1", 1);
            bounds.faultAt(TWO + "debt a !" + head + " 1", 1);
            bounds.faultAt(TWO + "unsure !" + head + " 1", 1);
            bounds.faultAt(TWO + "heard !" + head + " season 1 figure 0", 1);
        }
        String[] others = {"words", "dumb", "figure", "step", "every", "season", "creeping", "leaping", "fading",
            "swinging", "pie", "piers", "pai", "pairs", "contrac", "xontract", "deb", "debts", "unsur", "unsures", "hear", "heards"};
        for (String name : others) {
            String line = HEAD + "pair " + name + " fading figure 0 step 0";
            bounds.good(line + ";contract " + name + " every 1;unsure " + name + " 1;heard " + name + " season 1 figure 0", 1);
        }
        check.sentence("I: each told once");
        bounds.good(HEAD + "pair a fading figure 0 step 0;pair aa fading figure 0 step 0;pair ab fading figure 0 step 0;"
            + "pair abcdefgh fading figure 0 step 0;pair abcdefgi fading figure 0 step 0", 5);
        bounds.faultAt(TWO + "pair !a creeping figure 0 step 0", 3);
        bounds.faultAt(TWO + "pair !b creeping figure 0 step 0", 3);
        bounds.faultAt(HEAD + "pair abcdefgh fading figure 0 step 0;pair !abcdefgh fading figure 0 step 0", 3);
    }

    private static void namesAheadOfUse() {
        check.sentence("I: 2 a NAME that isn't told; at it");
        String pairC = ";pair c fading figure 0 step 0";
        bounds.faultAt(TWO + "contract !c every 1" + pairC, 2);
        bounds.faultAt(TWO + "debt !c a 1" + pairC, 2);
        bounds.faultAt(TWO + "debt a !c 1" + pairC, 2);
        bounds.faultAt(TWO + "debt !c c 1" + pairC, 2);
        bounds.faultAt(TWO + "unsure !c 1" + pairC, 2);
        bounds.faultAt(TWO + "heard !c season 1 figure 0" + pairC, 2);
        bounds.faultAt(TWO + "contract !aa every 1", 2);
        bounds.faultAt(HEAD + "pair ab fading figure 0 step 0;contract !a every 1", 2);
        bounds.faultAt(HEAD + "contract !a every 1", 2);
        bounds.good(TWO + "pair c fading figure 0 step 0;contract c every 1;debt c a 1;debt b c 1;unsure c 1;heard c season 1 figure 0", 3);
    }

    // ---- FAULTS

    /** Each LINE, cut behind each of its TOKENS. */
    private static void endOfText() {
        check.sentence("I: FORM: TOKEN with which no PIER goes on (the end: its place)");
        String[] lines = {"pier words 10 dumb 50", "pair c fading figure 3 step 3", "contract a every 3", "debt a b 3",
            "unsure a 3", "heard a season 3 figure 3"};
        for (String line : lines) {
            String before = line.startsWith("pier") ? "" : TWO;
            String[] tokens = line.split(" ");
            StringBuilder part = new StringBuilder(before);
            for (int i = 0; i < tokens.length; i++) {
                bounds.fault(part.toString(), 1, part.length());
                bounds.fault(part + "  ", 1, part.length() + 2);
                bounds.fault(part + " ;", 1, part.length() + 1);
                bounds.fault(part + " ? ", 1, part.length() + 1);
                boolean isWhole = Character.isDigit(tokens[i].charAt(0));
                bounds.fault(part + (isWhole ? " word" : " 3"), 1, part.length() + 1);
                if (!isWhole && !tokens[i].matches("[abc]")) {
                    bounds.fault(part + " " + tokens[i] + "s", 1, part.length() + 1);
                }
                part.append(i == 0 ? "" : " ").append(tokens[i]);
            }
            bounds.fault(part + " 3", 1, part.length() + 1);
            bounds.fault(part + " word", 1, part.length() + 1);
            bounds.fault(part + ";", 1, part.length() + 1);
        }
    }

    private static void againFaults() {
        check.sentence("I: 3 a second pier: at that WORD");
        bounds.faultAt(HEAD + "!pier words 10 dumb 50;pair a fading figure 0 step 0", 3);
        bounds.faultAt(TWO + "!pier", 3);
        bounds.faultAt(TWO + " !pier ?", 3);
        bounds.faultAt(fullText() + ";!pier words 2 dumb 0", 3);
        check.sentence("I: 3 a PAIR that has a contract, is unsure already; at it");
        bounds.faultAt(TWO + "contract a every 1;contract !a", 3);
        bounds.faultAt(TWO + "contract a every 1;contract !a ?", 3);
        bounds.faultAt(TWO + "unsure a 3;unsure !a", 3);
        bounds.good(TWO + "contract a every 1;unsure a 3", 2);
        check.sentence("I: 3 a second PAIR of a debt that is the first, or to which that one owes already; at it");
        bounds.faultAt(TWO + "debt a !a", 3);
        bounds.faultAt(TWO + "debt a b 1;debt a !b", 3);
        check.sentence("I: 3 a season of a PAIR heard already; at that WHOLE");
        bounds.faultAt(TWO + "heard a season 3 figure 0;heard a season !3", 3);
        check.sentence("I: 3 a NAME told again; at it");
        bounds.faultAt(TWO + "pair !a", 3);
    }

    private static void manyFaults() {
        check.sentence("I: 5 MANY: a LINE more of its sort than there is room for, at its first WORD");
        String full = fullText();
        for (String line : new String[] {"pair", "debt", "unsure", "heard"}) {
            bounds.faultAt(full + ";!" + line, 5);
            bounds.faultAt(full + "; !" + line + " ?", 5);
        }
        bounds.faultAt(full + ";!pair a creeping figure 0 step 0", 5);
        bounds.faultAt(full + ";!pair f creeping figure 0 step 0", 5);
        bounds.faultAt(full + ";!debt b d 1", 5);
        bounds.faultAt(full + ";!debt a a 1", 5);
        bounds.faultAt(full + ";!unsure a 1", 5);
        bounds.faultAt(full + ";!unsure b 1", 5);
        bounds.faultAt(full + ";!heard a season 1 figure 0", 5);
        bounds.faultAt(full + ";!heard e season 30 figure 0", 5);
        bounds.faultAt(full + ";contract !a every 1", 3);
        bounds.faultAt(full + ";contract !f every 1", 2);
    }

    private static void lacksFaults() {
        check.sentence("I: 6 LACKS: any LINE ahead of the pier; at its WORD");
        for (String line : new String[] {"pair a fading figure 3 step 3", "contract a every 3", "debt a b 3", "unsure a 3",
            "heard a season 3 figure 3"}) {
            bounds.faultAt("!" + line + ";" + HEAD + "pair a fading figure 0 step 0", 6);
            bounds.faultAt("  !" + line, 6);
            bounds.faultAt("!" + line.substring(0, line.indexOf(' ')), 6);
            bounds.faultAt("!" + line.substring(0, line.indexOf(' ')) + " ?", 6);
        }
        check.sentence("I: 6 LACKS: at the end: no pair");
        bounds.faultAt("pier words 10 dumb 50!", 6);
        bounds.faultAt("pier words 10 dumb 50   !", 6);
        bounds.good("pier words 10 dumb 50;pair a fading figure 0 step 0", 1);
    }

    private static void firstFromLeft() {
        check.sentence("I: FAULTS, the first that is met from the left");
        String form = "?";
        String bad = "pair c fading figure 11 step 3";
        String unknown = "contract f every 1";
        String again = "pair a fading figure 0 step 0";
        String second = "pier words 10 dumb 50";
        String[] parts = {form, unknown, again, bad, second};
        int[] numbers = {1, 2, 3, 4, 3};
        int[] places = {0, 9, 5, 21, 0};
        for (int i = 0; i < parts.length; i++) {
            for (String behind : parts) {
                bounds.fault(TWO + parts[i] + ";" + behind, numbers[i], TWO.length() + places[i]);
            }
        }
        String full = fullText() + ";";
        for (String behind : parts) {
            bounds.fault(full + "pair x;" + behind, 5, full.length());
        }
        bounds.faultAt(full + "!?;pair x", 1);
        bounds.faultAt("!pair ?;" + second, 6);
        bounds.faultAt("pier words !1 dumb 101", 4);
        bounds.faultAt("pier words 10 dumb !101;", 4);
        bounds.faultAt("pier words !1", 4);
        bounds.faultAt(TWO + "debt !f a 0", 2);
        bounds.faultAt(TWO + "heard a season !31 figure 11", 4);
        bounds.faultAt(TWO + "contract !f every 10", 2);
    }

    private static void leastNumber() {
        check.sentence("I: of one place the least number");
        bounds.faultAt("pier words 10 dumb 50;!", 1);
        bounds.faultAt("pier words 10 dumb 50 ;  !", 1);
        bounds.faultAt("pier words 10 dumb!", 1);
        bounds.faultAt("pier!", 1);
        bounds.faultAt("pier words 10 dumb 50;pair a fading figure 0 step!", 1);
    }
}
