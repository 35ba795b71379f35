import java.util.NoSuchElementException;

/** Counts answers that are not as due, and brings texts onto THE TAPE. */
final class Check {
    /** Stands for an exception in a row of answers. */
    static final long THROWS = Long.MIN_VALUE;
    /** The longest test takes some ten seconds. */
    private static final long LONGEST_MILLIS = 5 * 60 * 1000L;
    private int asked;
    private int wrong;
    private volatile String place = "";

    /** A call that never answers must fail its test: nobody would see what was wrong with one that hangs. */
    Check() {
        Thread watch = new Thread(this::endLate);
        watch.setDaemon(true);
        watch.start();
    }

    private void endLate() {
        try {
            Thread.sleep(LONGEST_MILLIS);
        } catch (InterruptedException e) {
            return;
        }
        System.out.println(place + ": a call did not answer in time, or a test takes too long");
        Runtime.getRuntime().halt(1);
    }

    /** What is asked from here on belongs to a promise. */
    void promise(int number) {
        place = "promise " + number;
    }

    /** What is asked from here on belongs to a sentence of the document. */
    void sentence(String words) {
        place = words;
    }

    void due(String call, long got, long want) {
        asked++;
        if (got != want) {
            wrong++;
            System.out.println(place + ": " + call + " answered " + got + ", due is " + want);
        }
    }

    void due(String what, String got, String want) {
        asked++;
        if (!got.equals(want)) {
            wrong++;
            System.out.println(place + ": " + what + " is " + got + ", due is " + want);
        }
    }

    void due(String call, boolean got, boolean want) {
        due(call, got ? 1 : 0, want ? 1 : 0);
    }

    /** Feeds a text, with blanks behind it up to twenty bytes; README.md shows this as it stands. */
    static void feed(FigureKnee x, String text) {
        for (int from = 0; from < text.length(); from += 20) {
            int[] row = new int[5];
            for (int i = 0; i < 20; i++) {
                int sign = from + i < text.length() ? text.charAt(from + i) : ' ';
                row[i / 4] = row[i / 4] << 8 | sign & 255;
            }
            x.feed(row[0], row[1], row[2], row[3], row[4]);
        }
    }

    static int pier(FigureKnee x, String text) {
        feed(x, text);
        return x.pier(text.length());
    }

    static FigureKnee of(String text) {
        FigureKnee x = new FigureKnee();
        if (pier(x, text) < 0) {
            throw new IllegalStateException(x.fault() + " at " + x.where() + ": " + text);
        }
        return x;
    }

    static long led(FigureKnee x, int i) {
        try {
            return x.led(i);
        } catch (NoSuchElementException e) {
            return THROWS;
        }
    }

    /** Ends the program with exit code 1 if an answer was not as due. */
    void end() {
        System.out.println(wrong == 0 ? asked + " answers are as due" : wrong + " of " + asked + " answers are not as due");
        if (wrong != 0) {
            System.exit(1);
        }
    }
}
