/** What can be seen of an object, as one text. An object is spent behind it: TROUBLE and more has changed. */
final class Picture {
    private static final int PAIRS = 5;
    private static final int IMAGES = 3;

    private Picture() {
    }

    /** All that there is: NOW, what can be undone, the IMAGES, the latest FAULT and THE TAPE. */
    static String whole(FigureKnee x) {
        StringBuilder picture = new StringBuilder();
        picture.append("fault ").append(x.fault()).append(" tape ").append(x.size(10)).append(' ');
        picture.append(ofPier(x));
        picture.append(" read ").append(x.pier(x.size(10))).append(" fault ").append(x.fault());
        picture.append(" at ").append(x.where());
        return picture.toString();
    }

    /** All but the latest FAULT and THE TAPE. */
    static String ofPier(FigureKnee x) {
        StringBuilder picture = new StringBuilder();
        for (int what = 0; what < 7; what++) {
            picture.append(x.size(what)).append(' ');
        }
        for (int p = 0; p < PAIRS; p++) {
            picture.append(x.pair(p, 0)).append(x.pair(p, 4)).append(' ');
        }
        picture.append(x.fits()).append(' ').append(x.judge());
        lookAtNow(picture, x);
        for (int i = 0; i < 20 && x.undo(); i++) {
            lookAtNow(picture, x);
        }
        for (int image = 0; image < IMAGES; image++) {
            if (x.back(image)) {
                picture.append(" image ").append(image);
                lookAtNow(picture, x);
            }
        }
        return picture.toString();
    }

    private static void lookAtNow(StringBuilder picture, FigureKnee x) {
        picture.append(" [").append(x.size(7)).append(' ').append(x.size(8)).append(' ').append(x.size(9)).append(';');
        for (int p = 0; p < PAIRS; p++) {
            picture.append(' ').append(x.pair(p, 1)).append('+').append(x.pair(p, 3));
            for (int to = 0; to < PAIRS; to++) {
                picture.append(p == to ? ' ' : ',').append(p == to ? 0 : x.owes(p, to));
            }
        }
        picture.append(']');
    }
}
