/** Reels that several tests begin with. */
final class Reels {
    private Reels() {
    }

    static ThumbnailRow empty() {
        return new ThumbnailRow();
    }

    /** Shots 0, 1, 2 with the lengths 24, 48, 12; the middle one is across the line. */
    static ThumbnailRow three() {
        ThumbnailRow reel = new ThumbnailRow();
        reel.shot('s', 1, 24, 0);
        reel.shot('n', 1, 48, 1);
        reel.shot('s', 1, 12, 2);
        return reel;
    }

    /** Three with shot 1 dropped: 0 and 2 are left. */
    static ThumbnailRow oneDropped() {
        ThumbnailRow reel = three();
        reel.drop(1);
        return reel;
    }

    static ThumbnailRow lockedThree() {
        ThumbnailRow reel = three();
        reel.lock();
        return reel;
    }

    /** So many shots, all from one setup, without a character. */
    static ThumbnailRow plain(int count) {
        ThumbnailRow reel = new ThumbnailRow();
        for (int i = 0; i < count; i++) {
            reel.shot('0', 2, 10, i);
        }
        return reel;
    }

    /** Two shots of different setups on the line, with nobody in them yet. */
    static ThumbnailRow pair() {
        ThumbnailRow reel = new ThumbnailRow();
        reel.shot('0', 0, 10, 0);
        reel.shot('0', 1, 10, 1);
        return reel;
    }

    static String order(ThumbnailRow reel) {
        StringBuilder text = new StringBuilder();
        for (int place = 0; place < reel.shots(); place++) {
            text.append(place == 0 ? "" : " ").append(reel.at(place));
        }
        return text.toString();
    }
}
