/** Reels that several tests begin with. */
final class Reels {
    private Reels() {
    }

    static ThumbnailRow empty() {
        return new ThumbnailRow();
    }

    /** Shots 0, 1, 2 with the lengths 24, 48, 12; the middle one is across the line. */
    static ThumbnailRow three() {
        ThumbnailRow reel = new ThumbnailRow();
        reel.shot('s', 1, 24, 0);
        reel.shot('n', 1, 48, 1);
        reel.shot('s', 1, 12, 2);
        return reel;
    }

    /** Three with shot 1 dropped: 0 and 2 are left. */
    static ThumbnailRow oneDropped() {
        ThumbnailRow reel = three();
        reel.drop(1);
        return reel;
    }

    static ThumbnailRow lockedThree() {
        ThumbnailRow reel = three();
        reel.lock();
        return reel;
    }

    /** So many shots, all from one setup, without a character. */
    static ThumbnailRow plain(int count) {
        ThumbnailRow reel = new ThumbnailRow();
        for (int i = 0; i < count; i++) {
            reel.shot('0', 2, 10, i);
        }
        return reel;
    }

    /** So many shots, and one of them dropped. */
    static ThumbnailRow droppedOf(int count, int dropped) {
        ThumbnailRow reel = plain(count);
        reel.drop(dropped);
        return reel;
    }

    /** Locked while empty, with so many letters of number 0 used. */
    static ThumbnailRow lettersUsed(int count) {
        ThumbnailRow reel = new ThumbnailRow();
        reel.lock();
        for (int i = 0; i < count; i++) {
            reel.shot('s', 1, 24, 0);
        }
        return reel;
    }

    /** As many shots as are needed for this one, with this character alone in it. */
    static ThumbnailRow standing(int shot, int character) {
        ThumbnailRow reel = plain(shot + 1);
        reel.stand(shot, character, 'l', 'l');
        return reel;
    }

    /** Three with character 2 in the shots 0 and 1, of which 1 is dropped. */
    static ThumbnailRow oneIn() {
        ThumbnailRow reel = three();
        reel.stand(0, 2, 'l', 'l');
        reel.stand(1, 2, 'l', 'l');
        reel.drop(1);
        return reel;
    }

    /** Two shots of different setups on the line, with nobody in them yet. */
    static ThumbnailRow pair() {
        ThumbnailRow reel = new ThumbnailRow();
        reel.shot('0', 0, 10, 0);
        reel.shot('0', 1, 10, 1);
        return reel;
    }

    /** Three with shot 0 in hand 2. */
    static ThumbnailRow handedOut() {
        ThumbnailRow reel = three();
        reel.hand(0, 2);
        return reel;
    }

    /** Shots 0 and 2, with so many notes on shot 0. */
    static ThumbnailRow notesOn(int count) {
        ThumbnailRow reel = oneDropped();
        for (int i = 0; i < count; i++) {
            reel.note(0);
        }
        return reel;
    }

    /** Notes 0 done, 1 refused, 2 stale on shot 0; 3 stale on shot 1, which is dropped. */
    static ThumbnailRow closedAndStale() {
        ThumbnailRow reel = three();
        reel.note(0);
        reel.note(0);
        reel.note(0);
        reel.note(1);
        reel.close(0, true);
        reel.close(1, false);
        reel.length(0, 99);
        reel.drop(1);
        return reel;
    }

    static String order(ThumbnailRow reel) {
        StringBuilder text = new StringBuilder();
        for (int place = 0; place < reel.shots(); place++) {
            text.append(place == 0 ? "" : " ").append(reel.at(place));
        }
        return text.toString();
    }
}
