/** Promises 34 to 43: setups and orders. */
final class SetupsAndOrdersTest {
    private static final Due due = new Due();

    public static void main(String[] args) {
        dear();
        setups();
        first();
        orders();
        ordersAsLaidOut();
        checksum();
        brokenShare();
        meanLength();
        isSound();
        due.end();
    }

    private static void dear() {
        ThumbnailRow reel = Reels.oneDropped();
        due.is("dear", reel.dear(0, true), false);
        due.is("dear again", reel.dear(0, true), true);
        due.is("dear no more", reel.dear(0, false), true);
        due.is("dear not", reel.dear(0, false), false);
        due.is("dear is no change", reel.version(0), 0);
        due.is("dear, dropped", reel.dear(1, true), false);
        due.is("dear, dropped, again", reel.dear(1, false), true);
    }

    private static void setups() {
        ThumbnailRow reel = Reels.three();
        due.is("setups of three", reel.setups(), 2);
        due.is("days of three", reel.days(), 1);
        reel.camera(2, 's', 3);
        due.is("setups after a change", reel.setups(), 3);
        reel.drop(1);
        due.is("setups after a drop", reel.setups(), 2);
        reel.shot('s', 3, 9, 0);
        due.is("setups with one more of one", reel.setups(), 2);
    }

    private static void first() {
        ThumbnailRow reel = Reels.three();
        due.is("first of none", reel.first(), 0);
        reel.dear(0, true);
        reel.dear(2, true);
        due.is("first of one with two", reel.first(), 1);
        reel.dear(1, true);
        due.is("first of two", reel.first(), 2);
        reel.drop(1);
        due.is("first without the dropped", reel.first(), 1);
        reel.camera(2, 'n', 0);
        due.is("first after a change", reel.first(), 2);
        reel.dear(0, false);
        due.is("first of one", reel.first(), 1);
    }

    private static void orders() {
        ThumbnailRow reel = Reels.three();
        due.is("orders of three", reel.orders(), 0);
        due.is("best of three", reel.best(), 1);
        reel.excuse(1, 'x');
        reel.excuse(2, 'x');
        due.is("orders though excused", reel.orders(), 0);
        due.is("best though excused", reel.best(), 1);
        reel.shot('0', 0, 1, 0);
        due.is("orders with one between", reel.orders(), 4);
        due.is("best with one between", reel.best(), 0);
        due.is("orders leave the reel", Reels.order(reel), "3 0 1 2");
        ThumbnailRow oneWay = Reels.pair();
        oneWay.stand(0, 0, 'c', 'c');
        oneWay.stand(1, 0, 'c', 'c');
        oneWay.leaves(0, 0, 'l');
        oneWay.enters(1, 0, 'l');
        due.is("orders of one way", oneWay.orders(), 1);
        due.is("best of one way", oneWay.best(), 0);
    }

    /** The same shots laid out in each order by hand, each in a reel of its own. */
    private static void ordersAsLaidOut() {
        for (int seed = 0; seed < 40; seed++) {
            int count = 1 + seed % 6;
            int good = 0;
            int least = count;
            int all = factorial(count);
            for (int order = 0; order < all; order++) {
                int faults = faultsOf(laidOut(seed, count, order));
                good += faults == 0 ? 1 : 0;
                least = Math.min(least, faults);
            }
            due.is("orders of reel " + seed, laidOut(seed, count, 0).orders(), good);
            due.is("best of reel " + seed, laidOut(seed, count, all - 1).best(), least);
        }
    }

    private static int factorial(int count) {
        return count < 2 ? 1 : count * factorial(count - 1);
    }

    private static int faultsOf(ThumbnailRow reel) {
        int faults = 0;
        for (int place = 1; place < reel.shots(); place++) {
            faults += reel.wrong(place) == '-' ? 0 : 1;
        }
        return faults;
    }

    private static ThumbnailRow laidOut(int seed, int count, int order) {
        java.util.Random random = new java.util.Random(seed);
        ThumbnailRow reel = new ThumbnailRow();
        int rest = order;
        for (int i = 0; i < count; i++) {
            int shot = reel.shot("sn00".charAt(random.nextInt(4)), random.nextInt(2), 10, rest % (i + 1));
            rest /= i + 1;
            for (int character = 0; character < 2; character++) {
                boolean isIn = random.nextBoolean();
                char place = "lcr".charAt(random.nextInt(3));
                char gaze = "lcr".charAt(random.nextInt(3));
                char entry = "lr--".charAt(random.nextInt(4));
                char exit = "lr--".charAt(random.nextInt(4));
                if (isIn) {
                    reel.stand(shot, character, place, gaze);
                    reel.enters(shot, character, entry);
                    reel.leaves(shot, character, exit);
                }
            }
        }
        return reel;
    }

    private static void checksum() {
        ThumbnailRow reel = new ThumbnailRow();
        due.is("checksum of none", reel.checksum(), 7L);
        reel.shot('s', 1, 24, 0);
        due.is("checksum of one", reel.checksum(), ((7L * 31 + 0) * 31 + 24) * 31 + 0);
        reel.shot('s', 1, 10, 0);
        reel.camera(1, 's', 2);
        long two = ((((7L * 31 + 1) * 31 + 10) * 31 + 1) * 31 + 0) * 31 + 24;
        due.is("checksum of two", reel.checksum(), two * 31);
        reel.note(0);
        reel.note(1);
        reel.note(1);
        reel.close(1, true);
        reel.length(1, 11);
        two = ((((7L * 31 + 1) * 31 + 11) * 31 + 2) * 31 + 0) * 31 + 24;
        due.is("checksum with notes", reel.checksum(), ((two * 31 * 31 + 'o') * 31 + 'd') * 31 + 's');
        reel.lock();
        reel.dear(0, true);
        reel.hand(0, 1);
        due.is("checksum of the reel alone", reel.checksum(), ((two * 31 * 31 + 'o') * 31 + 'd') * 31 + 's');
        reel.drop(1);
        long one = ((7L * 31 + 0) * 31 + 24) * 31;
        due.is("checksum after a drop", reel.checksum(), ((one * 31 + 'o') * 31 + 'd') * 31 + 's');
        long many = 7;
        for (int i = 0; i < 24; i++) {
            many = ((many * 31 + i) * 31 + 10) * 31;
        }
        due.is("checksum that wraps round", Reels.plain(24).checksum(), many);
    }

    private static void brokenShare() {
        ThumbnailRow reel = Reels.three();
        due.is("brokenShare of all", reel.brokenShare(), 1.0f);
        reel.excuse(1, 'x');
        due.is("brokenShare of half", reel.brokenShare(), 0.5f);
        reel.shot('0', 1, 1, 3);
        due.is("brokenShare of a third", reel.brokenShare(), 1.0f / 3.0f);
        due.is("brokenShare of none broken", Reels.pair().brokenShare(), 0.0f);
    }

    private static void meanLength() {
        due.is("meanLength of three", Reels.three().meanLength(), 28.0);
        due.is("meanLength of two", Reels.oneDropped().meanLength(), 18.0);
        ThumbnailRow reel = Reels.three();
        reel.length(0, 25);
        due.is("meanLength of a third", reel.meanLength(), 85.0 / 3.0);
        due.is("meanLength of one", Reels.plain(1).meanLength(), 10.0);
    }

    private static void isSound() {
        ThumbnailRow reel = Reels.three();
        due.is("isSound", reel.isSound(), true);
        reel.stand(0, 0, 'l', 'l');
        reel.enters(0, 0, 'l');
        reel.leaves(0, 0, 'l');
        reel.stand(0, 0, '-', 'l');
        reel.note(0);
        reel.note(1);
        reel.note(2);
        reel.close(0, true);
        reel.close(1, false);
        reel.length(2, 1);
        reel.note(2);
        reel.note(2);
        reel.note(2);
        for (int i = 0; i < 3; i++) {
            reel.close(reel.note(2), false);
        }
        due.is("isSound after changes", reel.isSound(), true);
        reel.lock();
        reel.move(2, 0);
        reel.shot('s', 1, 2, 1);
        reel.shot('s', 1, 2, 0);
        reel.drop(1);
        due.is("isSound after locking", reel.isSound(), true);
    }
}
