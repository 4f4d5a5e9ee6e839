import java.math.BigInteger;

/** The edges of promises 34 to 43: a sentence of the document each, and what is asked to hold it to. */
final class SetupsAndOrdersEdgesTest {
    private static final int LEAST = Integer.MIN_VALUE;
    private static final int MOST = Integer.MAX_VALUE;
    private static final Due due = new Due();

    public static void main(String[] args) {
        dear();
        setups();
        first();
        days();
        daysBySetups();
        orders();
        best();
        checksum();
        checksumWraps();
        brokenShare();
        meanLength();
        isSound();
        due.end();
    }

    private static void dear() {
        due.says("Promise 34: Returns whether it was");
        ThumbnailRow reel = Reels.plain(24);
        due.is("at first", reel.dear(23, false), false);
        due.is("told so", reel.dear(23, true), false);
        due.is("told so again", reel.dear(23, true), true);
        due.is("told not so", reel.dear(23, false), true);
        due.is("told not so again", reel.dear(23, false), false);
        due.is("of the dropped", Reels.oneDropped().dear(1, true), false);
        due.says("Promise 34: Throws IndexOutOfBoundsException if there is no such shot");
        due.refusesEach("dear", Reels::three, Due.NO_INDEX, (r, shot) -> r.dear(shot, true), -1, 3, LEAST, MOST);
        due.refusesEach("dear, of none", Reels::empty, Due.NO_INDEX, (r, shot) -> r.dear(shot, false), 0);
        due.refusesEach("dear, of 24", () -> Reels.plain(24), Due.NO_INDEX, (r, shot) -> r.dear(shot, true), 24);
    }

    /** So many shots, the first fifteen of which are each of a setup of its own. */
    private static ThumbnailRow manySetups(int count) {
        ThumbnailRow reel = new ThumbnailRow();
        for (int i = 0; i < count; i++) {
            reel.shot("sn0".charAt(i % 15 / 5), i % 5, 1, i);
        }
        return reel;
    }

    private static void setups() {
        due.says("Terms: Shots of the reel with the same side and lens are of one setup");
        due.is("of none", Reels.empty().setups(), 0);
        due.is("of one shot", Reels.plain(1).setups(), 1);
        due.is("of 24 shots alike", Reels.plain(24).setups(), 1);
        due.is("all there are", manySetups(15).setups(), 15);
        due.is("all there are, some twice", manySetups(24).setups(), 15);
        due.is("the sides alone", Reels.three().setups(), 2);
        due.is("the lenses alone", manySetups(5).setups(), 5);
        ThumbnailRow dropped = manySetups(15);
        dropped.drop(14);
        due.is("without the dropped", dropped.setups(), 14);
        ThumbnailRow emptied = Reels.droppedOf(1, 0);
        due.is("of none, one dropped", emptied.setups(), 0);
    }

    private static void first() {
        due.says("Promise 36: Returns how many setups have a dear shot");
        due.is("of none", Reels.empty().first(), 0);
        due.is("none dear", manySetups(24).first(), 0);
        ThumbnailRow all = manySetups(24);
        for (int shot = 0; shot < 24; shot++) {
            all.dear(shot, true);
        }
        due.is("all dear", all.first(), 15);
        all.drop(14);
        due.is("the only one of its setup dropped", all.first(), 14);
        all.drop(0);
        due.is("one of two of its setup dropped", all.first(), 14);
        ThumbnailRow only = Reels.plain(24);
        only.dear(23, true);
        due.is("one dear of one setup", only.first(), 1);
        only.drop(23);
        due.is("that one dropped", only.first(), 0);
    }

    private static void days() {
        due.says("Terms: Days are so many as are needed for 20 shots a day");
        due.is("of none", Reels.empty().days(), 0);
        due.is("of one", Reels.plain(1).days(), 1);
        due.is("of 20", Reels.plain(20).days(), 1);
        due.is("of 21", Reels.plain(21).days(), 2);
        due.is("of 24", Reels.plain(24).days(), 2);
        due.is("of 21, one dropped", Reels.droppedOf(21, 0).days(), 1);
    }

    private static void daysBySetups() {
        due.says("Terms: Days are so many as are needed for 4 setups a day");
        int[] wanted = {0, 1, 1, 1, 1, 2, 2, 2, 2, 3, 3, 3, 3, 4, 4, 4};
        for (int count = 0; count <= 15; count++) {
            due.is("of " + count + " setups", manySetups(count).days(), wanted[count]);
        }
        due.says("Terms: the greater one, rounded up");
        due.is("of 15 setups in 24 shots", manySetups(24).days(), 4);
        ThumbnailRow fewSetups = Reels.plain(20);
        for (int lens = 0; lens < 4; lens++) {
            fewSetups.camera(lens, 's', lens);
        }
        due.is("of 5 setups in 20 shots", fewSetups.days(), 2);
        fewSetups.camera(0, 's', 1);
        due.is("of 4 setups in 20 shots", fewSetups.days(), 1);
        fewSetups.shot('s', 1, 1, 0);
        due.is("of 4 setups in 21 shots", fewSetups.days(), 2);
    }

    private static void orders() {
        due.says("Terms: it is good if nothing would be wrong with any cut of it, excused or not");
        int[] all = {1, 2, 6, 24, 120, 720};
        for (int count = 1; count <= 6; count++) {
            due.is("of " + count + " shots", Reels.plain(count).orders(), all[count - 1]);
        }
        ThumbnailRow wrong = Reels.three();
        due.is("none", wrong.orders(), 0);
        wrong.excuse(1, 'x');
        wrong.excuse(2, 'x');
        due.is("none, though excused", wrong.orders(), 0);
        due.is("those of six, one dropped", Reels.droppedOf(7, 3).orders(), 720);
        due.says("Promise 38: Throws UnsupportedOperationException if there are more than 6 shots in the reel");
        due.refuses("of 7", () -> Reels.plain(7), Due.NOT_NOW, ThumbnailRow::orders);
        due.refuses("of 24", () -> Reels.plain(24), Due.NOT_NOW, ThumbnailRow::orders);
        due.says("Promise 38: Throws UnsupportedOperationException if there are none");
        due.refuses("of none", Reels::empty, Due.NOT_NOW, ThumbnailRow::orders);
        due.refuses("of none, one dropped", () -> Reels.droppedOf(1, 0), Due.NOT_NOW, ThumbnailRow::orders);
    }

    private static ThumbnailRow crossing(int count) {
        ThumbnailRow reel = new ThumbnailRow();
        for (int i = 0; i < count; i++) {
            reel.shot(i % 2 == 0 ? 's' : 'n', 0, 1, i);
        }
        return reel;
    }

    private static void best() {
        due.says("Promise 39: Returns the least number of cuts that would be wrong, excused or not, in some order");
        due.is("of one shot", Reels.plain(1).best(), 0);
        due.is("of six without a fault", Reels.plain(6).best(), 0);
        due.is("of two across the line", crossing(2).best(), 1);
        due.is("of six across the line", crossing(6).best(), 1);
        ThumbnailRow jumps = Reels.plain(6);
        for (int shot = 0; shot < 6; shot++) {
            jumps.stand(shot, 0, 'c', 'c');
        }
        due.is("of six, all cuts wrong", jumps.best(), 5);
        ThumbnailRow excused = crossing(2);
        excused.excuse(1, 'x');
        due.is("of two, excused", excused.best(), 1);
        due.is("of six, one dropped", Reels.droppedOf(7, 3).best(), 0);
        due.says("Promise 39: Throws UnsupportedOperationException if there are more than 6 shots in the reel");
        due.refuses("of 7", () -> Reels.plain(7), Due.NOT_NOW, ThumbnailRow::best);
        due.refuses("of 24", () -> Reels.plain(24), Due.NOT_NOW, ThumbnailRow::best);
        due.says("Promise 39: Throws UnsupportedOperationException if there are none");
        due.refuses("of none", Reels::empty, Due.NOT_NOW, ThumbnailRow::best);
        due.refuses("of none, one dropped", () -> Reels.droppedOf(1, 0), Due.NOT_NOW, ThumbnailRow::best);
    }

    private static void checksum() {
        due.says("Promise 40: Returns 7 at first");
        due.is("of none", Reels.empty().checksum(), 7L);
        due.is("of none, one dropped", Reels.droppedOf(1, 0).checksum(), 7L);
        due.says("Promise 40: then for each note 31 times itself plus its letter as a number");
        ThumbnailRow reel = Reels.plain(1);
        for (int i = 0; i < 4; i++) {
            reel.note(0);
        }
        reel.close(1, true);
        reel.close(2, false);
        long shots = ((7L * 31 + 0) * 31 + 10) * 31 + 0;
        due.is("o d r o", reel.checksum(), (((shots * 31 + 111) * 31 + 100) * 31 + 114) * 31 + 111);
        reel.drop(0);
        due.is("s d r s, none in the reel", reel.checksum(), (((7L * 31 + 115) * 31 + 100) * 31 + 114) * 31 + 115);
    }

    private static void checksumWraps() {
        due.says("Promise 40: 31 times itself, beyond the largest long");
        ThumbnailRow reel = new ThumbnailRow();
        BigInteger sum = BigInteger.valueOf(7);
        for (int i = 0; i < 24; i++) {
            reel.shot('s', 0, 240 - i, i);
            reel.camera(i, 'n', i % 2);
            sum = next(next(next(sum, i), 240 - i), 1);
        }
        due.is("of 24 shots", reel.checksum(), sum.longValue());
        for (int i = 0; i < 40; i++) {
            reel.note(i % 24);
            sum = next(sum, 'o');
        }
        due.is("of 24 shots and 40 notes", reel.checksum(), sum.longValue());
    }

    private static BigInteger next(BigInteger sum, int part) {
        return sum.multiply(BigInteger.valueOf(31)).add(BigInteger.valueOf(part));
    }

    private static void brokenShare() {
        due.says("Promise 41: Returns their number divided by that of all cuts, both converted to float");
        due.is("none of one", Reels.pair().brokenShare(), 0.0f);
        due.is("one of one", crossing(2).brokenShare(), 1.0f);
        due.is("all of 23", crossing(24).brokenShare(), 1.0f);
        due.is("none of 23", Reels.plain(24).brokenShare(), 0.0f);
        ThumbnailRow some = crossing(24);
        some.excuse(23, 'x');
        due.is("22 of 23", some.brokenShare(), 22.0f / 23.0f);
        due.says("Promise 41: Throws NoSuchElementException if there are none");
        due.refuses("of no shot", Reels::empty, Due.NONE, ThumbnailRow::brokenShare);
        due.refuses("of one shot", () -> Reels.plain(1), Due.NONE, ThumbnailRow::brokenShare);
        due.refuses("of two shots, one dropped", () -> Reels.droppedOf(2, 0), Due.NONE, ThumbnailRow::brokenShare);
    }

    private static void meanLength() {
        due.says("Promise 42: Returns the sum divided by their number, both converted to double");
        ThumbnailRow one = new ThumbnailRow();
        one.shot('s', 0, 1, 0);
        due.is("the least", one.meanLength(), 1.0);
        ThumbnailRow all = new ThumbnailRow();
        for (int i = 0; i < 24; i++) {
            all.shot('s', 0, 240, i);
        }
        due.is("the greatest", all.meanLength(), 240.0);
        all.length(0, 1);
        due.is("no whole number", all.meanLength(), 5521.0 / 24.0);
        due.is("without the dropped", Reels.oneDropped().meanLength(), 18.0);
        due.says("Promise 42: Throws NoSuchElementException if there are none");
        due.refuses("of none", Reels::empty, Due.NONE, ThumbnailRow::meanLength);
        due.refuses("of none, one dropped", () -> Reels.droppedOf(1, 0), Due.NONE, ThumbnailRow::meanLength);
    }

    private static void isSound() {
        due.says("Promise 43: Tells whether names in the reel are unlike");
        due.is("none", Reels.empty().isSound(), true);
        due.is("24 without letters", Reels.plain(24).isSound(), true);
        due.is("all letters of one number", Reels.lettersUsed(6).isSound(), true);
        due.says("Promise 43: each shot is seen at the time at which it begins");
        ThumbnailRow shortest = new ThumbnailRow();
        for (int i = 0; i < 24; i++) {
            shortest.shot('s', 0, 1, 0);
        }
        due.is("24 of length 1", shortest.isSound(), true);
        due.is("one dropped", Reels.droppedOf(24, 12).isSound(), true);
        due.says("Promise 43: notes of all kinds sum up to all");
        ThumbnailRow noted = Reels.plain(2);
        for (int i = 0; i < 40; i++) {
            noted.note(i % 2);
        }
        noted.close(0, true);
        noted.close(2, false);
        noted.drop(1);
        due.is("40 notes of all kinds", noted.isSound(), true);
        due.says("Promise 43: those who enter or leave a shot are in it");
        ThumbnailRow standing = Reels.standing(0, 3);
        standing.enters(0, 3, 'l');
        standing.leaves(0, 3, 'r');
        due.is("one in it", standing.isSound(), true);
        standing.stand(0, 3, '-', 'l');
        due.is("taken out", standing.isSound(), true);
    }
}
