/** Promises 17 to 24: names and cuts. */
final class NamesAndCutsTest {
    private static final Due due = new Due();

    public static void main(String[] args) {
        namesUnlocked();
        namesLocked();
        severalCharacters();
        firstFaultCounts();
        excuseAnswers();
        brokenCuts();
        due.end();
    }

    private static void namesUnlocked() {
        ThumbnailRow reel = Reels.three();
        due.is("number unlocked", reel.number(2), 3);
        due.is("letter unlocked", reel.letter(2), '-');
        reel.move(2, 0);
        due.is("number after a move", reel.number(2), 1);
        due.is("number of the moved on", reel.number(0), 2);
        due.is("named unlocked", reel.named(3, '-'), 1);
        reel.drop(2);
        due.is("number after a drop", reel.number(0), 1);
        due.is("named after a drop", reel.named(1, '-'), 0);
    }

    private static void namesLocked() {
        ThumbnailRow reel = Reels.oneDropped();
        reel.lock();
        due.is("number locked", reel.number(2), 2);
        reel.move(2, 0);
        due.is("number moved", reel.number(2), 2);
        due.is("letter locked", reel.letter(2), '-');
        reel.shot('s', 1, 24, 1);
        due.is("number behind the moved", reel.number(3), 2);
        due.is("letter behind the moved", reel.letter(3), 'A');
        reel.shot('s', 1, 24, 2);
        due.is("number behind a letter", reel.number(4), 2);
        due.is("letter behind a letter", reel.letter(4), 'B');
        reel.shot('s', 1, 24, 0);
        due.is("number of the first", reel.number(5), 0);
        due.is("letter of the first", reel.letter(5), 'A');
        due.is("named with a letter", reel.named(2, 'B'), 4);
        due.is("named 0", reel.named(0, 'A'), 5);
        due.is("named without a letter", reel.named(2, '-'), 2);
        reel.drop(4);
        due.is("number of the dropped", reel.number(4), 2);
        due.is("letter of the dropped", reel.letter(4), 'B');
        reel.shot('s', 1, 24, 2);
        due.is("letter behind a dropped one", reel.letter(6), 'C');
        reel.move(6, 0);
        due.is("letter moved", reel.letter(6), 'C');
        due.is("number moved ahead", reel.number(6), 2);
        reel.drop(2);
        due.is("number of a dropped one without a letter", reel.number(2), 2);
        due.is("letter of a dropped one without a letter", reel.letter(2), '-');
    }

    private static void severalCharacters() {
        ThumbnailRow edges = Reels.pair();
        edges.stand(0, 0, 'c', 'c');
        edges.stand(0, 3, 'c', 'c');
        edges.stand(1, 3, 'c', 'c');
        edges.leaves(0, 3, 'r');
        edges.enters(1, 3, 'r');
        due.is("edges of the last one", edges.wrong(1), 'e');
        ThumbnailRow places = Reels.pair();
        places.stand(0, 0, 'l', 'c');
        places.stand(1, 1, 'r', 'c');
        places.stand(0, 3, 'l', 'c');
        places.stand(1, 3, 'r', 'c');
        due.is("places of the last one", places.wrong(1), 'm');
        places.stand(1, 3, '-', 'c');
        due.is("places of unlike ones", places.wrong(1), '-');
    }

    private static void firstFaultCounts() {
        ThumbnailRow reel = new ThumbnailRow();
        reel.shot('s', 1, 10, 0);
        reel.shot('n', 1, 10, 1);
        reel.stand(0, 0, 'l', 'l');
        reel.stand(0, 1, 'l', 'l');
        reel.stand(1, 0, 'r', 'l');
        reel.stand(1, 1, 'r', 'l');
        reel.leaves(0, 1, 'l');
        reel.enters(1, 1, 'l');
        due.is("x ahead of the others", reel.wrong(1), 'x');
        reel.camera(1, 's', 1);
        due.is("j ahead of e and m", reel.wrong(1), 'j');
        reel.camera(1, 's', 2);
        due.is("e ahead of m", reel.wrong(1), 'e');
        reel.enters(1, 1, '-');
        due.is("m at last", reel.wrong(1), 'm');
        reel.stand(1, 0, '-', '-');
        due.is("nothing then", reel.wrong(1), '-');
        ThumbnailRow gazing = Reels.three();
        gazing.stand(0, 0, 'c', 'l');
        gazing.stand(1, 1, 'c', 'l');
        due.is("x ahead of g", gazing.wrong(1), 'x');
    }

    private static void excuseAnswers() {
        ThumbnailRow reel = Reels.three();
        due.is("excuse at first", reel.excuse(1, 'x'), '-');
        due.is("excuse for j", reel.excuse(1, 'j'), 'x');
        due.is("excuse for g", reel.excuse(1, 'g'), 'j');
        due.is("excuse for e", reel.excuse(1, 'e'), 'g');
        due.is("excuse for m", reel.excuse(1, 'm'), 'e');
        due.is("excuse for x again", reel.excuse(1, 'x'), 'm');
        due.is("excuse of another shot", reel.excuse(2, 'j'), '-');
        due.is("isBroken by the last letter", reel.isBroken(1), false);
        reel.length(1, 5);
        due.is("excuse that no longer holds", reel.excuse(1, 'x'), '-');
        due.is("excuse given anew", reel.isBroken(1), false);
        reel.length(0, 5);
        due.is("excuse that no longer holds ahead", reel.excuse(1, 'x'), '-');
        reel.move(2, 1);
        due.is("excuse behind another", reel.excuse(2, 'j'), '-');
        reel.move(2, 2);
        due.is("excuse was replaced", reel.isBroken(1), true);
        due.is("excuse replaced holds not here", reel.excuse(1, 'x'), '-');
        due.is("excuse by versions other than 0", reel.isBroken(1), false);
        due.is("excuse by versions other than 0 holds", reel.excuse(1, 'x'), 'x');
    }

    private static void brokenCuts() {
        ThumbnailRow reel = Reels.three();
        due.is("broken", reel.broken(), 2);
        reel.excuse(2, 'x');
        due.is("broken with one excused", reel.broken(), 1);
        reel.excuse(1, 'j');
        due.is("broken with one excused for another letter", reel.broken(), 1);
        reel.camera(0, '0', 1);
        due.is("broken with one mended", reel.broken(), 0);
    }
}
