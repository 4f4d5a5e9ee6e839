import java.util.NoSuchElementException;

/** Promises 17 to 24: names and cuts. */
final class NamesAndCutsTest {
    private static final Class<?> NO_INDEX = IndexOutOfBoundsException.class;
    private static final Class<?> BAD = IllegalArgumentException.class;
    private static final Class<?> NONE = NoSuchElementException.class;
    private static final Due due = new Due();

    public static void main(String[] args) {
        lock();
        namesUnlocked();
        namesLocked();
        lettersOfOneNumber();
        namesRefused();
        lineAndJump();
        gazes();
        edges();
        misplaced();
        firstFaultCounts();
        excuseHolds();
        excuseFails();
        excuseAnswers();
        excuseRefused();
        brokenCuts();
        due.end();
    }

    private static void lock() {
        ThumbnailRow reel = Reels.three();
        due.is("lock", reel.lock(), false);
        due.is("lock again", reel.lock(), true);
        reel.move(0, 2);
        due.is("lock a third time", reel.lock(), true);
        due.is("lock again gives no names anew", reel.number(0), 1);
    }

    private static void namesUnlocked() {
        ThumbnailRow reel = Reels.three();
        due.is("number unlocked", reel.number(2), 3);
        due.is("letter unlocked", reel.letter(2), '-');
        reel.move(2, 0);
        due.is("number after a move", reel.number(2), 1);
        due.is("number of the moved on", reel.number(0), 2);
        due.is("named unlocked", reel.named(3, '-'), 1);
        reel.drop(2);
        due.is("number after a drop", reel.number(0), 1);
        due.is("named after a drop", reel.named(1, '-'), 0);
    }

    private static void namesLocked() {
        ThumbnailRow reel = Reels.oneDropped();
        reel.lock();
        due.is("number locked", reel.number(2), 2);
        reel.move(2, 0);
        due.is("number moved", reel.number(2), 2);
        due.is("letter locked", reel.letter(2), '-');
        reel.shot('s', 1, 24, 1);
        due.is("number behind the moved", reel.number(3), 2);
        due.is("letter behind the moved", reel.letter(3), 'A');
        reel.shot('s', 1, 24, 2);
        due.is("number behind a letter", reel.number(4), 2);
        due.is("letter behind a letter", reel.letter(4), 'B');
        reel.shot('s', 1, 24, 0);
        due.is("number of the first", reel.number(5), 0);
        due.is("letter of the first", reel.letter(5), 'A');
        due.is("named with a letter", reel.named(2, 'B'), 4);
        due.is("named 0", reel.named(0, 'A'), 5);
        due.is("named without a letter", reel.named(2, '-'), 2);
        reel.drop(4);
        due.is("number of the dropped", reel.number(4), 2);
        due.is("letter of the dropped", reel.letter(4), 'B');
        reel.shot('s', 1, 24, 2);
        due.is("letter behind a dropped one", reel.letter(6), 'C');
        reel.move(6, 0);
        due.is("letter moved", reel.letter(6), 'C');
        due.is("number moved ahead", reel.number(6), 2);
        reel.drop(2);
        due.is("number of a dropped one without a letter", reel.number(2), 2);
        due.is("letter of a dropped one without a letter", reel.letter(2), '-');
    }

    private static void lettersOfOneNumber() {
        ThumbnailRow reel = Reels.three();
        reel.lock();
        for (char letter = 'A'; letter <= 'F'; letter++) {
            int added = reel.shot('s', 1, 24, 2);
            due.is("letter in its turn", reel.letter(added), letter);
            due.is("number of that letter", reel.number(added), 2);
            reel.drop(added);
        }
        int other = reel.shot('s', 1, 24, 1);
        due.is("letter of another number", reel.letter(other), 'A');
        due.is("another number", reel.number(other), 1);
        String refused = Snapshot.told(() -> reel.shot('s', 1, 24, 3));
        due.is("a seventh letter", refused, "java.lang.UnsupportedOperationException");
        due.is("shots after a seventh letter", reel.shots(), 4);
    }

    private static void namesRefused() {
        due.refuses("number of -1", Reels::three, NO_INDEX, r -> r.number(-1));
        due.refuses("number of 3", Reels::three, NO_INDEX, r -> r.number(3));
        due.refuses("number of the dropped", Reels::oneDropped, NONE, r -> r.number(1));
        due.refuses("number dropped ahead of locking", NamesAndCutsTest::lockedAfterDrop, NONE, r -> r.number(1));
        due.refuses("letter of -1", Reels::three, NO_INDEX, r -> r.letter(-1));
        due.refuses("letter of 3", Reels::three, NO_INDEX, r -> r.letter(3));
        due.refuses("letter of the dropped", Reels::oneDropped, NONE, r -> r.letter(1));
        due.refuses("letter dropped ahead of locking", NamesAndCutsTest::lockedAfterDrop, NONE, r -> r.letter(1));
        due.refuses("named 0", Reels::three, NONE, r -> r.named(0, '-'));
        due.refuses("named 4", Reels::three, NONE, r -> r.named(4, '-'));
        due.refuses("named 1A", Reels::three, NONE, r -> r.named(1, 'A'));
        due.refuses("named -1", NamesAndCutsTest::lockedAfterDrop, NONE, r -> r.named(-1, '-'));
        due.refuses("named of the dropped", NamesAndCutsTest::droppedAfterLock, NONE, r -> r.named(2, '-'));
        due.refuses("named 3 of two", NamesAndCutsTest::lockedAfterDrop, NONE, r -> r.named(3, '-'));
    }

    private static ThumbnailRow lockedAfterDrop() {
        ThumbnailRow reel = Reels.oneDropped();
        reel.lock();
        return reel;
    }

    private static ThumbnailRow droppedAfterLock() {
        ThumbnailRow reel = Reels.lockedThree();
        reel.drop(1);
        return reel;
    }

    private static char cut(char sideA, int lensA, char sideB, int lensB, boolean isWithCharacters) {
        ThumbnailRow reel = new ThumbnailRow();
        reel.shot(sideA, lensA, 10, 0);
        reel.shot(sideB, lensB, 10, 1);
        if (isWithCharacters) {
            reel.stand(0, 1, 'l', 'c');
            reel.stand(0, 2, 'c', 'c');
            reel.stand(1, 1, 'c', 'l');
            reel.stand(1, 2, 'r', 'r');
        }
        return reel.wrong(1);
    }

    private static void lineAndJump() {
        due.is("wrong s n", cut('s', 1, 'n', 1, false), 'x');
        due.is("wrong n s", cut('n', 1, 's', 4, false), 'x');
        due.is("wrong s 0", cut('s', 1, '0', 1, true), '-');
        due.is("wrong 0 n", cut('0', 1, 'n', 1, true), '-');
        due.is("wrong 0 0", cut('0', 1, '0', 1, true), 'j');
        due.is("wrong s s", cut('s', 1, 's', 1, true), 'j');
        due.is("wrong n n", cut('n', 0, 'n', 0, true), 'j');
        due.is("wrong with another lens", cut('n', 0, 'n', 1, true), '-');
        due.is("wrong without characters", cut('n', 0, 'n', 0, false), '-');
        due.is("wrong across the line with all alike", cut('n', 0, 's', 0, true), 'x');
        ThumbnailRow reel = new ThumbnailRow();
        reel.shot('s', 1, 10, 0);
        reel.shot('s', 1, 10, 1);
        reel.stand(0, 1, 'c', 'c');
        due.is("wrong with one in the first only", reel.wrong(1), '-');
        reel.stand(1, 1, 'r', 'l');
        due.is("wrong with the same alone", reel.wrong(1), 'j');
        reel.stand(1, 2, 'c', 'c');
        due.is("wrong with one more in the second", reel.wrong(1), '-');
        reel.stand(0, 3, 'c', 'c');
        due.is("wrong with as many, but others", reel.wrong(1), '-');
        due.refuses("wrong(0)", Reels::three, NONE, r -> r.wrong(0));
        due.refuses("wrong(-1)", Reels::three, NONE, r -> r.wrong(-1));
        due.refuses("wrong(3)", Reels::three, NONE, r -> r.wrong(3));
        due.refuses("wrong(2) of 2", Reels::oneDropped, NONE, r -> r.wrong(2));
        due.refuses("wrong(0) of none", Reels::empty, NONE, r -> r.wrong(0));
        due.refuses("wrong far off", Reels::three, NONE, r -> r.wrong(Integer.MIN_VALUE));
    }

    private static char gazeCut(char first, char second) {
        ThumbnailRow reel = Reels.pair();
        reel.stand(0, 0, 'c', first);
        reel.stand(1, 3, 'c', second);
        return reel.wrong(1);
    }

    private static void gazes() {
        due.is("gazes c c", gazeCut('c', 'c'), '-');
        due.is("gazes l r", gazeCut('l', 'r'), '-');
        due.is("gazes r l", gazeCut('r', 'l'), '-');
        due.is("gazes l l", gazeCut('l', 'l'), 'g');
        due.is("gazes r r", gazeCut('r', 'r'), 'g');
        due.is("gazes c l", gazeCut('c', 'l'), 'g');
        due.is("gazes c r", gazeCut('c', 'r'), 'g');
        due.is("gazes l c", gazeCut('l', 'c'), 'g');
        due.is("gazes r c", gazeCut('r', 'c'), 'g');
        ThumbnailRow reel = Reels.pair();
        reel.stand(0, 0, 'c', 'l');
        due.is("gaze at nobody", reel.wrong(1), '-');
        reel.stand(1, 0, 'c', 'l');
        due.is("gaze of the same", reel.wrong(1), '-');
        reel.stand(1, 0, '-', '-');
        reel.stand(1, 1, 'c', 'l');
        reel.stand(1, 2, 'c', 'l');
        due.is("gaze at two", reel.wrong(1), '-');
        reel.stand(1, 1, '-', '-');
        due.is("gaze at one", reel.wrong(1), 'g');
        reel.stand(0, 1, 'c', 'l');
        due.is("gaze of two", reel.wrong(1), '-');
    }

    private static ThumbnailRow sameInBoth(char exit, char entry) {
        ThumbnailRow reel = Reels.pair();
        reel.stand(0, 2, 'l', 'c');
        reel.stand(1, 2, 'r', 'c');
        reel.leaves(0, 2, exit);
        reel.enters(1, 2, entry);
        return reel;
    }

    private static void edges() {
        due.is("edges l l", sameInBoth('l', 'l').wrong(1), 'e');
        due.is("edges r r", sameInBoth('r', 'r').wrong(1), 'e');
        due.is("edges l r", sameInBoth('l', 'r').wrong(1), '-');
        due.is("edges r l", sameInBoth('r', 'l').wrong(1), '-');
        ThumbnailRow others = Reels.pair();
        others.stand(0, 0, 'c', 'c');
        others.stand(1, 1, 'c', 'c');
        others.leaves(0, 0, 'l');
        others.enters(1, 1, 'l');
        due.is("edges of unlike ones", others.wrong(1), '-');
        ThumbnailRow back = Reels.pair();
        back.stand(0, 0, 'c', 'c');
        back.stand(1, 0, 'c', 'c');
        back.enters(0, 0, 'l');
        back.leaves(1, 0, 'l');
        due.is("edges the other way round", back.wrong(1), '-');
        ThumbnailRow last = Reels.pair();
        last.stand(0, 0, 'c', 'c');
        last.stand(0, 3, 'c', 'c');
        last.stand(1, 3, 'c', 'c');
        last.leaves(0, 3, 'r');
        last.enters(1, 3, 'r');
        due.is("edges of the last one", last.wrong(1), 'e');
    }

    private static void misplaced() {
        due.is("places l r", sameInBoth('-', '-').wrong(1), 'm');
        due.is("places l r after an exit", sameInBoth('l', '-').wrong(1), '-');
        due.is("places l r by an entrance", sameInBoth('-', 'r').wrong(1), '-');
        ThumbnailRow reel = sameInBoth('-', '-');
        reel.stand(0, 2, 'r', 'c');
        due.is("places r r", reel.wrong(1), '-');
        reel.stand(1, 2, 'l', 'c');
        due.is("places r l", reel.wrong(1), 'm');
        reel.stand(1, 2, 'c', 'c');
        due.is("places r c", reel.wrong(1), '-');
        reel.stand(1, 2, 'l', 'c');
        reel.enters(0, 2, 'l');
        reel.leaves(1, 2, 'r');
        due.is("places r l with the outer edges", reel.wrong(1), 'm');
        ThumbnailRow last = Reels.pair();
        last.stand(0, 0, 'l', 'c');
        last.stand(1, 1, 'r', 'c');
        last.stand(0, 3, 'l', 'c');
        last.stand(1, 3, 'r', 'c');
        due.is("places of the last one", last.wrong(1), 'm');
        last.stand(1, 3, '-', 'c');
        due.is("places of unlike ones", last.wrong(1), '-');
    }

    private static void firstFaultCounts() {
        ThumbnailRow reel = new ThumbnailRow();
        reel.shot('s', 1, 10, 0);
        reel.shot('n', 1, 10, 1);
        reel.stand(0, 0, 'l', 'l');
        reel.stand(0, 1, 'l', 'l');
        reel.stand(1, 0, 'r', 'l');
        reel.stand(1, 1, 'r', 'l');
        reel.leaves(0, 1, 'l');
        reel.enters(1, 1, 'l');
        due.is("x ahead of the others", reel.wrong(1), 'x');
        reel.camera(1, 's', 1);
        due.is("j ahead of e and m", reel.wrong(1), 'j');
        reel.camera(1, 's', 2);
        due.is("e ahead of m", reel.wrong(1), 'e');
        reel.enters(1, 1, '-');
        due.is("m at last", reel.wrong(1), 'm');
        reel.stand(1, 0, '-', '-');
        due.is("nothing then", reel.wrong(1), '-');
        ThumbnailRow gazing = Reels.three();
        gazing.stand(0, 0, 'c', 'l');
        gazing.stand(1, 1, 'c', 'l');
        due.is("x ahead of g", gazing.wrong(1), 'x');
    }

    private static void excuseHolds() {
        ThumbnailRow reel = Reels.three();
        due.is("isBroken ahead of it", reel.isBroken(1), true);
        due.is("excuse", reel.excuse(1, 'x'), '-');
        due.is("isBroken excused", reel.isBroken(1), false);
        due.is("wrong though excused", reel.wrong(1), 'x');
        due.is("isBroken of the other", reel.isBroken(2), true);
        reel.move(2, 1);
        due.is("isBroken behind another", reel.isBroken(2), true);
        reel.move(2, 2);
        due.is("isBroken behind the first again", reel.isBroken(1), false);
        reel.move(1, 0);
        due.is("isBroken turned round", reel.isBroken(1), true);
        reel.move(1, 1);
        due.is("isBroken turned back", reel.isBroken(1), false);
        reel.shot('0', 0, 10, 0);
        due.is("isBroken moved on", reel.isBroken(2), false);
        reel.note(0);
        reel.dear(0, true);
        reel.hand(0, 0);
        reel.lock();
        due.is("isBroken after what is no change", reel.isBroken(2), false);
        reel.length(2, 5);
        due.is("isBroken after a change elsewhere", reel.isBroken(2), false);
        reel.drop(2);
        due.is("isBroken after a drop elsewhere", reel.isBroken(2), false);
    }

    private static void excuseFails() {
        ThumbnailRow own = Reels.three();
        own.excuse(1, 'x');
        own.length(1, 47);
        due.is("isBroken with another version", own.isBroken(1), true);
        own.length(1, 48);
        due.is("isBroken with a version further on", own.isBroken(1), true);
        ThumbnailRow ahead = Reels.three();
        ahead.excuse(1, 'x');
        ahead.length(0, 25);
        due.is("isBroken with another version ahead", ahead.isBroken(1), true);
        ThumbnailRow dropped = Reels.three();
        dropped.excuse(2, 'x');
        dropped.shot('n', 1, 48, 1);
        dropped.drop(1);
        due.is("isBroken with another shot ahead", dropped.isBroken(2), true);
        ThumbnailRow other = Reels.three();
        other.excuse(1, 'g');
        due.is("isBroken excused for another letter", other.isBroken(1), true);
        ThumbnailRow fine = Reels.pair();
        due.is("isBroken with nothing wrong", fine.isBroken(1), false);
        fine.excuse(1, 'm');
        due.is("isBroken excused with nothing wrong", fine.isBroken(1), false);
        fine.shot('0', 0, 10, 2);
        due.is("isBroken never excused", fine.isBroken(2), false);
    }

    private static void excuseAnswers() {
        ThumbnailRow reel = Reels.three();
        due.is("excuse at first", reel.excuse(1, 'x'), '-');
        due.is("excuse for j", reel.excuse(1, 'j'), 'x');
        due.is("excuse for g", reel.excuse(1, 'g'), 'j');
        due.is("excuse for e", reel.excuse(1, 'e'), 'g');
        due.is("excuse for m", reel.excuse(1, 'm'), 'e');
        due.is("excuse for x again", reel.excuse(1, 'x'), 'm');
        due.is("excuse of another shot", reel.excuse(2, 'j'), '-');
        due.is("isBroken by the last letter", reel.isBroken(1), false);
        reel.length(1, 5);
        due.is("excuse that no longer holds", reel.excuse(1, 'x'), '-');
        due.is("excuse given anew", reel.isBroken(1), false);
        reel.length(0, 5);
        due.is("excuse that no longer holds ahead", reel.excuse(1, 'x'), '-');
        reel.move(2, 1);
        due.is("excuse behind another", reel.excuse(2, 'j'), '-');
        reel.move(2, 2);
        due.is("excuse was replaced", reel.isBroken(1), true);
        due.is("excuse replaced holds not here", reel.excuse(1, 'x'), '-');
        due.is("excuse by versions other than 0", reel.isBroken(1), false);
        due.is("excuse by versions other than 0 holds", reel.excuse(1, 'x'), 'x');
    }

    private static void excuseRefused() {
        due.refuses("excuse for -", Reels::three, BAD, r -> r.excuse(1, '-'));
        due.refuses("excuse for a", Reels::three, BAD, r -> r.excuse(1, 'a'));
        due.refuses("excuse for X", Reels::three, BAD, r -> r.excuse(1, 'X'));
        due.refuses("excuse of the first for a", Reels::three, BAD, r -> r.excuse(0, 'a'));
        due.refuses("excuse of the first", Reels::three, NONE, r -> r.excuse(0, 'x'));
        due.refuses("excuse of -1", Reels::three, NONE, r -> r.excuse(-1, 'x'));
        due.refuses("excuse of 3", Reels::three, NONE, r -> r.excuse(3, 'x'));
        due.refuses("isBroken of the first", Reels::three, NONE, r -> r.isBroken(0));
        due.refuses("isBroken of -1", Reels::three, NONE, r -> r.isBroken(-1));
        due.refuses("isBroken of 3", Reels::three, NONE, r -> r.isBroken(3));
        due.refuses("isBroken of none", Reels::empty, NONE, r -> r.isBroken(1));
    }

    private static void brokenCuts() {
        ThumbnailRow reel = Reels.three();
        due.is("broken", reel.broken(), 2);
        reel.excuse(2, 'x');
        due.is("broken with one excused", reel.broken(), 1);
        reel.excuse(1, 'j');
        due.is("broken with one excused for another letter", reel.broken(), 1);
        reel.camera(0, '0', 1);
        due.is("broken with one mended", reel.broken(), 0);
        due.is("broken of one", Reels.plain(1).broken(), 0);
    }
}
