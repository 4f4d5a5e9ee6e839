/** The edges of promises 17 to 24: a sentence of the document each, and what is asked to hold it to. */
final class NamesAndCutsEdgesTest {
    private static final int LEAST = Integer.MIN_VALUE;
    private static final int MOST = Integer.MAX_VALUE;
    private static final Due due = new Due();

    public static void main(String[] args) {
        lock();
        unlockedNames();
        keptNames();
        numberAhead();
        letters();
        lettersUsedUp();
        numberRefused();
        letterRefused();
        named();
        acrossLine();
        jump();
        aloneByGaze();
        gazes();
        backByTheSameEdge();
        misplaced();
        nothingWrong();
        wrongRefused();
        excuseLetters();
        excuseHolds();
        excuseEnds();
        excuseRefused();
        isBroken();
        broken();
        due.end();
    }

    private static ThumbnailRow locked(int count) {
        ThumbnailRow reel = Reels.plain(count);
        reel.lock();
        return reel;
    }

    private static void lock() {
        due.says("Promise 17: Returns whether they were locked");
        ThumbnailRow reel = Reels.empty();
        due.is("of none", reel.lock(), false);
        due.is("of none, again", reel.lock(), true);
        ThumbnailRow full = Reels.plain(24);
        due.is("of 24", full.lock(), false);
        due.is("of 24, again", full.lock(), true);
        due.says("Terms: As they are locked, those in the reel keep their names");
        due.is("the first of 24", full.number(0), 1);
        due.is("the last of 24", full.number(23), 24);
        due.is("the last of 24, letter", full.letter(23), '-');
        full.move(23, 0);
        full.lock();
        due.is("locked once more", full.number(23), 24);
        due.is("the first, locked once more", full.number(0), 1);
    }

    private static void unlockedNames() {
        due.says("Terms: Until they are locked, the name of a shot is its place and 1, without a letter");
        ThumbnailRow full = Reels.plain(24);
        due.is("the first", full.number(0), 1);
        due.is("the last", full.number(23), 24);
        due.is("the last, letter", full.letter(23), '-');
        full.move(23, 0);
        due.is("the last, moved ahead of all", full.number(23), 1);
        due.is("the first then", full.number(0), 2);
        full.drop(23);
        due.is("the first again", full.number(0), 1);
        due.is("named 23", full.named(23, '-'), 22);
    }

    private static void keptNames() {
        due.says("Terms: Names are not given anew, nor changed by moving");
        ThumbnailRow reel = locked(3);
        reel.move(0, 2);
        due.is("moved to the last place", reel.number(0), 1);
        due.is("moved on by that", reel.number(1), 2);
        reel.shot('s', 0, 1, 0);
        reel.move(3, 3);
        due.is("with a letter, moved", reel.number(3), 0);
        due.is("with a letter, moved, letter", reel.letter(3), 'A');
        reel.drop(3);
        reel.shot('s', 0, 1, 0);
        due.is("not the name of the dropped", reel.letter(4), 'B');
        reel.drop(1);
        due.is("not named 2 again", Snapshot.told(() -> reel.named(2, '-')), Due.NONE.getName());
        due.is("the one behind keeps its number", reel.number(2), 3);
    }

    private static void numberAhead() {
        due.says("Terms: has the number of the shot ahead of it in the reel");
        ThumbnailRow last = locked(23);
        due.is("shot behind the last", last.shot('s', 0, 1, 23), 23);
        due.is("behind the last", last.number(23), 23);
        ThumbnailRow reel = locked(3);
        reel.move(2, 0);
        reel.shot('s', 0, 1, 1);
        due.is("behind a moved one", reel.number(3), 3);
        reel.shot('s', 0, 1, 2);
        due.is("behind one with a letter", reel.number(4), 3);
        due.is("behind one with a letter, letter", reel.letter(4), 'B');
        reel.drop(2);
        reel.shot('s', 0, 1, 1);
        due.is("behind one whose number has no other", reel.number(5), 3);
        due.says("Terms: 0 if it is the first");
        ThumbnailRow none = locked(0);
        none.shot('s', 0, 1, 0);
        due.is("locked while empty", none.number(0), 0);
        due.is("locked while empty, letter", none.letter(0), 'A');
        ThumbnailRow one = locked(1);
        one.shot('s', 0, 1, 0);
        due.is("ahead of one", one.number(1), 0);
        one.shot('s', 0, 1, 1);
        due.is("behind number 0", one.number(2), 0);
        due.is("behind number 0, letter", one.letter(2), 'B');
        ThumbnailRow emptied = locked(1);
        emptied.drop(0);
        emptied.shot('s', 0, 1, 0);
        due.is("in a reel that is empty again", emptied.number(1), 0);
        due.is("in a reel that is empty again, letter", emptied.letter(1), 'A');
    }

    private static void letters() {
        due.says("Terms: the first letter from 'A' on that no shot has with this number");
        ThumbnailRow reel = locked(2);
        for (char letter = 'A'; letter <= 'F'; letter++) {
            int added = reel.shot('s', 0, 1, 1);
            due.is("of number 1", reel.letter(added), letter);
        }
        due.is("of number 2", reel.letter(reel.shot('s', 0, 1, 8)), 'A');
        due.is("of number 0", reel.letter(reel.shot('s', 0, 1, 0)), 'A');
        due.says("Terms: also dropped ones");
        ThumbnailRow dropping = locked(2);
        for (char letter = 'A'; letter <= 'F'; letter++) {
            int added = dropping.shot('s', 0, 1, 1);
            due.is("of number 1", dropping.letter(added), letter);
            dropping.drop(added);
        }
        due.is("all letters of dropped ones", Snapshot.told(() -> dropping.shot('s', 0, 1, 1)), Due.NOT_NOW.getName());
        due.is("shots left", dropping.shots(), 2);
    }

    private static void lettersUsedUp() {
        due.says("Terms: it is refused if all are used, to 'F'");
        ThumbnailRow five = Reels.lettersUsed(5);
        due.is("the sixth", five.letter(five.shot('s', 0, 1, 0)), 'F');
        due.refuses("the seventh", () -> Reels.lettersUsed(6), Due.NOT_NOW, r -> r.shot('s', 0, 1, 0));
        ThumbnailRow others = locked(1);
        for (int i = 0; i < 6; i++) {
            others.shot('s', 0, 1, 0);
        }
        due.is("of another number", others.letter(others.shot('s', 0, 1, 7)), 'A');
        due.is("the seventh of number 0", Snapshot.told(() -> others.shot('s', 0, 1, 1)), Due.NOT_NOW.getName());
    }

    private static void numberRefused() {
        due.says("Promise 18: Throws IndexOutOfBoundsException if there is no such shot");
        due.refusesEach("number", Reels::three, Due.NO_INDEX, (r, shot) -> r.number(shot), -1, 3, LEAST, MOST);
        due.refusesEach("number, locked", Reels::lockedThree, Due.NO_INDEX, (r, shot) -> r.number(shot), -1, 3);
        due.refuses("number of none", Reels::empty, Due.NO_INDEX, r -> r.number(0));
        due.says("Promise 18: Throws NoSuchElementException if it was dropped ahead of locking");
        due.refuses("not locked by now", Reels::oneDropped, Due.NONE, r -> r.number(1));
        due.refuses("locked by now", NamesAndCutsEdgesTest::lockedAfterDrop, Due.NONE, r -> r.number(1));
        due.is("dropped after locking", droppedAfterLock().number(1), 2);
    }

    private static void letterRefused() {
        due.says("Promise 19: Throws IndexOutOfBoundsException if there is no such shot");
        due.refusesEach("letter", Reels::three, Due.NO_INDEX, (r, shot) -> r.letter(shot), -1, 3, LEAST, MOST);
        due.refusesEach("letter, locked", Reels::lockedThree, Due.NO_INDEX, (r, shot) -> r.letter(shot), -1, 3);
        due.refuses("letter of none", Reels::empty, Due.NO_INDEX, r -> r.letter(0));
        due.says("Promise 19: Throws NoSuchElementException if it was dropped ahead of locking");
        due.refuses("not locked by now", Reels::oneDropped, Due.NONE, r -> r.letter(1));
        due.refuses("locked by now", NamesAndCutsEdgesTest::lockedAfterDrop, Due.NONE, r -> r.letter(1));
        due.is("dropped after locking", droppedAfterLock().letter(1), '-');
        ThumbnailRow lettered = Reels.lettersUsed(2);
        lettered.drop(1);
        due.is("dropped after locking, with a letter", lettered.letter(1), 'B');
    }

    private static ThumbnailRow lockedAfterDrop() {
        ThumbnailRow reel = Reels.oneDropped();
        reel.lock();
        return reel;
    }

    private static ThumbnailRow droppedAfterLock() {
        ThumbnailRow reel = Reels.lockedThree();
        reel.drop(1);
        return reel;
    }

    private static void named() {
        due.says("Promise 20: Returns the shot in the reel with a name");
        due.is("the first", Reels.plain(24).named(1, '-'), 0);
        due.is("the last", Reels.plain(24).named(24, '-'), 23);
        due.is("number 0", Reels.lettersUsed(6).named(0, 'A'), 0);
        due.is("the last letter", Reels.lettersUsed(6).named(0, 'F'), 5);
        due.says("Promise 20: Throws NoSuchElementException if there is none");
        due.refusesEach("number", Reels::three, Due.NONE, (r, number) -> r.named(number, '-'), -1, 0, 4, LEAST, MOST);
        due.refusesEach("letter", Reels::three, Due.NONE, (r, letter) -> r.named(1, (char) letter), 'A', 'x', 0, 65535);
        due.refusesEach("letter of 0", () -> Reels.lettersUsed(6), Due.NONE, (r, letter) -> r.named(0, (char) letter),
                'G', 'a', '-', '@');
        due.refuses("in none", Reels::empty, Due.NONE, r -> r.named(1, '-'));
        due.refuses("of the last of three, one dropped", Reels::oneDropped, Due.NONE, r -> r.named(3, '-'));
        due.refuses("of one dropped after locking", NamesAndCutsEdgesTest::droppedAfterLock, Due.NONE,
                r -> r.named(2, '-'));
        due.refusesEach("of one dropped ahead of locking", NamesAndCutsEdgesTest::lockedAfterDrop, Due.NONE,
                (r, number) -> r.named(number, '-'), -1, 0, 3);
    }

    private static char cut(char sideA, int lensA, char sideB, int lensB) {
        ThumbnailRow reel = new ThumbnailRow();
        reel.shot(sideA, lensA, 10, 0);
        reel.shot(sideB, lensB, 10, 1);
        reel.stand(0, 0, 'c', 'c');
        reel.stand(1, 0, 'c', 'c');
        return reel.wrong(1);
    }

    private static void acrossLine() {
        due.says("Terms: 'x' the sides are south and north, one each");
        due.is("s n", cut('s', 0, 'n', 4), 'x');
        due.is("n s", cut('n', 4, 's', 4), 'x');
        due.is("s 0", cut('s', 0, '0', 0), '-');
        due.is("0 s", cut('0', 0, 's', 0), '-');
        due.is("n 0", cut('n', 0, '0', 0), '-');
        due.is("0 n", cut('0', 0, 'n', 0), '-');
    }

    private static void jump() {
        due.says("Terms: 'j' the sides and the lenses are the same");
        due.is("s s", cut('s', 0, 's', 0), 'j');
        due.is("n n", cut('n', 4, 'n', 4), 'j');
        due.is("0 0", cut('0', 2, '0', 2), 'j');
        due.is("another lens", cut('s', 3, 's', 4), '-');
        due.is("another side", cut('s', 3, '0', 3), '-');
        due.says("Terms: 'j' and so are the characters in both, wherever they are, one at least");
        ThumbnailRow reel = Reels.plain(2);
        due.is("none in both", reel.wrong(1), '-');
        reel.stand(0, 3, 'l', 'l');
        due.is("one in the first", reel.wrong(1), '-');
        reel.stand(1, 3, 'r', 'r');
        due.is("the same one in both", reel.wrong(1), 'j');
        reel.stand(0, 3, '-', 'c');
        due.is("one in the second", reel.wrong(1), '-');
        for (int character = 0; character < 4; character++) {
            reel.stand(0, character, 'l', 'c');
            reel.stand(1, character, 'c', 'c');
        }
        due.is("all in both", reel.wrong(1), 'j');
        reel.stand(1, 0, '-', 'c');
        due.is("all but one in the second", reel.wrong(1), '-');
        reel.stand(0, 1, '-', 'c');
        due.is("as many, but others", reel.wrong(1), '-');
    }

    private static ThumbnailRow gazing(int one, char gaze, int other, char otherGaze) {
        ThumbnailRow reel = Reels.pair();
        reel.stand(0, one, 'c', gaze);
        reel.stand(1, other, 'c', otherGaze);
        return reel;
    }

    private static void aloneByGaze() {
        due.says("Terms: 'g' both have one character alone, unlike ones");
        due.is("unlike ones", gazing(0, 'l', 3, 'l').wrong(1), 'g');
        due.is("unlike ones, the other way", gazing(3, 'l', 0, 'l').wrong(1), 'g');
        due.is("the same one", gazing(2, 'l', 2, 'l').wrong(1), '-');
        ThumbnailRow two = gazing(0, 'l', 3, 'l');
        two.stand(0, 1, 'c', 'l');
        due.is("two in the first", two.wrong(1), '-');
        two.stand(0, 1, '-', 'l');
        due.is("one in the first again", two.wrong(1), 'g');
        two.stand(1, 2, 'c', 'l');
        due.is("two in the second", two.wrong(1), '-');
        two.stand(1, 2, '-', 'l');
        two.stand(1, 3, '-', 'l');
        due.is("none in the second", two.wrong(1), '-');
        ThumbnailRow none = Reels.pair();
        due.is("none in both", none.wrong(1), '-');
        none.stand(1, 1, 'c', 'l');
        due.is("none in the first", none.wrong(1), '-');
    }

    private static void gazes() {
        due.says("Terms: 'g' one gazes at 'l' or 'r', and the other one not the other way");
        due.is("l l", gazing(0, 'l', 1, 'l').wrong(1), 'g');
        due.is("l c", gazing(0, 'l', 1, 'c').wrong(1), 'g');
        due.is("l r", gazing(0, 'l', 1, 'r').wrong(1), '-');
        due.is("c l", gazing(0, 'c', 1, 'l').wrong(1), 'g');
        due.is("c c", gazing(0, 'c', 1, 'c').wrong(1), '-');
        due.is("c r", gazing(0, 'c', 1, 'r').wrong(1), 'g');
        due.is("r l", gazing(0, 'r', 1, 'l').wrong(1), '-');
        due.is("r c", gazing(0, 'r', 1, 'c').wrong(1), 'g');
        due.is("r r", gazing(0, 'r', 1, 'r').wrong(1), 'g');
    }

    private static char edgesCut(int character, char exit, char entry) {
        ThumbnailRow reel = Reels.pair();
        reel.stand(0, character, 'c', 'c');
        reel.stand(1, character, 'c', 'c');
        reel.leaves(0, character, exit);
        reel.enters(1, character, entry);
        return reel.wrong(1);
    }

    private static void backByTheSameEdge() {
        due.says("Terms: 'e' a character leaves the first one by an edge, and enters the second one by the same");
        for (int character = 0; character < 4; character++) {
            due.is("l l of " + character, edgesCut(character, 'l', 'l'), 'e');
            due.is("r r of " + character, edgesCut(character, 'r', 'r'), 'e');
            due.is("l r of " + character, edgesCut(character, 'l', 'r'), '-');
        }
        due.is("r l", edgesCut(3, 'r', 'l'), '-');
        due.is("none none", edgesCut(3, '-', '-'), '-');
        due.is("l none", edgesCut(3, 'l', '-'), '-');
        due.is("none r", edgesCut(3, '-', 'r'), '-');
        ThumbnailRow outer = Reels.pair();
        outer.stand(0, 0, 'c', 'c');
        outer.stand(1, 0, 'c', 'c');
        outer.enters(0, 0, 'l');
        outer.leaves(1, 0, 'l');
        due.is("enters the first, leaves the second", outer.wrong(1), '-');
        ThumbnailRow unlike = Reels.pair();
        unlike.stand(0, 0, 'c', 'c');
        unlike.stand(1, 1, 'c', 'c');
        unlike.leaves(0, 0, 'l');
        unlike.enters(1, 1, 'l');
        due.is("unlike ones", unlike.wrong(1), '-');
    }

    private static ThumbnailRow placed(int character, char from, char to) {
        ThumbnailRow reel = Reels.pair();
        reel.stand(0, character, from, 'c');
        reel.stand(1, character, to, 'c');
        return reel;
    }

    private static void misplaced() {
        due.says("Terms: 'm' is at 'l' in the one and at 'r' in the other");
        for (int character = 0; character < 4; character++) {
            due.is("l r of " + character, placed(character, 'l', 'r').wrong(1), 'm');
            due.is("r l of " + character, placed(character, 'r', 'l').wrong(1), 'm');
        }
        due.is("l l", placed(0, 'l', 'l').wrong(1), '-');
        due.is("r r", placed(0, 'r', 'r').wrong(1), '-');
        due.is("l c", placed(0, 'l', 'c').wrong(1), '-');
        due.is("c r", placed(0, 'c', 'r').wrong(1), '-');
        due.is("c l", placed(0, 'c', 'l').wrong(1), '-');
        due.is("r c", placed(0, 'r', 'c').wrong(1), '-');
        due.says("Terms: 'm' a character is in both");
        due.is("in the first", placed(0, 'l', '-').wrong(1), '-');
        due.is("in the second", placed(0, '-', 'r').wrong(1), '-');
        due.says("Terms: 'm' neither leaves the first one nor enters the second one");
        ThumbnailRow leaving = placed(2, 'l', 'r');
        leaving.leaves(0, 2, 'r');
        due.is("leaves the first", leaving.wrong(1), '-');
        ThumbnailRow entering = placed(2, 'l', 'r');
        entering.enters(1, 2, 'l');
        due.is("enters the second", entering.wrong(1), '-');
        ThumbnailRow outer = placed(2, 'l', 'r');
        outer.enters(0, 2, 'l');
        outer.leaves(1, 2, 'r');
        due.is("enters the first, leaves the second", outer.wrong(1), 'm');
    }

    private static void nothingWrong() {
        due.says("Terms: '-' none of these");
        due.is("nobody in two setups", Reels.pair().wrong(1), '-');
        due.is("nobody in one setup", Reels.plain(24).wrong(23), '-');
        due.says("Terms: A cut is from a shot in the reel to the next one");
        ThumbnailRow reel = new ThumbnailRow();
        reel.shot('s', 0, 1, 0);
        reel.shot('0', 0, 1, 1);
        reel.shot('n', 0, 1, 2);
        due.is("with one between", reel.wrong(1), '-');
        due.is("with one between, to the last", reel.wrong(2), '-');
        reel.drop(1);
        due.is("with none between", reel.wrong(1), 'x');
    }

    private static void wrongRefused() {
        due.says("Promise 21: Throws NoSuchElementException if there is no such shot");
        due.refusesEach("wrong", Reels::three, Due.NONE, (r, place) -> r.wrong(place), -1, 3, LEAST, MOST);
        due.refusesEach("wrong, of two", Reels::oneDropped, Due.NONE, (r, place) -> r.wrong(place), 2);
        due.refusesEach("wrong, of none", Reels::empty, Due.NONE, (r, place) -> r.wrong(place), 0, 1);
        due.says("Promise 21: Throws NoSuchElementException if it is the first");
        due.refuses("wrong(0)", Reels::three, Due.NONE, r -> r.wrong(0));
        due.refusesEach("wrong, of one", () -> Reels.plain(1), Due.NONE, (r, place) -> r.wrong(place), 0, 1);
    }

    private static void excuseLetters() {
        due.says("Promise 22: Returns the letter for which it was excused by now, '-' for none");
        for (char letter : "xjgem".toCharArray()) {
            ThumbnailRow reel = Reels.three();
            due.is("none by now", reel.excuse(2, letter), '-');
            due.is("of another shot", reel.excuse(1, letter), '-');
            due.is("again", reel.excuse(2, letter), letter);
            due.is("with another one", reel.excuse(2, 'x'), letter);
            due.is("the other one by now", reel.excuse(2, letter), 'x');
            due.is("broken but for x", reel.isBroken(2), letter != 'x');
        }
        ThumbnailRow fine = Reels.pair();
        due.is("with nothing wrong", fine.excuse(1, 'm'), '-');
        due.is("with nothing wrong, again", fine.excuse(1, 'x'), 'm');
    }

    private static void excuseHolds() {
        due.says("Terms: also if another shot was ahead of it between");
        ThumbnailRow moved = excused();
        moved.move(2, 1);
        due.is("behind another", moved.isBroken(2), true);
        moved.move(2, 2);
        due.is("behind the first again", moved.isBroken(1), false);
        ThumbnailRow put = excused();
        put.shot('n', 1, 1, 1);
        put.shot('s', 1, 1, 2);
        due.is("behind a new one", put.isBroken(3), true);
        put.drop(3);
        put.drop(4);
        due.is("behind the first after drops", put.isBroken(1), false);
        ThumbnailRow first = excused();
        first.move(1, 0);
        first.move(1, 1);
        due.is("behind the first, having been first", first.isBroken(1), false);
        due.says("Terms: that holds by the versions and the shot ahead of it alone");
        ThumbnailRow others = excused();
        others.move(2, 0);
        others.camera(2, 'n', 3);
        others.note(0);
        others.dear(1, true);
        others.hand(1, 0);
        others.lock();
        due.is("after what changes neither", others.isBroken(2), false);
        due.is("its letter", others.excuse(2, 'x'), 'x');
    }

    private static ThumbnailRow excused() {
        ThumbnailRow reel = Reels.three();
        reel.excuse(1, 'x');
        return reel;
    }

    private static void excuseEnds() {
        due.says("Terms: that holds as long as its version is that of then");
        ThumbnailRow own = excused();
        own.length(1, 47);
        own.length(1, 48);
        due.is("broken", own.isBroken(1), true);
        due.is("its letter", own.excuse(1, 'x'), '-');
        due.is("excused anew", own.isBroken(1), false);
        due.says("Terms: that holds as long as the shot ahead of it is that of then");
        ThumbnailRow other = excused();
        other.shot('s', 1, 24, 0);
        other.move(0, 0);
        due.is("broken", other.isBroken(2), true);
        due.is("its letter", other.excuse(2, 'x'), '-');
        due.says("Terms: that holds as long as the version of that is that of then");
        ThumbnailRow ahead = excused();
        ahead.length(0, 25);
        ahead.length(0, 24);
        due.is("broken", ahead.isBroken(1), true);
        due.is("its letter", ahead.excuse(1, 'x'), '-');
        due.is("excused anew", ahead.isBroken(1), false);
    }

    private static void excuseRefused() {
        due.says("Promise 22: Throws IllegalArgumentException if there is no letter of 'x', 'j', 'g', 'e' and 'm'");
        due.refusesEach("excuse", Reels::three, Due.BAD, (r, letter) -> r.excuse(1, (char) letter),
                '-', 'X', 'J', 'a', 'f', 'l', 'w', 0, 65535);
        due.says("Promise 22: Throws NoSuchElementException if there is no such shot");
        due.refusesEach("excuse", Reels::three, Due.NONE, (r, place) -> r.excuse(place, 'x'), -1, 3, LEAST, MOST);
        due.refusesEach("excuse, of two", Reels::oneDropped, Due.NONE, (r, place) -> r.excuse(place, 'x'), 2);
        due.refusesEach("excuse, of none", Reels::empty, Due.NONE, (r, place) -> r.excuse(place, 'x'), 0, 1);
        due.says("Promise 22: Throws NoSuchElementException if it is the first");
        due.refuses("excuse(0)", Reels::three, Due.NONE, r -> r.excuse(0, 'x'));
        due.refuses("excuse(0) of one", () -> Reels.plain(1), Due.NONE, r -> r.excuse(0, 'x'));
        due.says("Promise 22: of several exceptions the one that is listed first");
        due.refusesEach("no letter, no cut", Reels::three, Due.BAD, (r, place) -> r.excuse(place, '-'), -1, 0, 3);
    }

    private static void isBroken() {
        due.says("Terms: A cut is broken if something is wrong with it, and it is not excused for this");
        due.is("wrong", Reels.three().isBroken(1), true);
        due.is("wrong, the last one", Reels.three().isBroken(2), true);
        due.is("excused", excused().isBroken(1), false);
        ThumbnailRow forAnother = Reels.three();
        forAnother.excuse(1, 'j');
        due.is("excused for another letter", forAnother.isBroken(1), true);
        due.is("nothing wrong", Reels.pair().isBroken(1), false);
        due.says("Promise 23: Throws NoSuchElementException if there is no such shot");
        due.refusesEach("isBroken", Reels::three, Due.NONE, (r, place) -> r.isBroken(place), -1, 3, LEAST, MOST);
        due.refusesEach("isBroken, of two", Reels::oneDropped, Due.NONE, (r, place) -> r.isBroken(place), 2);
        due.refusesEach("isBroken, of none", Reels::empty, Due.NONE, (r, place) -> r.isBroken(place), 0, 1);
        due.says("Promise 23: Throws NoSuchElementException if it is the first");
        due.refuses("isBroken(0)", Reels::three, Due.NONE, r -> r.isBroken(0));
        due.refusesEach("isBroken, of one", () -> Reels.plain(1), Due.NONE, (r, place) -> r.isBroken(place), 0, 1);
    }

    private static void broken() {
        due.says("Promise 24: Returns how many cuts are broken");
        due.is("of none", Reels.empty().broken(), 0);
        due.is("of one shot", Reels.plain(1).broken(), 0);
        due.is("of 24 shots, none", Reels.plain(24).broken(), 0);
        ThumbnailRow all = new ThumbnailRow();
        for (int i = 0; i < 24; i++) {
            all.shot(i % 2 == 0 ? 's' : 'n', 0, 1, i);
        }
        due.is("of 24 shots, all", all.broken(), 23);
        all.excuse(1, 'x');
        all.excuse(23, 'x');
        due.is("but the first and the last", all.broken(), 21);
    }
}
