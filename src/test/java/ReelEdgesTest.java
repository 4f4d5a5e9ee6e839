/** The edges of promises 1 to 16: a sentence of the document each, and what is asked to hold it to. */
final class ReelEdgesTest {
    private static final int LEAST = Integer.MIN_VALUE;
    private static final int MOST = Integer.MAX_VALUE;
    private static final Due due = new Due();

    public static void main(String[] args) {
        newReel();
        mostShots();
        sidesAndLenses();
        lengthsAndPlaces();
        shotWithoutName();
        shotOrderOfExceptions();
        places();
        drop();
        dropChangesNothingElse();
        move();
        moveRefused();
        shotsAtPlace();
        camera();
        length();
        stand();
        standRefused();
        standTakenOut();
        edgeBefore("Promise 11: ", ThumbnailRow::enters);
        edgeRefused("Promise 11: ", ThumbnailRow::enters);
        edgeBefore("Promise 12: ", ThumbnailRow::leaves);
        edgeRefused("Promise 12: ", ThumbnailRow::leaves);
        versions();
        lastCall();
        time();
        seen();
        ended();
        due.end();
    }

    private static void newReel() {
        due.says("Promise 1: Creates a reel without shots");
        ThumbnailRow reel = new ThumbnailRow();
        due.is("shots", reel.shots(), 0);
        due.is("broken", reel.broken(), 0);
        due.is("conflicts", reel.conflicts(), 0);
        due.is("setups", reel.setups(), 0);
        due.is("first", reel.first(), 0);
        due.is("days", reel.days(), 0);
        due.is("notes", reel.notes('o') + reel.notes('d') + reel.notes('r') + reel.notes('s'), 0);
        due.is("checksum", reel.checksum(), 7L);
        due.is("isSound", reel.isSound(), true);
        due.says("Promise 1: whose names are not locked");
        due.is("lock", reel.lock(), false);
        ThumbnailRow other = Reels.plain(1);
        due.is("letter", other.letter(0), '-');
    }

    private static void mostShots() {
        due.says("Terms: At most 24 are ever made, numbered from 0 as they were made");
        due.is("the first shot", new ThumbnailRow().shot('s', 0, 1, 0), 0);
        due.is("the last shot", Reels.plain(23).shot('s', 0, 1, 23), 23);
        due.is("the last shot, with one dropped", Reels.droppedOf(23, 5).shot('s', 0, 1, 0), 23);
        due.says("Promise 2: Throws IllegalStateException if 24 were made");
        due.refusesEach("shot at", () -> Reels.plain(24), Due.FULL, (r, place) -> r.shot('s', 0, 1, place), 0, 12, 24);
        due.refuses("shot with one dropped", () -> Reels.droppedOf(24, 5), Due.FULL, r -> r.shot('s', 0, 1, 0));
        due.refuses("shot with all dropped", ReelEdgesTest::allDropped, Due.FULL, r -> r.shot('s', 0, 1, 0));
    }

    private static ThumbnailRow allDropped() {
        ThumbnailRow reel = Reels.plain(24);
        for (int shot = 0; shot < 24; shot++) {
            reel.drop(shot);
        }
        return reel;
    }

    private static void sidesAndLenses() {
        due.says("Promise 2: side 's', 'n' or '0'");
        due.is("south", new ThumbnailRow().shot('s', 0, 1, 0), 0);
        due.is("north", new ThumbnailRow().shot('n', 0, 1, 0), 0);
        due.is("on it", new ThumbnailRow().shot('0', 0, 1, 0), 0);
        due.says("Promise 2: Throws IllegalArgumentException if there is no such side");
        due.refusesEach("side", Reels::three, Due.BAD, (r, side) -> r.shot((char) side, 0, 1, 0),
                'S', 'N', 'O', 'o', '1', '-', 'r', 'm', 't', 0, 65535);
        due.says("Terms: a lens, 0 wide to 4 long");
        due.is("wide", new ThumbnailRow().shot('s', 0, 1, 0), 0);
        due.is("long", new ThumbnailRow().shot('s', 4, 1, 0), 0);
        due.says("Promise 2: Throws IllegalArgumentException if a number is out of range: the lens");
        due.refusesEach("lens", Reels::three, Due.BAD, (r, lens) -> r.shot('s', lens, 1, 0), -1, 5, LEAST, MOST);
    }

    private static void lengthsAndPlaces() {
        due.says("Terms: a length, 1 to 240 twenty-fourths of a second");
        ThumbnailRow shortest = new ThumbnailRow();
        due.is("shortest", shortest.shot('s', 0, 1, 0), 0);
        due.is("shortest, taken", shortest.length(0, 1), 1);
        ThumbnailRow longest = new ThumbnailRow();
        due.is("longest", longest.shot('s', 0, 240, 0), 0);
        due.is("longest, taken", longest.length(0, 240), 240);
        due.says("Promise 2: Throws IllegalArgumentException if a number is out of range: the length");
        due.refusesEach("length", Reels::three, Due.BAD, (r, frames) -> r.shot('s', 0, frames, 0),
                0, -1, 241, LEAST, MOST);
        due.says("Promise 2: the place, from 0 to the number of shots in the reel");
        due.is("first place of three", Reels.three().shot('s', 0, 1, 0), 3);
        due.is("last place of three", Reels.three().shot('s', 0, 1, 3), 3);
        due.is("last place of two", Reels.oneDropped().shot('s', 0, 1, 2), 3);
        due.says("Promise 2: Throws IllegalArgumentException if a number is out of range: the place");
        due.refusesEach("place of three", Reels::three, Due.BAD, (r, place) -> r.shot('s', 0, 1, place),
                -1, 4, LEAST, MOST);
        due.refusesEach("place of two", Reels::oneDropped, Due.BAD, (r, place) -> r.shot('s', 0, 1, place), 3);
        due.refusesEach("place of none", Reels::empty, Due.BAD, (r, place) -> r.shot('s', 0, 1, place), -1, 1);
    }

    private static void shotWithoutName() {
        due.says("Promise 2: Throws UnsupportedOperationException if it would need a name, and there is none");
        due.refuses("a seventh letter", () -> Reels.lettersUsed(6), Due.NOT_NOW, r -> r.shot('s', 0, 1, 0));
        due.refuses("a seventh letter, behind one", () -> Reels.lettersUsed(6), Due.NOT_NOW, r -> r.shot('s', 0, 1, 6));
        due.is("the sixth letter", Reels.lettersUsed(5).shot('s', 0, 1, 0), 5);
        ThumbnailRow unlocked = Reels.plain(12);
        due.is("no name needed", unlocked.shot('s', 0, 1, 0), 12);
    }

    private static void shotOrderOfExceptions() {
        due.says("Promise 2: of several exceptions the one that is listed first");
        due.refuses("no side, no name", () -> Reels.lettersUsed(6), Due.BAD, r -> r.shot('x', 0, 1, 0));
        due.refuses("no lens, 24 made", () -> Reels.plain(24), Due.BAD, r -> r.shot('s', 5, 1, 0));
        due.refuses("no length, 24 made", () -> Reels.plain(24), Due.BAD, r -> r.shot('s', 0, 0, 0));
        due.refuses("no place, 24 made", () -> Reels.plain(24), Due.BAD, r -> r.shot('s', 0, 1, 25));
        due.refuses("no name, 24 made", ReelEdgesTest::fullWithLettersUsed, Due.NOT_NOW, r -> r.shot('s', 0, 1, 0));
        due.refuses("a name, 24 made", ReelEdgesTest::fullWithLettersUsed, Due.FULL, r -> r.shot('s', 0, 1, 24));
        due.refuses("all of them", ReelEdgesTest::fullWithLettersUsed, Due.BAD, r -> r.shot('s', 0, 241, 0));
    }

    private static ThumbnailRow fullWithLettersUsed() {
        ThumbnailRow reel = Reels.plain(18);
        reel.lock();
        for (int i = 0; i < 6; i++) {
            reel.shot('s', 1, 24, 0);
        }
        return reel;
    }

    private static void places() {
        due.says("Terms: each new one at a place, those there and behind going on by one");
        ThumbnailRow reel = new ThumbnailRow();
        reel.shot('s', 0, 1, 0);
        due.is("one", Reels.order(reel), "0");
        reel.shot('s', 0, 1, 0);
        due.is("ahead of all", Reels.order(reel), "1 0");
        reel.shot('s', 0, 1, 2);
        due.is("behind all", Reels.order(reel), "1 0 2");
        reel.shot('s', 0, 1, 2);
        due.is("ahead of the last", Reels.order(reel), "1 0 3 2");
        reel.shot('s', 0, 1, 1);
        due.is("behind the first", Reels.order(reel), "1 4 0 3 2");
    }

    private static void drop() {
        due.says("Promise 3: Returns the place that it had");
        ThumbnailRow reel = Reels.plain(24);
        due.is("the last", reel.drop(23), 23);
        due.is("the first", reel.drop(0), 0);
        due.is("the first then", reel.drop(1), 0);
        due.is("the last then", reel.drop(22), 20);
        ThumbnailRow only = Reels.plain(1);
        due.is("the only one", only.drop(0), 0);
        due.is("none is left", only.shots(), 0);
        due.says("Promise 3: Throws IndexOutOfBoundsException if there is no such shot");
        due.refusesEach("drop", Reels::three, Due.NO_INDEX, (r, shot) -> r.drop(shot), -1, 3, LEAST, MOST);
        due.refusesEach("drop of none", Reels::empty, Due.NO_INDEX, (r, shot) -> r.drop(shot), 0);
        due.refusesEach("drop of 24", () -> Reels.plain(24), Due.NO_INDEX, (r, shot) -> r.drop(shot), 24);
        due.says("Promise 3: Throws UnsupportedOperationException if it is not in the reel");
        due.refuses("drop twice", Reels::oneDropped, Due.NOT_NOW, r -> r.drop(1));
        due.refuses("drop the only one twice", () -> Reels.droppedOf(1, 0), Due.NOT_NOW, r -> r.drop(0));
    }

    private static void dropChangesNothingElse() {
        due.says("Terms: A shot that is dropped is out of it for good");
        due.refuses("move in again", Reels::oneDropped, Due.NOT_NOW, r -> r.move(1, 0));
        ThumbnailRow reel = Reels.oneDropped();
        due.is("a new one is another one", reel.shot('n', 1, 48, 1), 3);
        due.says("Terms: its version being 1 more by that, but all else as it was");
        ThumbnailRow kept = Reels.lockedThree();
        kept.dear(1, true);
        kept.length(1, 50);
        kept.note(1);
        kept.close(0, false);
        kept.drop(1);
        due.is("version", kept.version(1), 2);
        due.is("dear", kept.dear(1, true), true);
        due.is("number", kept.number(1), 2);
        due.is("letter", kept.letter(1), '-');
        due.is("its closed note", kept.noteIs(0), 'r');
        due.is("version of the one ahead", kept.version(0), 0);
        due.is("version of the one behind", kept.version(2), 0);
        due.says("Terms: A shot that is dropped is with nobody");
        ThumbnailRow handed = Reels.plain(2);
        handed.hand(0, 0);
        handed.hand(1, 0);
        handed.drop(0);
        due.is("with", Snapshot.told(() -> handed.with(0)), Due.NONE.getName());
        due.is("with, of the other", handed.with(1), 0);
    }

    private static void move() {
        due.says("Terms: taken out and put in at a place, as the others are then");
        ThumbnailRow reel = Reels.plain(4);
        due.is("first to last", reel.move(0, 3), 0);
        due.is("moved so", Reels.order(reel), "1 2 3 0");
        due.is("last to first", reel.move(0, 0), 3);
        due.is("moved back", Reels.order(reel), "0 1 2 3");
        due.is("on by one", reel.move(1, 2), 1);
        due.is("moved on", Reels.order(reel), "0 2 1 3");
        due.is("to where it is", reel.move(3, 3), 3);
        due.is("moved nowhere", Reels.order(reel), "0 2 1 3");
        due.is("the only one", Reels.plain(1).move(0, 0), 0);
        ThumbnailRow all = Reels.plain(24);
        due.is("first to last of 24", all.move(0, 23), 0);
        due.is("the last then", all.at(23), 0);
        due.is("the first then", all.at(0), 1);
    }

    private static void moveRefused() {
        due.says("Promise 4: Throws IndexOutOfBoundsException if there is no such shot");
        due.refusesEach("move", Reels::three, Due.NO_INDEX, (r, shot) -> r.move(shot, 0), -1, 3, LEAST, MOST);
        due.refusesEach("move of none", Reels::empty, Due.NO_INDEX, (r, shot) -> r.move(shot, 0), 0);
        due.says("Promise 4: Throws IllegalArgumentException if there is no such place");
        due.refusesEach("move to", Reels::three, Due.BAD, (r, place) -> r.move(0, place), -1, 3, LEAST, MOST);
        due.refusesEach("move to, of two", Reels::oneDropped, Due.BAD, (r, place) -> r.move(0, place), 2);
        due.refusesEach("move to, of one", () -> Reels.plain(1), Due.BAD, (r, place) -> r.move(0, place), 1);
        due.says("Promise 4: Throws UnsupportedOperationException if it is not in the reel");
        due.refusesEach("move of the dropped", Reels::oneDropped, Due.NOT_NOW, (r, place) -> r.move(1, place), 0, 1);
        due.says("Promise 4: of several exceptions the one that is listed first");
        due.refuses("no shot, no place", Reels::three, Due.NO_INDEX, r -> r.move(3, 3));
        due.refusesEach("no place, dropped", Reels::oneDropped, Due.BAD, (r, place) -> r.move(1, place), -1, 2);
        due.refuses("no place in none, dropped", () -> Reels.droppedOf(1, 0), Due.BAD, r -> r.move(0, 0));
    }

    private static void shotsAtPlace() {
        due.says("Promise 5: Returns how many shots are in the reel");
        due.is("none", Reels.empty().shots(), 0);
        due.is("all", Reels.plain(24).shots(), 24);
        due.is("all dropped", allDropped().shots(), 0);
        due.says("Promise 6: Returns the shot at a place, from 0");
        due.is("the first", Reels.plain(24).at(0), 0);
        due.is("the last", Reels.plain(24).at(23), 23);
        due.says("Promise 6: Throws NoSuchElementException if there is none");
        due.refusesEach("at", Reels::three, Due.NONE, (r, place) -> r.at(place), -1, 3, LEAST, MOST);
        due.refusesEach("at, of two", Reels::oneDropped, Due.NONE, (r, place) -> r.at(place), 2);
        due.refusesEach("at, of none", Reels::empty, Due.NONE, (r, place) -> r.at(place), 0);
        due.refusesEach("at, of 24", () -> Reels.plain(24), Due.NONE, (r, place) -> r.at(place), 24);
        due.says("Promise 7: Returns the place of a shot");
        due.is("the first", Reels.plain(24).place(0), 0);
        due.is("the last", Reels.plain(24).place(23), 23);
        due.says("Promise 7: Throws IndexOutOfBoundsException if there is no such shot");
        due.refusesEach("place", Reels::three, Due.NO_INDEX, (r, shot) -> r.place(shot), -1, 3, LEAST, MOST);
        due.refusesEach("place of none", Reels::empty, Due.NO_INDEX, (r, shot) -> r.place(shot), 0);
        due.says("Promise 7: Throws NoSuchElementException if it is not in the reel");
        due.refuses("place of the dropped", Reels::oneDropped, Due.NONE, r -> r.place(1));
    }

    private static void camera() {
        due.says("Promise 8: Sets the side and the lens, 's', 'n' or '0', 0 wide to 4 long");
        ThumbnailRow reel = Reels.plain(1);
        due.is("to s, wide", reel.camera(0, 's', 0), 1);
        due.is("to n, long", reel.camera(0, 'n', 4), 2);
        due.is("to 0, long", reel.camera(0, '0', 4), 3);
        due.says("Promise 8: Throws IndexOutOfBoundsException if there is no such shot");
        due.refusesEach("camera", Reels::three, Due.NO_INDEX, (r, shot) -> r.camera(shot, 'n', 2), -1, 3, LEAST, MOST);
        due.refuses("camera of none", Reels::empty, Due.NO_INDEX, r -> r.camera(0, 'n', 2));
        due.says("Promise 8: Throws IllegalArgumentException if there is no such side or lens");
        due.refusesEach("side", Reels::three, Due.BAD, (r, side) -> r.camera(0, (char) side, 2),
                'S', 'N', 'O', 'o', '1', '-', 0, 65535);
        due.refusesEach("lens", Reels::three, Due.BAD, (r, lens) -> r.camera(0, 'n', lens), -1, 5, LEAST, MOST);
        due.says("Promise 8: Throws UnsupportedOperationException if it is not in the reel");
        due.refuses("camera of the dropped", Reels::oneDropped, Due.NOT_NOW, r -> r.camera(1, 's', 2));
        due.refuses("camera of the dropped as it is", Reels::oneDropped, Due.NOT_NOW, r -> r.camera(1, 'n', 1));
        due.says("Promise 8: of several exceptions the one that is listed first");
        due.refuses("no shot, no side", Reels::three, Due.NO_INDEX, r -> r.camera(3, 'x', 1));
        due.refuses("no shot, no lens", Reels::three, Due.NO_INDEX, r -> r.camera(-1, 's', 5));
        due.refuses("no side, dropped", Reels::oneDropped, Due.BAD, r -> r.camera(1, 'x', 1));
        due.refuses("no lens, dropped", Reels::oneDropped, Due.BAD, r -> r.camera(1, 's', -1));
    }

    private static void length() {
        due.says("Promise 9: Sets the length of a shot, 1 to 240");
        ThumbnailRow reel = Reels.plain(1);
        due.is("to the longest", reel.length(0, 240), 10);
        due.is("to the shortest", reel.length(0, 1), 240);
        due.is("from the shortest", reel.length(0, 2), 1);
        due.says("Promise 9: Throws IndexOutOfBoundsException if there is no such shot");
        due.refusesEach("length", Reels::three, Due.NO_INDEX, (r, shot) -> r.length(shot, 5), -1, 3, LEAST, MOST);
        due.refuses("length of none", Reels::empty, Due.NO_INDEX, r -> r.length(0, 5));
        due.says("Promise 9: Throws IllegalArgumentException if a number is out of range");
        due.refusesEach("length", Reels::three, Due.BAD, (r, frames) -> r.length(0, frames), 0, -1, 241, LEAST, MOST);
        due.says("Promise 9: Throws UnsupportedOperationException if it is not in the reel");
        due.refuses("length of the dropped", Reels::oneDropped, Due.NOT_NOW, r -> r.length(1, 5));
        due.refuses("length of the dropped as it is", Reels::oneDropped, Due.NOT_NOW, r -> r.length(1, 48));
        due.says("Promise 9: of several exceptions the one that is listed first");
        due.refuses("no shot, no length", Reels::three, Due.NO_INDEX, r -> r.length(3, 0));
        due.refusesEach("no length, dropped", Reels::oneDropped, Due.BAD, (r, frames) -> r.length(1, frames), 0, 241);
    }

    private static void stand() {
        due.says("Promise 10: Returns how many are in it");
        ThumbnailRow reel = Reels.plain(1);
        due.is("none", reel.stand(0, 0, '-', 'c'), 0);
        due.is("one", reel.stand(0, 0, 'l', 'c'), 1);
        due.is("two", reel.stand(0, 3, 'l', 'c'), 2);
        due.is("three", reel.stand(0, 1, 'l', 'c'), 3);
        due.is("four", reel.stand(0, 2, 'l', 'c'), 4);
        due.is("four, one elsewhere", reel.stand(0, 2, 'r', 'r'), 4);
        due.is("three again", reel.stand(0, 0, '-', 'c'), 3);
        due.says("Promise 10: 'l', 'c' or 'r', or '-' for not in it");
        for (char position : "lcr".toCharArray()) {
            due.is("place " + position, Reels.plain(1).stand(0, 0, position, 'c'), 1);
            due.is("gaze " + position, Reels.plain(1).stand(0, 3, 'c', position), 1);
        }
        due.says("Promise 10: the gaze is of no meaning by '-'");
        for (char gaze : "lcr-x0L".toCharArray()) {
            due.is("gaze " + gaze, Reels.standing(0, 2).stand(0, 2, '-', gaze), 0);
        }
        due.is("gaze 0", Reels.standing(0, 2).stand(0, 2, '-', (char) 0), 0);
        due.is("gaze 65535", Reels.standing(0, 2).stand(0, 2, '-', (char) 65535), 0);
    }

    private static void standRefused() {
        due.says("Promise 10: Throws IndexOutOfBoundsException if there is no such shot");
        due.refusesEach("stand in", Reels::three, Due.NO_INDEX, (r, shot) -> r.stand(shot, 0, 'l', 'l'),
                -1, 3, LEAST, MOST);
        due.refuses("stand in none", Reels::empty, Due.NO_INDEX, r -> r.stand(0, 0, 'l', 'l'));
        due.says("Promise 10: Throws IllegalArgumentException if there is no such character, place or gaze");
        due.refusesEach("character", Reels::three, Due.BAD, (r, who) -> r.stand(0, who, 'l', 'l'), -1, 4, LEAST, MOST);
        due.refusesEach("character out", Reels::three, Due.BAD, (r, who) -> r.stand(0, who, '-', 'l'), -1, 4);
        due.refusesEach("place", Reels::three, Due.BAD, (r, place) -> r.stand(0, 0, (char) place, 'l'),
                'L', 'C', 'R', 'x', '0', 's', 0, 65535);
        due.refusesEach("gaze", Reels::three, Due.BAD, (r, gaze) -> r.stand(0, 0, 'l', (char) gaze),
                'L', 'C', 'R', 'x', '0', '-', 0, 65535);
        due.says("Promise 10: Throws UnsupportedOperationException if it is not in the reel");
        due.refuses("in the dropped", Reels::oneDropped, Due.NOT_NOW, r -> r.stand(1, 0, 'l', 'l'));
        due.refuses("out of the dropped", Reels::oneDropped, Due.NOT_NOW, r -> r.stand(1, 0, '-', 'x'));
        due.says("Promise 10: of several exceptions the one that is listed first");
        due.refuses("no shot, no character", Reels::three, Due.NO_INDEX, r -> r.stand(3, 4, 'l', 'l'));
        due.refuses("no shot, no place", Reels::three, Due.NO_INDEX, r -> r.stand(-1, 0, 'x', 'l'));
        due.refuses("no shot, no gaze", Reels::three, Due.NO_INDEX, r -> r.stand(-1, 0, 'l', '-'));
        due.refusesEach("no character, dropped", Reels::oneDropped, Due.BAD, (r, who) -> r.stand(1, who, 'l', 'l'),
                -1, 4);
        due.refuses("no place, dropped", Reels::oneDropped, Due.BAD, r -> r.stand(1, 0, 'x', 'l'));
        due.refuses("no gaze, dropped", Reels::oneDropped, Due.BAD, r -> r.stand(1, 0, 'l', '-'));
    }

    private static void standTakenOut() {
        due.says("Promise 10: one that is taken out neither enters nor leaves");
        ThumbnailRow reel = Reels.standing(0, 1);
        reel.enters(0, 1, 'l');
        reel.leaves(0, 1, 'r');
        due.is("out", reel.stand(0, 1, '-', 'l'), 0);
        due.is("in again", reel.stand(0, 1, 'c', 'c'), 1);
        due.is("entered by", reel.enters(0, 1, '-'), '-');
        due.is("left by", reel.leaves(0, 1, '-'), '-');
        due.is("isSound", reel.isSound(), true);
    }

    /** Enters or leaves. */
    private interface EdgeCall {
        char set(ThumbnailRow reel, int shot, int character, char edge);
    }

    private static void edgeBefore(String promise, EdgeCall call) {
        due.says(promise + "Returns the edge before, '-' for none");
        ThumbnailRow reel = Reels.standing(0, 3);
        due.is("none before none", call.set(reel, 0, 3, '-'), '-');
        due.is("none before l", call.set(reel, 0, 3, 'l'), '-');
        due.is("l before r", call.set(reel, 0, 3, 'r'), 'l');
        due.is("r before none", call.set(reel, 0, 3, '-'), 'r');
        due.is("none again", call.set(reel, 0, 3, 'l'), '-');
        ThumbnailRow last = Reels.standing(23, 0);
        due.is("character 0 of the last shot", call.set(last, 23, 0, 'r'), '-');
        due.is("character 0 of the last shot, again", call.set(last, 23, 0, 'r'), 'r');
    }

    private static void edgeRefused(String promise, EdgeCall call) {
        due.says(promise + "Throws IndexOutOfBoundsException if there is no such shot");
        due.refusesEach("shot", Reels::oneIn, Due.NO_INDEX, (r, shot) -> call.set(r, shot, 2, 'l'), -1, 3, LEAST, MOST);
        due.refuses("shot of none", Reels::empty, Due.NO_INDEX, r -> call.set(r, 0, 2, 'l'));
        due.says(promise + "Throws IllegalArgumentException if there is no such character or edge");
        due.refusesEach("character", Reels::oneIn, Due.BAD, (r, who) -> call.set(r, 0, who, 'l'), -1, 4, LEAST, MOST);
        due.refusesEach("edge", Reels::oneIn, Due.BAD, (r, edge) -> call.set(r, 0, 2, (char) edge),
                'c', 'L', 'R', 'x', 0, 65535);
        due.says(promise + "Throws UnsupportedOperationException if it is not in the reel");
        due.refusesEach("dropped, edge", Reels::oneIn, Due.NOT_NOW, (r, edge) -> call.set(r, 1, 2, (char) edge),
                'l', '-');
        due.says(promise + "Throws UnsupportedOperationException if the character is not in it");
        due.refusesEach("not in it, edge", Reels::oneIn, Due.NOT_NOW, (r, edge) -> call.set(r, 0, 1, (char) edge),
                'l', '-');
        due.says(promise + "of several exceptions the one that is listed first");
        due.refuses("no shot, no character", Reels::oneIn, Due.NO_INDEX, r -> call.set(r, 3, 4, 'l'));
        due.refuses("no shot, no edge", Reels::oneIn, Due.NO_INDEX, r -> call.set(r, -1, 2, 'c'));
        due.refuses("no edge, not in it", Reels::oneIn, Due.BAD, r -> call.set(r, 0, 1, 'c'));
        due.refuses("no edge, dropped", Reels::oneIn, Due.BAD, r -> call.set(r, 1, 2, 'c'));
        due.refusesEach("no character, dropped", Reels::oneIn, Due.BAD, (r, who) -> call.set(r, 1, who, 'l'), -1, 4);
    }

    private static void versions() {
        due.says("Terms: Each shot has a version, 0 at first");
        due.is("version", Reels.plain(24).version(23), 0);
        due.says("Terms: 1 more with each call that changes something of its side, its lens, its length");
        ThumbnailRow reel = Reels.plain(1);
        reel.camera(0, 's', 2);
        due.is("after the side", reel.version(0), 1);
        reel.camera(0, 's', 3);
        due.is("after the lens", reel.version(0), 2);
        reel.camera(0, 'n', 4);
        due.is("after the side and the lens", reel.version(0), 3);
        reel.camera(0, 'n', 4);
        due.is("after neither", reel.version(0), 3);
        reel.length(0, 11);
        due.is("after the length", reel.version(0), 4);
        reel.length(0, 11);
        due.is("after the same length", reel.version(0), 4);
        due.says("Terms: or its characters, their edges, too");
        reel.stand(0, 0, 'l', 'l');
        reel.enters(0, 0, 'l');
        reel.leaves(0, 0, 'l');
        due.is("after a character and two edges", reel.version(0), 7);
        reel.stand(0, 0, 'l', 'l');
        reel.enters(0, 0, 'l');
        reel.leaves(0, 0, 'l');
        reel.stand(0, 1, '-', 'l');
        due.is("after what was so", reel.version(0), 7);
        reel.stand(0, 0, 'c', 'l');
        due.is("after the place alone", reel.version(0), 8);
        reel.stand(0, 0, 'c', 'r');
        due.is("after the gaze alone", reel.version(0), 9);
        reel.stand(0, 0, '-', 'l');
        due.is("after taking it out with its edges", reel.version(0), 10);
        due.says("Promise 13: Throws IndexOutOfBoundsException if there is no such shot");
        due.refusesEach("version", Reels::three, Due.NO_INDEX, (r, shot) -> r.version(shot), -1, 3, LEAST, MOST);
        due.refuses("version of none", Reels::empty, Due.NO_INDEX, r -> r.version(0));
        due.is("version of the dropped", Reels.oneDropped().version(1), 1);
    }

    private static void lastCall() {
        due.says("What it is: An object is used for at most 512 calls after it has been made");
        ThumbnailRow reel = Reels.plain(1);
        for (int i = 0; i < 510; i++) {
            reel.length(0, 1 + i % 2);
        }
        due.is("the 512th call", reel.version(0), 510);
        ThumbnailRow passed = new ThumbnailRow();
        for (int i = 0; i < 511; i++) {
            Snapshot.told(() -> passed.shot('s', 0, 1, 0));
        }
        due.is("the 512th call after refused ones", passed.shots(), 24);
    }

    private static ThumbnailRow longest() {
        ThumbnailRow reel = new ThumbnailRow();
        for (int i = 0; i < 24; i++) {
            reel.shot('s', 0, 240, i);
        }
        return reel;
    }

    private static void time() {
        due.says("Terms: The time at which a shot begins is the sum of the lengths ahead of it");
        due.is("of the first", longest().time(0), 0);
        due.is("of the second", longest().time(1), 240);
        due.is("of the last", longest().time(23), 5520);
        due.says("Promise 14: Throws IndexOutOfBoundsException if there is no such shot");
        due.refusesEach("time", Reels::three, Due.NO_INDEX, (r, shot) -> r.time(shot), -1, 3, LEAST, MOST);
        due.refuses("time of none", Reels::empty, Due.NO_INDEX, r -> r.time(0));
        due.says("Promise 14: Throws NoSuchElementException if it is not in the reel");
        due.refuses("time of the dropped", Reels::oneDropped, Due.NONE, r -> r.time(1));
    }

    private static void seen() {
        due.says("Promise 15: Returns which shot is seen at a time, from 0");
        due.is("at 0", Reels.three().seen(0), 0);
        due.is("at the end of the first", Reels.three().seen(23), 0);
        due.is("at the begin of the second", Reels.three().seen(24), 1);
        due.is("at the last time", Reels.three().seen(83), 2);
        due.is("at the last time of the longest reel", longest().seen(5759), 23);
        due.says("Promise 15: Throws NoSuchElementException if none is");
        due.refusesEach("seen", Reels::three, Due.NONE, (r, time) -> r.seen(time), -1, 84, LEAST, MOST);
        due.refusesEach("seen in the longest reel", ReelEdgesTest::longest, Due.NONE, (r, time) -> r.seen(time), 5760);
        due.refusesEach("seen in none", Reels::empty, Due.NONE, (r, time) -> r.seen(time), 0);
        due.refusesEach("seen in none, all dropped", ReelEdgesTest::allDropped, Due.NONE, (r, time) -> r.seen(time), 0);
    }

    private static void ended() {
        due.says("Promise 16: Returns how many shots of the reel have ended at that time or earlier");
        due.is("at 0", Reels.three().ended(0), 0);
        due.is("one ahead of the first end", Reels.three().ended(23), 0);
        due.is("at the first end", Reels.three().ended(24), 1);
        due.is("one ahead of the last end", Reels.three().ended(83), 2);
        due.is("at the last end", Reels.three().ended(84), 3);
        due.is("one ahead of the longest reel's end", longest().ended(5759), 23);
        due.is("at the longest reel's end", longest().ended(5760), 24);
        due.is("in none", Reels.empty().ended(0), 0);
        due.says("Promise 16: the length, 0 to 9999");
        due.is("at 9999", Reels.three().ended(9999), 3);
        due.is("at 9999 in none", Reels.empty().ended(9999), 0);
        due.says("Promise 16: Throws IllegalArgumentException if a number is out of range");
        due.refusesEach("ended", Reels::three, Due.BAD, (r, time) -> r.ended(time), -1, 10000, LEAST, MOST);
        due.refusesEach("ended in none", Reels::empty, Due.BAD, (r, time) -> r.ended(time), -1, 10000);
    }
}
