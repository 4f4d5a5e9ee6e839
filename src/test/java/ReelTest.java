import java.util.NoSuchElementException;

/** Promises 1 to 16: shots and the reel. */
final class ReelTest {
    private static final Class<?> NO_INDEX = IndexOutOfBoundsException.class;
    private static final Class<?> BAD = IllegalArgumentException.class;
    private static final Class<?> NOT_NOW = UnsupportedOperationException.class;
    private static final Class<?> FULL = IllegalStateException.class;
    private static final Class<?> NONE = NoSuchElementException.class;
    private static final Due due = new Due();

    public static void main(String[] args) {
        newObject();
        shot();
        shotRefused();
        drop();
        move();
        lookUps();
        camera();
        length();
        stand();
        standRefused();
        entersAndLeaves();
        edgesRefused();
        version();
        times();
        due.end();
    }

    private static void newObject() {
        ThumbnailRow reel = new ThumbnailRow();
        due.is("new: shots", reel.shots(), 0);
        due.is("new: conflicts", reel.conflicts(), 0);
        due.is("new: broken", reel.broken(), 0);
        due.is("new: notes", reel.notes('o'), 0);
        due.is("new: checksum", reel.checksum(), 7L);
        due.is("new: isSound", reel.isSound(), true);
        due.is("new: locked", reel.lock(), false);
    }

    private static void shot() {
        ThumbnailRow reel = new ThumbnailRow();
        due.is("shot the first", reel.shot('s', 0, 1, 0), 0);
        due.is("shot behind", reel.shot('n', 4, 240, 1), 1);
        due.is("shot ahead", reel.shot('0', 2, 7, 0), 2);
        due.is("shot between", reel.shot('0', 2, 7, 2), 3);
        due.is("shots put in", Reels.order(reel), "2 0 3 1");
        due.is("shot keeps its length", reel.length(1, 240), 240);
        due.is("shot's version", reel.version(3), 0);
        due.is("shot's dearness", reel.dear(3, true), false);
        ThumbnailRow all = Reels.plain(24);
        due.is("24 shots", all.shots(), 24);
        due.is("24 shots, the last", all.at(23), 23);
    }

    private static void shotRefused() {
        due.refuses("shot of no side", Reels::three, BAD, r -> r.shot('x', 1, 24, 0));
        due.refuses("shot of side -", Reels::three, BAD, r -> r.shot('-', 1, 24, 0));
        due.refuses("shot of side S", Reels::three, BAD, r -> r.shot('S', 1, 24, 0));
        due.refuses("shot of lens -1", Reels::three, BAD, r -> r.shot('s', -1, 24, 0));
        due.refuses("shot of lens 5", Reels::three, BAD, r -> r.shot('s', 5, 24, 0));
        due.refuses("shot of length 0", Reels::three, BAD, r -> r.shot('s', 1, 0, 0));
        due.refuses("shot of length 241", Reels::three, BAD, r -> r.shot('s', 1, 241, 0));
        due.refuses("shot at -1", Reels::three, BAD, r -> r.shot('s', 1, 24, -1));
        due.refuses("shot at 4", Reels::three, BAD, r -> r.shot('s', 1, 24, 4));
        due.refuses("shot at 3 of 2", Reels::oneDropped, BAD, r -> r.shot('s', 1, 24, 3));
        due.refuses("shot far off", Reels::three, BAD, r -> r.shot('s', 1, 24, Integer.MAX_VALUE));
        due.refuses("shot 25", () -> Reels.plain(24), FULL, r -> r.shot('s', 1, 24, 0));
        due.refuses("shot 25 with one dropped", ReelTest::fullWithADrop, FULL, r -> r.shot('s', 1, 24, 0));
        due.refuses("shot 25 of no lens", () -> Reels.plain(24), BAD, r -> r.shot('s', 5, 24, 0));
        due.refuses("shot without a name", () -> lettersUsed(6), NOT_NOW, r -> r.shot('s', 1, 24, 0));
        due.refuses("shot 25 without a name", ReelTest::fullWithLettersUsed, NOT_NOW, r -> r.shot('s', 1, 24, 0));
        due.refuses("shot 25 with a name", ReelTest::fullWithLettersUsed, FULL, r -> r.shot('s', 1, 24, 24));
        due.refuses("shot without a name or side", () -> lettersUsed(6), BAD, r -> r.shot('x', 1, 24, 0));
        due.is("shot with the last letter", lettersUsed(5).shot('s', 1, 24, 0), 5);
    }

    private static ThumbnailRow fullWithADrop() {
        ThumbnailRow reel = Reels.plain(24);
        reel.drop(5);
        return reel;
    }

    /** Locked while empty, with so many letters of number 0 used. */
    private static ThumbnailRow lettersUsed(int count) {
        ThumbnailRow reel = new ThumbnailRow();
        reel.lock();
        for (int i = 0; i < count; i++) {
            reel.shot('s', 1, 24, 0);
        }
        return reel;
    }

    private static ThumbnailRow fullWithLettersUsed() {
        ThumbnailRow reel = Reels.plain(18);
        reel.lock();
        for (int i = 0; i < 6; i++) {
            reel.shot('s', 1, 24, 0);
        }
        return reel;
    }

    private static void drop() {
        ThumbnailRow reel = Reels.three();
        reel.stand(1, 2, 'c', 'c');
        due.is("drop", reel.drop(1), 1);
        due.is("drop closes up", Reels.order(reel), "0 2");
        due.is("drop's version", reel.version(1), 2);
        due.is("drop of the last", reel.drop(2), 1);
        due.is("drop leaves the others' versions", reel.version(0), 0);
        due.is("shot after a drop", reel.shot('s', 1, 24, 1), 3);
        due.refuses("drop of -1", Reels::three, NO_INDEX, r -> r.drop(-1));
        due.refuses("drop of 3", Reels::three, NO_INDEX, r -> r.drop(3));
        due.refuses("drop of the dropped", Reels::oneDropped, NOT_NOW, r -> r.drop(1));
    }

    private static void move() {
        ThumbnailRow reel = Reels.plain(5);
        due.is("move on", reel.move(1, 3), 1);
        due.is("moved on", Reels.order(reel), "0 2 3 1 4");
        due.is("move back", reel.move(4, 0), 4);
        due.is("moved back", Reels.order(reel), "4 0 2 3 1");
        due.is("move to the end", reel.move(4, 4), 0);
        due.is("moved to the end", Reels.order(reel), "0 2 3 1 4");
        due.is("move nowhere", reel.move(3, 2), 2);
        due.is("moved nowhere", Reels.order(reel), "0 2 3 1 4");
        due.is("move is no change of the shot", reel.version(4), 0);
        due.refuses("move of -1", Reels::three, NO_INDEX, r -> r.move(-1, 0));
        due.refuses("move of 3", Reels::three, NO_INDEX, r -> r.move(3, 0));
        due.refuses("move of 3 to nowhere", Reels::three, NO_INDEX, r -> r.move(3, -1));
        due.refuses("move to -1", Reels::three, BAD, r -> r.move(0, -1));
        due.refuses("move to 3 of 3", Reels::three, BAD, r -> r.move(0, 3));
        due.refuses("move of the dropped", Reels::oneDropped, NOT_NOW, r -> r.move(1, 0));
        due.refuses("move of the dropped to -1", Reels::oneDropped, BAD, r -> r.move(1, -1));
    }

    private static void lookUps() {
        ThumbnailRow reel = Reels.three();
        due.is("shots", reel.shots(), 3);
        reel.move(2, 0);
        due.is("at 0", reel.at(0), 2);
        due.is("at 2", reel.at(2), 1);
        due.is("place of 2", reel.place(2), 0);
        due.is("place of 1", reel.place(1), 2);
        reel.drop(2);
        due.is("shots after a drop", reel.shots(), 2);
        due.is("place closed up", reel.place(1), 1);
        due.refuses("at -1", Reels::three, NONE, r -> r.at(-1));
        due.refuses("at 3", Reels::three, NONE, r -> r.at(3));
        due.refuses("at 0 of none", Reels::empty, NONE, r -> r.at(0));
        due.refuses("at 2 of 2", Reels::oneDropped, NONE, r -> r.at(2));
        due.refuses("place of -1", Reels::three, NO_INDEX, r -> r.place(-1));
        due.refuses("place of 3", Reels::three, NO_INDEX, r -> r.place(3));
        due.refuses("place of the dropped", Reels::oneDropped, NONE, r -> r.place(1));
    }

    private static void camera() {
        ThumbnailRow reel = Reels.three();
        due.is("camera of both", reel.camera(0, 'n', 4), 1);
        due.is("camera as it is", reel.camera(0, 'n', 4), 1);
        due.is("camera of the side", reel.camera(0, '0', 4), 2);
        due.is("camera of the lens", reel.camera(0, '0', 0), 3);
        due.is("camera's other shots", reel.version(1), 0);
        due.is("camera: setups", reel.setups(), 3);
        reel.camera(0, 's', 1);
        due.is("camera: setups again", reel.setups(), 2);
        due.refuses("camera of 3", Reels::three, NO_INDEX, r -> r.camera(3, 'x', 1));
        due.refuses("camera of -1", Reels::three, NO_INDEX, r -> r.camera(-1, 's', 1));
        due.refuses("camera of no side", Reels::three, BAD, r -> r.camera(0, 'o', 1));
        due.refuses("camera of lens -1", Reels::three, BAD, r -> r.camera(0, 's', -1));
        due.refuses("camera of lens 5", Reels::three, BAD, r -> r.camera(0, 's', 5));
        due.refuses("camera of the dropped", Reels::oneDropped, NOT_NOW, r -> r.camera(1, 's', 1));
        due.refuses("camera of the dropped, no lens", Reels::oneDropped, BAD, r -> r.camera(1, 's', 5));
    }

    private static void length() {
        ThumbnailRow reel = Reels.three();
        due.is("length", reel.length(0, 240), 24);
        due.is("length's version", reel.version(0), 1);
        due.is("length as it is", reel.length(0, 240), 240);
        due.is("length's version as it is", reel.version(0), 1);
        due.is("length of 1", reel.length(0, 1), 240);
        due.is("length taken", reel.time(1), 1);
        due.refuses("length of shot 3", Reels::three, NO_INDEX, r -> r.length(3, 0));
        due.refuses("length of shot -1", Reels::three, NO_INDEX, r -> r.length(-1, 5));
        due.refuses("length 0", Reels::three, BAD, r -> r.length(0, 0));
        due.refuses("length 241", Reels::three, BAD, r -> r.length(0, 241));
        due.refuses("length of the dropped", Reels::oneDropped, NOT_NOW, r -> r.length(1, 5));
        due.refuses("length 0 of the dropped", Reels::oneDropped, BAD, r -> r.length(1, 0));
    }

    private static void stand() {
        ThumbnailRow reel = Reels.three();
        due.is("stand", reel.stand(0, 0, 'l', 'c'), 1);
        due.is("stand the second", reel.stand(0, 3, 'c', 'l'), 2);
        due.is("stand's version", reel.version(0), 2);
        due.is("stand as it is", reel.stand(0, 3, 'c', 'l'), 2);
        due.is("stand's version as it is", reel.version(0), 2);
        due.is("stand elsewhere", reel.stand(0, 3, 'r', 'l'), 2);
        due.is("stand's version elsewhere", reel.version(0), 3);
        due.is("stand gazing elsewhere", reel.stand(0, 3, 'r', 'r'), 2);
        due.is("stand's version gazing elsewhere", reel.version(0), 4);
        due.is("stand out who is not in", reel.stand(0, 1, '-', 'c'), 2);
        due.is("stand's version without one", reel.version(0), 4);
        due.is("stand out", reel.stand(0, 3, '-', '?'), 1);
        due.is("stand's version out", reel.version(0), 5);
        reel.enters(0, 0, 'l');
        reel.leaves(0, 0, 'r');
        reel.stand(0, 0, 'c', 'c');
        due.is("stand elsewhere keeps the entrance", reel.enters(0, 0, 'l'), 'l');
        due.is("stand elsewhere keeps the exit", reel.leaves(0, 0, 'r'), 'r');
        int before = reel.version(0);
        due.is("stand out the one with edges", reel.stand(0, 0, '-', 'l'), 0);
        due.is("stand out is one change", reel.version(0), before + 1);
        due.is("stand in again", reel.stand(0, 0, 'c', 'c'), 1);
        due.is("stand out took the entrance", reel.enters(0, 0, '-'), '-');
        due.is("stand out took the exit", reel.leaves(0, 0, '-'), '-');
        for (int character = 0; character < 4; character++) {
            due.is("stand all in", reel.stand(1, character, 'c', 'c'), character + 1);
        }
    }

    private static void standRefused() {
        due.refuses("stand in 3", Reels::three, NO_INDEX, r -> r.stand(3, 4, 'l', 'l'));
        due.refuses("stand in -1", Reels::three, NO_INDEX, r -> r.stand(-1, 0, 'l', 'l'));
        due.refuses("stand character -1", Reels::three, BAD, r -> r.stand(0, -1, 'l', 'l'));
        due.refuses("stand character 4", Reels::three, BAD, r -> r.stand(0, 4, 'l', 'l'));
        due.refuses("stand out character 4", Reels::three, BAD, r -> r.stand(0, 4, '-', 'l'));
        due.refuses("stand nowhere", Reels::three, BAD, r -> r.stand(0, 0, 'x', 'l'));
        due.refuses("stand gazing nowhere", Reels::three, BAD, r -> r.stand(0, 0, 'l', '-'));
        due.refuses("stand gazing at x", Reels::three, BAD, r -> r.stand(0, 0, 'l', 'x'));
        due.refuses("stand in the dropped", Reels::oneDropped, NOT_NOW, r -> r.stand(1, 0, 'l', 'l'));
        due.refuses("stand out of the dropped", Reels::oneDropped, NOT_NOW, r -> r.stand(1, 0, '-', 'x'));
        due.refuses("stand nowhere in the dropped", Reels::oneDropped, BAD, r -> r.stand(1, 0, 'x', 'l'));
    }

    private static void entersAndLeaves() {
        ThumbnailRow reel = Reels.three();
        reel.stand(0, 2, 'l', 'l');
        due.is("enters", reel.enters(0, 2, 'l'), '-');
        due.is("enters' version", reel.version(0), 2);
        due.is("enters as it is", reel.enters(0, 2, 'l'), 'l');
        due.is("enters' version as it is", reel.version(0), 2);
        due.is("enters by r", reel.enters(0, 2, 'r'), 'l');
        due.is("leaves is another edge", reel.leaves(0, 2, 'l'), '-');
        due.is("leaves' version", reel.version(0), 4);
        due.is("leaves as it is", reel.leaves(0, 2, 'l'), 'l');
        due.is("leaves' version as it is", reel.version(0), 4);
        due.is("leaves no more", reel.leaves(0, 2, '-'), 'l');
        due.is("enters no more", reel.enters(0, 2, '-'), 'r');
        due.is("enters not", reel.enters(0, 2, '-'), '-');
        due.is("leaves not", reel.leaves(0, 2, '-'), '-');
        due.is("the version by then", reel.version(0), 6);
    }

    private static ThumbnailRow oneIn() {
        ThumbnailRow reel = Reels.three();
        reel.stand(0, 2, 'l', 'l');
        reel.stand(1, 2, 'l', 'l');
        reel.drop(1);
        return reel;
    }

    private static void edgesRefused() {
        due.refuses("enters 3", ReelTest::oneIn, NO_INDEX, r -> r.enters(3, 9, 'l'));
        due.refuses("enters -1", ReelTest::oneIn, NO_INDEX, r -> r.enters(-1, 2, 'l'));
        due.refuses("enters of -1", ReelTest::oneIn, BAD, r -> r.enters(0, -1, 'l'));
        due.refuses("enters of 4", ReelTest::oneIn, BAD, r -> r.enters(0, 4, 'l'));
        due.refuses("enters by c", ReelTest::oneIn, BAD, r -> r.enters(0, 2, 'c'));
        due.refuses("enters by c who is not in", ReelTest::oneIn, BAD, r -> r.enters(0, 1, 'c'));
        due.refuses("enters who is not in", ReelTest::oneIn, NOT_NOW, r -> r.enters(0, 1, 'l'));
        due.refuses("enters not who is not in", ReelTest::oneIn, NOT_NOW, r -> r.enters(0, 1, '-'));
        due.refuses("enters the dropped", ReelTest::oneIn, NOT_NOW, r -> r.enters(1, 2, 'l'));
        due.refuses("leaves 3", ReelTest::oneIn, NO_INDEX, r -> r.leaves(3, 9, 'l'));
        due.refuses("leaves -1", ReelTest::oneIn, NO_INDEX, r -> r.leaves(-1, 2, 'l'));
        due.refuses("leaves of -1", ReelTest::oneIn, BAD, r -> r.leaves(0, -1, 'l'));
        due.refuses("leaves of 4", ReelTest::oneIn, BAD, r -> r.leaves(0, 4, 'l'));
        due.refuses("leaves by c", ReelTest::oneIn, BAD, r -> r.leaves(0, 2, 'c'));
        due.refuses("leaves by c who is not in", ReelTest::oneIn, BAD, r -> r.leaves(0, 1, 'c'));
        due.refuses("leaves who is not in", ReelTest::oneIn, NOT_NOW, r -> r.leaves(0, 1, 'l'));
        due.refuses("leaves not who is not in", ReelTest::oneIn, NOT_NOW, r -> r.leaves(0, 1, '-'));
        due.refuses("leaves the dropped", ReelTest::oneIn, NOT_NOW, r -> r.leaves(1, 2, 'l'));
    }

    private static void version() {
        ThumbnailRow reel = Reels.three();
        reel.note(0);
        reel.dear(0, true);
        reel.hand(0, 1);
        reel.excuse(1, 'x');
        reel.move(0, 2);
        reel.lock();
        due.is("version without a change", reel.version(0), 0);
        reel.camera(0, 'n', 3);
        reel.length(0, 9);
        reel.stand(0, 0, 'l', 'l');
        due.is("version of three changes", reel.version(0), 3);
        due.refuses("version of -1", Reels::three, NO_INDEX, r -> r.version(-1));
        due.refuses("version of 3", Reels::three, NO_INDEX, r -> r.version(3));
        due.refuses("version of none", Reels::empty, NO_INDEX, r -> r.version(0));
    }

    private static void times() {
        ThumbnailRow reel = Reels.three();
        due.is("time of the first", reel.time(0), 0);
        due.is("time of the last", reel.time(2), 72);
        due.is("seen at 0", reel.seen(0), 0);
        due.is("seen at 23", reel.seen(23), 0);
        due.is("seen at 24", reel.seen(24), 1);
        due.is("seen at 83", reel.seen(83), 2);
        due.is("ended at 0", reel.ended(0), 0);
        due.is("ended at 23", reel.ended(23), 0);
        due.is("ended at 24", reel.ended(24), 1);
        due.is("ended at 83", reel.ended(83), 2);
        due.is("ended at 84", reel.ended(84), 3);
        due.is("ended at 9999", reel.ended(9999), 3);
        due.is("ended of none", new ThumbnailRow().ended(0), 0);
        reel.move(2, 0);
        due.is("time after a move", reel.time(0), 12);
        due.is("seen after a move", reel.seen(12), 0);
        due.refuses("time of -1", Reels::three, NO_INDEX, r -> r.time(-1));
        due.refuses("time of 3", Reels::three, NO_INDEX, r -> r.time(3));
        due.refuses("time of the dropped", Reels::oneDropped, NONE, r -> r.time(1));
        due.refuses("seen at -1", Reels::three, NONE, r -> r.seen(-1));
        due.refuses("seen at the end", Reels::three, NONE, r -> r.seen(84));
        due.refuses("seen at 0 of none", Reels::empty, NONE, r -> r.seen(0));
        due.refuses("seen far off", Reels::three, NONE, r -> r.seen(Integer.MAX_VALUE));
        due.refuses("ended at -1", Reels::three, BAD, r -> r.ended(-1));
        due.refuses("ended at 10000", Reels::three, BAD, r -> r.ended(10000));
    }
}
