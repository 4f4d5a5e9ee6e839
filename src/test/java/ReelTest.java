/** Promises 1 to 16: shots and the reel. */
final class ReelTest {
    private static final Due due = new Due();

    public static void main(String[] args) {
        shot();
        drop();
        move();
        lookUps();
        camera();
        length();
        stand();
        entersAndLeaves();
        version();
        times();
        due.end();
    }

    private static void shot() {
        ThumbnailRow reel = new ThumbnailRow();
        due.is("shot the first", reel.shot('s', 0, 1, 0), 0);
        due.is("shot behind", reel.shot('n', 4, 240, 1), 1);
        due.is("shot ahead", reel.shot('0', 2, 7, 0), 2);
        due.is("shot between", reel.shot('0', 2, 7, 2), 3);
        due.is("shots put in", Reels.order(reel), "2 0 3 1");
        due.is("shot keeps its length", reel.length(1, 240), 240);
        due.is("shot's version", reel.version(3), 0);
        due.is("shot's dearness", reel.dear(3, true), false);
    }

    private static void drop() {
        ThumbnailRow reel = Reels.three();
        reel.stand(1, 2, 'c', 'c');
        due.is("drop", reel.drop(1), 1);
        due.is("drop closes up", Reels.order(reel), "0 2");
        due.is("drop's version", reel.version(1), 2);
        due.is("drop of the last", reel.drop(2), 1);
        due.is("drop leaves the others' versions", reel.version(0), 0);
        due.is("shot after a drop", reel.shot('s', 1, 24, 1), 3);
    }

    private static void move() {
        ThumbnailRow reel = Reels.plain(5);
        due.is("move on", reel.move(1, 3), 1);
        due.is("moved on", Reels.order(reel), "0 2 3 1 4");
        due.is("move back", reel.move(4, 0), 4);
        due.is("moved back", Reels.order(reel), "4 0 2 3 1");
        due.is("move to the end", reel.move(4, 4), 0);
        due.is("moved to the end", Reels.order(reel), "0 2 3 1 4");
        due.is("move nowhere", reel.move(3, 2), 2);
        due.is("moved nowhere", Reels.order(reel), "0 2 3 1 4");
        due.is("move is no change of the shot", reel.version(4), 0);
    }

    private static void lookUps() {
        ThumbnailRow reel = Reels.three();
        due.is("shots", reel.shots(), 3);
        reel.move(2, 0);
        due.is("at 0", reel.at(0), 2);
        due.is("at 2", reel.at(2), 1);
        due.is("place of 2", reel.place(2), 0);
        due.is("place of 1", reel.place(1), 2);
        reel.drop(2);
        due.is("shots after a drop", reel.shots(), 2);
        due.is("place closed up", reel.place(1), 1);
    }

    private static void camera() {
        ThumbnailRow reel = Reels.three();
        due.is("camera of both", reel.camera(0, 'n', 4), 1);
        due.is("camera as it is", reel.camera(0, 'n', 4), 1);
        due.is("camera of the side", reel.camera(0, '0', 4), 2);
        due.is("camera of the lens", reel.camera(0, '0', 0), 3);
        due.is("camera's other shots", reel.version(1), 0);
        due.is("camera: setups", reel.setups(), 3);
        reel.camera(0, 's', 1);
        due.is("camera: setups again", reel.setups(), 2);
    }

    private static void length() {
        ThumbnailRow reel = Reels.three();
        due.is("length", reel.length(0, 240), 24);
        due.is("length's version", reel.version(0), 1);
        due.is("length as it is", reel.length(0, 240), 240);
        due.is("length's version as it is", reel.version(0), 1);
        due.is("length of 1", reel.length(0, 1), 240);
        due.is("length taken", reel.time(1), 1);
    }

    private static void stand() {
        ThumbnailRow reel = Reels.three();
        due.is("stand", reel.stand(0, 0, 'l', 'c'), 1);
        due.is("stand the second", reel.stand(0, 3, 'c', 'l'), 2);
        due.is("stand's version", reel.version(0), 2);
        due.is("stand as it is", reel.stand(0, 3, 'c', 'l'), 2);
        due.is("stand's version as it is", reel.version(0), 2);
        due.is("stand elsewhere", reel.stand(0, 3, 'r', 'l'), 2);
        due.is("stand's version elsewhere", reel.version(0), 3);
        due.is("stand gazing elsewhere", reel.stand(0, 3, 'r', 'r'), 2);
        due.is("stand's version gazing elsewhere", reel.version(0), 4);
        due.is("stand out who is not in", reel.stand(0, 1, '-', 'c'), 2);
        due.is("stand's version without one", reel.version(0), 4);
        due.is("stand out", reel.stand(0, 3, '-', '?'), 1);
        due.is("stand's version out", reel.version(0), 5);
        reel.enters(0, 0, 'l');
        reel.leaves(0, 0, 'r');
        reel.stand(0, 0, 'c', 'c');
        due.is("stand elsewhere keeps the entrance", reel.enters(0, 0, 'l'), 'l');
        due.is("stand elsewhere keeps the exit", reel.leaves(0, 0, 'r'), 'r');
        int before = reel.version(0);
        due.is("stand out the one with edges", reel.stand(0, 0, '-', 'l'), 0);
        due.is("stand out is one change", reel.version(0), before + 1);
        due.is("stand in again", reel.stand(0, 0, 'c', 'c'), 1);
        due.is("stand out took the entrance", reel.enters(0, 0, '-'), '-');
        due.is("stand out took the exit", reel.leaves(0, 0, '-'), '-');
        for (int character = 0; character < 4; character++) {
            due.is("stand all in", reel.stand(1, character, 'c', 'c'), character + 1);
        }
    }

    private static void entersAndLeaves() {
        ThumbnailRow reel = Reels.three();
        reel.stand(0, 2, 'l', 'l');
        due.is("enters", reel.enters(0, 2, 'l'), '-');
        due.is("enters' version", reel.version(0), 2);
        due.is("enters as it is", reel.enters(0, 2, 'l'), 'l');
        due.is("enters' version as it is", reel.version(0), 2);
        due.is("enters by r", reel.enters(0, 2, 'r'), 'l');
        due.is("leaves is another edge", reel.leaves(0, 2, 'l'), '-');
        due.is("leaves' version", reel.version(0), 4);
        due.is("leaves as it is", reel.leaves(0, 2, 'l'), 'l');
        due.is("leaves' version as it is", reel.version(0), 4);
        due.is("leaves no more", reel.leaves(0, 2, '-'), 'l');
        due.is("enters no more", reel.enters(0, 2, '-'), 'r');
        due.is("enters not", reel.enters(0, 2, '-'), '-');
        due.is("leaves not", reel.leaves(0, 2, '-'), '-');
        due.is("the version by then", reel.version(0), 6);
    }

    private static void version() {
        ThumbnailRow reel = Reels.three();
        reel.note(0);
        reel.dear(0, true);
        reel.hand(0, 1);
        reel.excuse(1, 'x');
        reel.move(0, 2);
        reel.lock();
        due.is("version without a change", reel.version(0), 0);
        reel.camera(0, 'n', 3);
        reel.length(0, 9);
        reel.stand(0, 0, 'l', 'l');
        due.is("version of three changes", reel.version(0), 3);
    }

    private static void times() {
        ThumbnailRow reel = Reels.three();
        due.is("time of the last", reel.time(2), 72);
        due.is("seen in the middle", reel.seen(50), 1);
        due.is("ended in the middle", reel.ended(50), 1);
        reel.move(2, 0);
        due.is("time after a move", reel.time(0), 12);
        due.is("seen after a move", reel.seen(12), 0);
        due.is("ended after a move", reel.ended(20), 1);
    }
}
