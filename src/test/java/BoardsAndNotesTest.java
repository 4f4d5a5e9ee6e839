/** Promises 25 to 33: boards and notes. */
final class BoardsAndNotesTest {
    private static final Due due = new Due();

    public static void main(String[] args) {
        hand();
        bring();
        bringInConflict();
        with();
        note();
        noteIs();
        close();
        renew();
        notes();
        due.end();
    }

    private static void hand() {
        ThumbnailRow reel = Reels.plain(4);
        due.is("hand", reel.hand(0, 0), 1);
        due.is("hand another", reel.hand(3, 0), 2);
        due.is("hand to another", reel.hand(1, 3), 1);
        due.is("hand is no change", reel.version(0), 0);
        reel.bring(0, 10);
        due.is("hand after one is back", reel.hand(2, 0), 2);
        due.is("hand again", reel.hand(0, 0), 3);
        reel.drop(3);
        due.is("hand after a drop", reel.hand(reel.shot('s', 1, 1, 0), 0), 3);
    }

    private static void bring() {
        ThumbnailRow reel = Reels.handedOut();
        due.is("bring", reel.bring(0, 30), true);
        due.is("bring's length", reel.time(1), 30);
        due.is("bring's version", reel.version(0), 1);
        due.is("bring: with nobody", Snapshot.told(() -> reel.with(0)), Due.NONE.getName());
        due.is("bring: conflicts", reel.conflicts(), 0);
        reel.hand(0, 1);
        reel.move(0, 2);
        reel.dear(0, true);
        reel.note(0);
        reel.camera(1, '0', 0);
        due.is("bring after what is no change", reel.bring(0, 240), true);
        reel.hand(0, 1);
        due.is("bring the same length", reel.bring(0, 240), true);
        due.is("bring the same length changes nothing", reel.version(0), 2);
        reel.length(0, 7);
        reel.hand(0, 1);
        due.is("bring with the version of handing out", reel.bring(0, 1), true);
    }

    private static void bringInConflict() {
        ThumbnailRow reel = Reels.handedOut();
        reel.camera(0, 'n', 0);
        due.is("bring in conflict", reel.bring(0, 30), false);
        due.is("conflict's length", reel.time(1), 24);
        due.is("conflict's version", reel.version(0), 1);
        due.is("conflict: with nobody", Snapshot.told(() -> reel.with(0)), Due.NONE.getName());
        due.is("conflicts", reel.conflicts(), 1);
        due.is("hand after a conflict", reel.hand(0, 2), 1);
        reel.length(0, 25);
        reel.length(0, 24);
        due.is("bring after a change there and back", reel.bring(0, 24), false);
        due.is("conflicts by then", reel.conflicts(), 2);
        reel.hand(1, 0);
        reel.drop(1);
        due.is("conflicts after a drop", reel.conflicts(), 2);
    }

    private static void with() {
        ThumbnailRow reel = Reels.handedOut();
        reel.hand(2, 0);
        due.is("with", reel.with(0), 2);
        due.is("with hand 0", reel.with(2), 0);
        reel.length(0, 99);
        due.is("with after a change", reel.with(0), 2);
    }

    private static void note() {
        ThumbnailRow reel = Reels.three();
        due.is("note", reel.note(2), 0);
        due.is("note on the same", reel.note(2), 1);
        due.is("note is no change", reel.version(2), 0);
    }

    private static void noteIs() {
        ThumbnailRow reel = Reels.three();
        reel.length(0, 5);
        reel.note(0);
        reel.note(1);
        due.is("noteIs open", reel.noteIs(0), 'o');
        reel.move(0, 2);
        due.is("noteIs open after a move", reel.noteIs(0), 'o');
        reel.stand(0, 0, 'l', 'l');
        due.is("noteIs stale", reel.noteIs(0), 's');
        due.is("noteIs open on another", reel.noteIs(1), 'o');
        reel.drop(1);
        due.is("noteIs stale by a drop", reel.noteIs(1), 's');
    }

    private static void close() {
        ThumbnailRow reel = Reels.notesOn(3);
        due.is("close done", reel.close(0, true), true);
        due.is("closed done", reel.noteIs(0), 'd');
        due.is("close refused", reel.close(1, false), true);
        due.is("closed refused", reel.noteIs(1), 'r');
        reel.length(0, 99);
        due.is("closed done and changed", reel.noteIs(0), 'd');
        due.is("closed refused and changed", reel.noteIs(1), 'r');
        due.is("close is no change", reel.version(0), 1);
    }

    private static void renew() {
        ThumbnailRow reel = Reels.closedAndStale();
        due.is("renew", reel.renew(2), 1);
        due.is("renewed", reel.noteIs(2), 'o');
        reel.length(0, 98);
        reel.length(0, 97);
        due.is("renewed, and stale again", reel.noteIs(2), 's');
        due.is("renew again", reel.renew(2), 3);
        due.is("close the renewed", reel.close(2, false), true);
    }

    private static void notes() {
        ThumbnailRow reel = Reels.closedAndStale();
        reel.note(2);
        reel.note(2);
        reel.note(2);
        due.is("notes o", reel.notes('o'), 3);
        due.is("notes d", reel.notes('d'), 1);
        due.is("notes r", reel.notes('r'), 1);
        due.is("notes s", reel.notes('s'), 2);
    }
}
