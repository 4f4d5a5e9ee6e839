import java.util.NoSuchElementException;

/** Promises 25 to 33: boards and notes. */
final class BoardsAndNotesTest {
    private static final Class<?> NO_INDEX = IndexOutOfBoundsException.class;
    private static final Class<?> BAD = IllegalArgumentException.class;
    private static final Class<?> NOT_NOW = UnsupportedOperationException.class;
    private static final Class<?> FULL = IllegalStateException.class;
    private static final Class<?> NONE = NoSuchElementException.class;
    private static final Due due = new Due();

    public static void main(String[] args) {
        hand();
        handRefused();
        bring();
        bringInConflict();
        bringRefused();
        with();
        note();
        noteIs();
        close();
        renew();
        notes();
        due.end();
    }

    private static ThumbnailRow handedOut() {
        ThumbnailRow reel = Reels.three();
        reel.hand(0, 2);
        return reel;
    }

    private static void hand() {
        ThumbnailRow reel = Reels.plain(4);
        due.is("hand", reel.hand(0, 0), 1);
        due.is("hand another", reel.hand(3, 0), 2);
        due.is("hand to another", reel.hand(1, 3), 1);
        due.is("hand is no change", reel.version(0), 0);
        reel.bring(0, 10);
        due.is("hand after one is back", reel.hand(2, 0), 2);
        due.is("hand again", reel.hand(0, 0), 3);
        reel.drop(3);
        due.is("hand after a drop", reel.hand(reel.shot('s', 1, 1, 0), 0), 3);
    }

    private static void handRefused() {
        due.refuses("hand of shot -1", Reels::three, NO_INDEX, r -> r.hand(-1, 0));
        due.refuses("hand of shot 3", Reels::three, NO_INDEX, r -> r.hand(3, 4));
        due.refuses("hand -1", Reels::three, BAD, r -> r.hand(0, -1));
        due.refuses("hand 4", Reels::three, BAD, r -> r.hand(0, 4));
        due.refuses("hand out of the dropped", Reels::oneDropped, NOT_NOW, r -> r.hand(1, 0));
        due.refuses("hand 4 of the dropped", Reels::oneDropped, BAD, r -> r.hand(1, 4));
        due.refuses("hand twice", BoardsAndNotesTest::handedOut, NOT_NOW, r -> r.hand(0, 1));
        due.refuses("hand twice to the same", BoardsAndNotesTest::handedOut, NOT_NOW, r -> r.hand(0, 2));
    }

    private static void bring() {
        ThumbnailRow reel = handedOut();
        due.is("bring", reel.bring(0, 30), true);
        due.is("bring's length", reel.time(1), 30);
        due.is("bring's version", reel.version(0), 1);
        due.is("bring: with nobody", Snapshot.told(() -> reel.with(0)), NONE.getName());
        due.is("bring: conflicts", reel.conflicts(), 0);
        reel.hand(0, 1);
        reel.move(0, 2);
        reel.dear(0, true);
        reel.note(0);
        reel.camera(1, '0', 0);
        due.is("bring after what is no change", reel.bring(0, 240), true);
        reel.hand(0, 1);
        due.is("bring the same length", reel.bring(0, 240), true);
        due.is("bring the same length changes nothing", reel.version(0), 2);
        reel.length(0, 7);
        reel.hand(0, 1);
        due.is("bring with the version of handing out", reel.bring(0, 1), true);
    }

    private static void bringInConflict() {
        ThumbnailRow reel = handedOut();
        reel.camera(0, 'n', 0);
        due.is("bring in conflict", reel.bring(0, 30), false);
        due.is("conflict's length", reel.time(1), 24);
        due.is("conflict's version", reel.version(0), 1);
        due.is("conflict: with nobody", Snapshot.told(() -> reel.with(0)), NONE.getName());
        due.is("conflicts", reel.conflicts(), 1);
        due.is("hand after a conflict", reel.hand(0, 2), 1);
        reel.length(0, 25);
        reel.length(0, 24);
        due.is("bring after a change there and back", reel.bring(0, 24), false);
        due.is("conflicts by then", reel.conflicts(), 2);
        reel.hand(1, 0);
        reel.drop(1);
        due.is("conflicts after a drop", reel.conflicts(), 2);
    }

    private static ThumbnailRow handedAndDropped() {
        ThumbnailRow reel = handedOut();
        reel.drop(0);
        return reel;
    }

    private static void bringRefused() {
        due.refuses("bring of shot -1", BoardsAndNotesTest::handedOut, NO_INDEX, r -> r.bring(-1, 1));
        due.refuses("bring of shot 3", BoardsAndNotesTest::handedOut, NO_INDEX, r -> r.bring(3, 0));
        due.refuses("bring length 0", BoardsAndNotesTest::handedOut, BAD, r -> r.bring(0, 0));
        due.refuses("bring length 241", BoardsAndNotesTest::handedOut, BAD, r -> r.bring(0, 241));
        due.refuses("bring one with nobody", BoardsAndNotesTest::handedOut, NOT_NOW, r -> r.bring(1, 10));
        due.refuses("bring one with nobody, length 0", BoardsAndNotesTest::handedOut, BAD, r -> r.bring(1, 0));
        due.refuses("bring the dropped", BoardsAndNotesTest::handedAndDropped, NOT_NOW, r -> r.bring(0, 10));
    }

    private static void with() {
        ThumbnailRow reel = handedOut();
        reel.hand(2, 0);
        due.is("with", reel.with(0), 2);
        due.is("with hand 0", reel.with(2), 0);
        reel.length(0, 99);
        due.is("with after a change", reel.with(0), 2);
        due.refuses("with of -1", Reels::three, NO_INDEX, r -> r.with(-1));
        due.refuses("with of 3", Reels::three, NO_INDEX, r -> r.with(3));
        due.refuses("with nobody", BoardsAndNotesTest::handedOut, NONE, r -> r.with(1));
        due.refuses("with of the dropped", BoardsAndNotesTest::handedAndDropped, NONE, r -> r.with(0));
    }

    private static ThumbnailRow notesOn(int count) {
        ThumbnailRow reel = Reels.oneDropped();
        for (int i = 0; i < count; i++) {
            reel.note(0);
        }
        return reel;
    }

    private static void note() {
        ThumbnailRow reel = Reels.three();
        due.is("note", reel.note(2), 0);
        due.is("note on the same", reel.note(2), 1);
        due.is("note is no change", reel.version(2), 0);
        due.is("note 39", notesOn(39).note(2), 39);
        due.refuses("note on -1", Reels::three, NO_INDEX, r -> r.note(-1));
        due.refuses("note on 3", Reels::three, NO_INDEX, r -> r.note(3));
        due.refuses("note on the dropped", Reels::oneDropped, NOT_NOW, r -> r.note(1));
        due.refuses("note 40", () -> notesOn(40), FULL, r -> r.note(0));
        due.refuses("note 40 on the dropped", () -> notesOn(40), NOT_NOW, r -> r.note(1));
        due.refuses("note 40 on 3", () -> notesOn(40), NO_INDEX, r -> r.note(3));
    }

    private static void noteIs() {
        ThumbnailRow reel = Reels.three();
        reel.length(0, 5);
        reel.note(0);
        reel.note(1);
        due.is("noteIs open", reel.noteIs(0), 'o');
        reel.move(0, 2);
        due.is("noteIs open after a move", reel.noteIs(0), 'o');
        reel.stand(0, 0, 'l', 'l');
        due.is("noteIs stale", reel.noteIs(0), 's');
        due.is("noteIs open on another", reel.noteIs(1), 'o');
        reel.drop(1);
        due.is("noteIs stale by a drop", reel.noteIs(1), 's');
        due.refuses("noteIs of -1", () -> notesOn(2), NO_INDEX, r -> r.noteIs(-1));
        due.refuses("noteIs of 2", () -> notesOn(2), NO_INDEX, r -> r.noteIs(2));
    }

    private static ThumbnailRow closedAndStale() {
        ThumbnailRow reel = Reels.three();
        reel.note(0);
        reel.note(0);
        reel.note(0);
        reel.note(1);
        reel.close(0, true);
        reel.close(1, false);
        reel.length(0, 99);
        reel.drop(1);
        return reel;
    }

    private static void close() {
        ThumbnailRow reel = notesOn(3);
        due.is("close done", reel.close(0, true), true);
        due.is("closed done", reel.noteIs(0), 'd');
        due.is("close refused", reel.close(1, false), true);
        due.is("closed refused", reel.noteIs(1), 'r');
        reel.length(0, 99);
        due.is("closed done and changed", reel.noteIs(0), 'd');
        due.is("closed refused and changed", reel.noteIs(1), 'r');
        due.is("close is no change", reel.version(0), 1);
        due.refuses("close of -1", () -> notesOn(2), NO_INDEX, r -> r.close(-1, true));
        due.refuses("close of 2", () -> notesOn(2), NO_INDEX, r -> r.close(2, true));
        due.refuses("close the done", BoardsAndNotesTest::closedAndStale, NOT_NOW, r -> r.close(0, false));
        due.refuses("close the refused", BoardsAndNotesTest::closedAndStale, NOT_NOW, r -> r.close(1, true));
        due.refuses("close the stale", BoardsAndNotesTest::closedAndStale, NOT_NOW, r -> r.close(2, true));
    }

    private static void renew() {
        ThumbnailRow reel = closedAndStale();
        due.is("renew", reel.renew(2), 1);
        due.is("renewed", reel.noteIs(2), 'o');
        reel.length(0, 98);
        reel.length(0, 97);
        due.is("renewed, and stale again", reel.noteIs(2), 's');
        due.is("renew again", reel.renew(2), 3);
        due.is("close the renewed", reel.close(2, false), true);
        due.refuses("renew of -1", () -> notesOn(2), NO_INDEX, r -> r.renew(-1));
        due.refuses("renew of 2", () -> notesOn(2), NO_INDEX, r -> r.renew(2));
        due.refuses("renew the open", () -> notesOn(2), NOT_NOW, r -> r.renew(0));
        due.refuses("renew the done", BoardsAndNotesTest::closedAndStale, NOT_NOW, r -> r.renew(0));
        due.refuses("renew the refused", BoardsAndNotesTest::closedAndStale, NOT_NOW, r -> r.renew(1));
        due.refuses("renew on the dropped", BoardsAndNotesTest::closedAndStale, NOT_NOW, r -> r.renew(3));
    }

    private static void notes() {
        ThumbnailRow reel = closedAndStale();
        reel.note(2);
        reel.note(2);
        reel.note(2);
        due.is("notes o", reel.notes('o'), 3);
        due.is("notes d", reel.notes('d'), 1);
        due.is("notes r", reel.notes('r'), 1);
        due.is("notes s", reel.notes('s'), 2);
        due.refuses("notes x", Reels::three, BAD, r -> r.notes('x'));
        due.refuses("notes -", Reels::three, BAD, r -> r.notes('-'));
        due.refuses("notes O", Reels::three, BAD, r -> r.notes('O'));
    }
}
