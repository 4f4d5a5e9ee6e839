/** The edges of promises 25 to 33: a sentence of the document each, and what is asked to hold it to. */
final class BoardsAndNotesEdgesTest {
    private static final int LEAST = Integer.MIN_VALUE;
    private static final int MOST = Integer.MAX_VALUE;
    private static final Due due = new Due();

    public static void main(String[] args) {
        hand();
        handRefused();
        bring();
        conflict();
        bringRefused();
        with();
        conflicts();
        note();
        noteRefused();
        noteIs();
        close();
        renew();
        renewRefused();
        notes();
        due.end();
    }

    private static ThumbnailRow handedAndChanged() {
        ThumbnailRow reel = Reels.handedOut();
        reel.length(0, 25);
        return reel;
    }

    private static ThumbnailRow handedAndDropped() {
        ThumbnailRow reel = Reels.handedOut();
        reel.drop(0);
        return reel;
    }

    private static void hand() {
        due.says("Terms: Hands are 0 to 3");
        due.is("hand 0", Reels.three().hand(0, 0), 1);
        due.is("hand 3", Reels.three().hand(0, 3), 1);
        due.says("Promise 25: Throws IllegalArgumentException if a number is out of range");
        due.refusesEach("hand", Reels::three, Due.BAD, (r, hand) -> r.hand(0, hand), -1, 4, LEAST, MOST);
        due.says("Promise 25: Returns how many boards this hand has");
        ThumbnailRow all = Reels.plain(24);
        for (int shot = 0; shot < 24; shot++) {
            due.is("board " + shot, all.hand(shot, 1), shot + 1);
        }
        all.drop(0);
        all.bring(1, 10);
        due.is("with one dropped and one back", all.hand(1, 1), 23);
        all.bring(1, 10);
        due.is("another hand", all.hand(1, 0), 1);
        due.says("Terms: A shot in the reel that is with nobody can be handed out to one");
        ThumbnailRow back = Reels.handedOut();
        back.bring(0, 24);
        due.is("after it came back", back.hand(0, 3), 1);
        ThumbnailRow conflict = handedAndChanged();
        conflict.bring(0, 24);
        due.is("after a conflict", conflict.hand(0, 3), 1);
        due.is("with the hand of now", conflict.with(0), 3);
    }

    private static void handRefused() {
        due.says("Promise 25: Throws IndexOutOfBoundsException if there is no such shot");
        due.refusesEach("hand out", Reels::three, Due.NO_INDEX, (r, shot) -> r.hand(shot, 0), -1, 3, LEAST, MOST);
        due.refuses("hand out of none", Reels::empty, Due.NO_INDEX, r -> r.hand(0, 0));
        due.says("Promise 25: Throws UnsupportedOperationException if it is not in the reel");
        due.refuses("hand out the dropped", Reels::oneDropped, Due.NOT_NOW, r -> r.hand(1, 0));
        due.refuses("hand out the dropped that was out", BoardsAndNotesEdgesTest::handedAndDropped, Due.NOT_NOW,
                r -> r.hand(0, 2));
        due.says("Promise 25: Throws UnsupportedOperationException if it is with somebody");
        due.refusesEach("hand out twice", Reels::handedOut, Due.NOT_NOW, (r, hand) -> r.hand(0, hand),
                0, 2);
        due.refuses("hand out twice, changed", BoardsAndNotesEdgesTest::handedAndChanged, Due.NOT_NOW,
                r -> r.hand(0, 2));
        due.says("Promise 25: of several exceptions the one that is listed first");
        due.refuses("no shot, no hand", Reels::three, Due.NO_INDEX, r -> r.hand(3, 4));
        due.refusesEach("no hand, dropped", Reels::oneDropped, Due.BAD, (r, hand) -> r.hand(1, hand), -1, 4);
        due.refusesEach("no hand, with somebody", Reels::handedOut, Due.BAD,
                (r, hand) -> r.hand(0, hand), -1, 4);
    }

    private static void bring() {
        due.says("Promise 26: It comes back with a length, 1 to 240");
        ThumbnailRow longest = Reels.handedOut();
        due.is("the longest", longest.bring(0, 240), true);
        due.is("the longest, taken", longest.length(0, 24), 240);
        ThumbnailRow shortest = Reels.handedOut();
        due.is("the shortest", shortest.bring(0, 1), true);
        due.is("the shortest, taken", shortest.length(0, 24), 1);
        due.says("Terms: otherwise the length is taken, as a change");
        ThumbnailRow taken = Reels.handedOut();
        taken.bring(0, 25);
        due.is("version", taken.version(0), 1);
        due.is("with nobody then", Snapshot.told(() -> taken.with(0)), Due.NONE.getName());
        ThumbnailRow same = Reels.handedOut();
        due.is("of the length that it has", same.bring(0, 24), true);
        due.is("version, nothing being changed", same.version(0), 0);
        due.says("Terms: handed out to one, with its version by then");
        ThumbnailRow later = Reels.three();
        later.length(0, 25);
        later.hand(0, 1);
        due.is("a version other than 0", later.bring(0, 26), true);
        later.hand(0, 1);
        due.is("the version of the last handing out", later.bring(0, 27), true);
        due.is("no conflict", later.conflicts(), 0);
    }

    private static void conflict() {
        due.says("Terms: if its version is another one by then, that is a conflict");
        due.is("after a change", handedAndChanged().bring(0, 30), false);
        ThumbnailRow thereAndBack = handedAndChanged();
        thereAndBack.length(0, 24);
        due.is("after a change there and back", thereAndBack.bring(0, 24), false);
        ThumbnailRow unchanged = Reels.handedOut();
        unchanged.length(0, 24);
        unchanged.move(0, 2);
        unchanged.note(0);
        unchanged.dear(0, true);
        unchanged.lock();
        unchanged.length(1, 1);
        due.is("after what is no change of it", unchanged.bring(0, 30), true);
        due.says("Terms: it is not taken, and the shot is with nobody");
        ThumbnailRow refused = handedAndChanged();
        refused.bring(0, 30);
        due.is("with nobody", Snapshot.told(() -> refused.with(0)), Due.NONE.getName());
        due.is("version", refused.version(0), 1);
        due.is("length", refused.length(0, 30), 25);
    }

    private static void bringRefused() {
        due.says("Promise 26: Throws IndexOutOfBoundsException if there is no such shot");
        due.refusesEach("bring", Reels::handedOut, Due.NO_INDEX, (r, shot) -> r.bring(shot, 1),
                -1, 3, LEAST, MOST);
        due.refuses("bring of none", Reels::empty, Due.NO_INDEX, r -> r.bring(0, 1));
        due.says("Promise 26: Throws IllegalArgumentException if a number is out of range");
        due.refusesEach("length", Reels::handedOut, Due.BAD, (r, frames) -> r.bring(0, frames),
                0, -1, 241, LEAST, MOST);
        due.refusesEach("length in conflict", BoardsAndNotesEdgesTest::handedAndChanged, Due.BAD,
                (r, frames) -> r.bring(0, frames), 0, 241);
        due.says("Promise 26: Throws UnsupportedOperationException if it is with nobody");
        due.refuses("never handed out", Reels::handedOut, Due.NOT_NOW, r -> r.bring(1, 10));
        due.refuses("back by now", BoardsAndNotesEdgesTest::broughtBack, Due.NOT_NOW, r -> r.bring(0, 10));
        due.refuses("dropped", BoardsAndNotesEdgesTest::handedAndDropped, Due.NOT_NOW, r -> r.bring(0, 10));
        due.says("Promise 26: of several exceptions the one that is listed first");
        due.refuses("no shot, no length", Reels::handedOut, Due.NO_INDEX, r -> r.bring(3, 0));
        due.refusesEach("no length, with nobody", Reels::three, Due.BAD, (r, frames) -> r.bring(1, frames), 0, 241);
        due.refusesEach("no length, dropped", BoardsAndNotesEdgesTest::handedAndDropped, Due.BAD,
                (r, frames) -> r.bring(0, frames), 0, 241);
    }

    private static ThumbnailRow broughtBack() {
        ThumbnailRow reel = Reels.handedOut();
        reel.bring(0, 24);
        return reel;
    }

    private static void with() {
        due.says("Promise 27: Returns with whom a board is");
        for (int hand = 0; hand < 4; hand++) {
            ThumbnailRow reel = Reels.plain(24);
            reel.hand(23, hand);
            due.is("hand " + hand, reel.with(23), hand);
        }
        due.is("though changed", handedAndChanged().with(0), 2);
        due.says("Promise 27: Throws IndexOutOfBoundsException if there is no such shot");
        due.refusesEach("with", Reels::handedOut, Due.NO_INDEX, (r, shot) -> r.with(shot),
                -1, 3, LEAST, MOST);
        due.refuses("with, of none", Reels::empty, Due.NO_INDEX, r -> r.with(0));
        due.says("Promise 27: Throws NoSuchElementException if with nobody");
        due.refuses("never handed out", Reels::handedOut, Due.NONE, r -> r.with(1));
        due.refuses("back by now", BoardsAndNotesEdgesTest::broughtBack, Due.NONE, r -> r.with(0));
        due.refuses("dropped while out", BoardsAndNotesEdgesTest::handedAndDropped, Due.NONE, r -> r.with(0));
    }

    private static void conflicts() {
        due.says("Promise 28: Returns how many conflicts there were");
        ThumbnailRow reel = Reels.three();
        due.is("none", reel.conflicts(), 0);
        for (int i = 1; i <= 3; i++) {
            reel.hand(0, 0);
            reel.length(0, i);
            reel.bring(0, 240);
            due.is("of one shot", reel.conflicts(), i);
        }
        reel.hand(0, 0);
        reel.bring(0, 240);
        due.is("after one that is taken", reel.conflicts(), 3);
        reel.hand(1, 0);
        reel.length(1, 1);
        due.is("while one is out", reel.conflicts(), 3);
        reel.drop(1);
        due.is("after a drop", reel.conflicts(), 3);
    }

    private static ThumbnailRow allClosed() {
        ThumbnailRow reel = Reels.notesOn(40);
        for (int i = 0; i < 40; i++) {
            reel.close(i, i % 2 == 0);
        }
        return reel;
    }

    private static void note() {
        due.says("Terms: At most 40 are numbered from 0");
        due.is("the first", Reels.three().note(2), 0);
        due.is("the last", Reels.notesOn(39).note(2), 39);
        due.says("Promise 29: Throws IllegalStateException if there are 40");
        due.refuses("note", () -> Reels.notesOn(40), Due.FULL, r -> r.note(2));
        due.refuses("note, all being closed", BoardsAndNotesEdgesTest::allClosed, Due.FULL, r -> r.note(2));
        due.refuses("note, all being stale", BoardsAndNotesEdgesTest::allStale, Due.FULL, r -> r.note(2));
    }

    private static ThumbnailRow allStale() {
        ThumbnailRow reel = Reels.notesOn(40);
        reel.drop(0);
        return reel;
    }

    private static void noteRefused() {
        due.says("Promise 29: Throws IndexOutOfBoundsException if there is no such shot");
        due.refusesEach("note on", Reels::three, Due.NO_INDEX, (r, shot) -> r.note(shot), -1, 3, LEAST, MOST);
        due.refuses("note on none", Reels::empty, Due.NO_INDEX, r -> r.note(0));
        due.says("Promise 29: Throws UnsupportedOperationException if it is not in the reel");
        due.refuses("note on the dropped", Reels::oneDropped, Due.NOT_NOW, r -> r.note(1));
        due.says("Promise 29: of several exceptions the one that is listed first");
        due.refusesEach("no shot, 40 notes", () -> Reels.notesOn(40), Due.NO_INDEX, (r, shot) -> r.note(shot), -1, 3);
        due.refuses("dropped, 40 notes", () -> Reels.notesOn(40), Due.NOT_NOW, r -> r.note(1));
    }

    private static void noteIs() {
        due.says("Terms: stale 's', if it was neither, as the version of its shot is another one");
        ThumbnailRow reel = Reels.three();
        reel.length(0, 25);
        reel.note(0);
        due.is("open with a version other than 0", reel.noteIs(0), 'o');
        reel.length(0, 25);
        reel.move(0, 2);
        reel.length(1, 1);
        due.is("open after what is no change", reel.noteIs(0), 'o');
        reel.length(0, 26);
        due.is("stale", reel.noteIs(0), 's');
        reel.length(0, 25);
        due.is("stale after a change there and back", reel.noteIs(0), 's');
        ThumbnailRow dropped = Reels.notesOn(1);
        dropped.drop(0);
        due.is("stale by a drop", dropped.noteIs(0), 's');
        due.is("the last of 40", Reels.notesOn(40).noteIs(39), 'o');
        due.says("Terms: 's', if it was neither");
        ThumbnailRow closed = allClosed();
        closed.drop(0);
        due.is("done, and changed", closed.noteIs(38), 'd');
        due.is("refused, and changed", closed.noteIs(39), 'r');
        due.says("Promise 30: Throws IndexOutOfBoundsException if there is no such note");
        due.refusesEach("noteIs", () -> Reels.notesOn(2), Due.NO_INDEX,
                (r, note) -> r.noteIs(note), -1, 2, LEAST, MOST);
        due.refusesEach("noteIs, of none", Reels::three, Due.NO_INDEX, (r, note) -> r.noteIs(note), 0);
        due.refusesEach("noteIs, of 40", () -> Reels.notesOn(40), Due.NO_INDEX, (r, note) -> r.noteIs(note), 40);
    }

    private static void close() {
        due.says("Promise 31: Returns true");
        ThumbnailRow reel = Reels.notesOn(40);
        due.is("the first, done", reel.close(0, true), true);
        due.is("the last, refused", reel.close(39, false), true);
        due.is("done", reel.noteIs(0), 'd');
        due.is("refused", reel.noteIs(39), 'r');
        due.is("the others", reel.notes('o'), 38);
        due.says("Promise 31: Throws IndexOutOfBoundsException if there is no such note");
        due.refusesEach("close", () -> Reels.notesOn(2), Due.NO_INDEX,
                (r, note) -> r.close(note, true), -1, 2, LEAST, MOST);
        due.refusesEach("close, of none", Reels::three, Due.NO_INDEX, (r, note) -> r.close(note, false), 0);
        due.refusesEach("close, of 40", () -> Reels.notesOn(40), Due.NO_INDEX, (r, note) -> r.close(note, false), 40);
        due.says("Promise 31: Throws UnsupportedOperationException if it is not open");
        due.refusesEach("close as done", Reels::closedAndStale, Due.NOT_NOW,
                (r, note) -> r.close(note, true), 0, 1, 2, 3);
        due.refusesEach("close as refused", Reels::closedAndStale, Due.NOT_NOW,
                (r, note) -> r.close(note, false), 0, 1, 2, 3);
    }

    private static void renew() {
        due.says("Terms: A stale one can be renewed: it is open with the version of now");
        ThumbnailRow reel = Reels.closedAndStale();
        reel.length(0, 98);
        due.is("its version", reel.renew(2), 2);
        due.is("open", reel.noteIs(2), 'o');
        reel.length(0, 97);
        due.is("stale again", reel.noteIs(2), 's');
        due.is("its version again", reel.renew(2), 3);
        due.is("closed then", reel.close(2, false), true);
        due.is("the one on the dropped", reel.noteIs(3), 's');
    }

    private static void renewRefused() {
        due.says("Promise 32: Throws IndexOutOfBoundsException if there is no such note");
        due.refusesEach("renew", Reels::closedAndStale, Due.NO_INDEX, (r, note) -> r.renew(note),
                -1, 4, LEAST, MOST);
        due.refusesEach("renew, of none", Reels::three, Due.NO_INDEX, (r, note) -> r.renew(note), 0);
        due.refusesEach("renew, of 40", BoardsAndNotesEdgesTest::allStale, Due.NO_INDEX,
                (r, note) -> r.renew(note), 40);
        due.says("Promise 32: Throws UnsupportedOperationException if it is not stale");
        due.refuses("open", () -> Reels.notesOn(2), Due.NOT_NOW, r -> r.renew(0));
        due.refuses("done", Reels::closedAndStale, Due.NOT_NOW, r -> r.renew(0));
        due.refuses("refused", Reels::closedAndStale, Due.NOT_NOW, r -> r.renew(1));
        due.says("Promise 32: Throws UnsupportedOperationException if its shot is not in the reel");
        due.refuses("stale on the dropped", Reels::closedAndStale, Due.NOT_NOW, r -> r.renew(3));
        due.refuses("the last of 40, on the dropped", BoardsAndNotesEdgesTest::allStale, Due.NOT_NOW, r -> r.renew(39));
    }

    private static void notes() {
        due.says("Promise 33: Returns how many notes are so, 'o', 'd', 'r' or 's'");
        for (char how : "odrs".toCharArray()) {
            due.is("of none, " + how, Reels.empty().notes(how), 0);
        }
        due.is("all open", Reels.notesOn(40).notes('o'), 40);
        due.is("all stale", allStale().notes('s'), 40);
        due.is("none open of the stale", allStale().notes('o'), 0);
        due.is("half done", allClosed().notes('d'), 20);
        due.is("half refused", allClosed().notes('r'), 20);
        due.is("stale ones, one on the dropped", Reels.closedAndStale().notes('s'), 2);
        due.says("Promise 33: Throws IllegalArgumentException if there is no such letter");
        due.refusesEach("notes", Reels::closedAndStale, Due.BAD, (r, how) -> r.notes((char) how),
                '-', 'O', 'D', 'R', 'S', 'n', 'p', 'q', 't', 0, 65535);
    }
}
