/** The examples of the document and of README.md, call by call. */
final class ExampleTest {
    private static final Due due = new Due();

    public static void main(String[] args) {
        ofTheDocument();
        ofTheReadme();
        due.end();
    }

    private static void ofTheDocument() {
        ThumbnailRow x = new ThumbnailRow();
        due.is("shot 0", x.shot('s', 1, 24, 0), 0);
        due.is("shot 1", x.shot('n', 1, 48, 1), 1);
        due.is("shot 2", x.shot('s', 1, 12, 2), 2);
        due.is("shots", x.shots(), 3);
        due.is("wrong(1)", x.wrong(1), 'x');
        due.is("excuse(1, x)", x.excuse(1, 'x'), '-');
        due.is("isBroken(1)", x.isBroken(1), false);
        due.is("broken", x.broken(), 1);
        due.is("camera", x.camera(1, '0', 2), 1);
        due.is("stand 0", x.stand(0, 0, 'l', 'r'), 1);
        due.is("stand 1", x.stand(1, 1, 'r', 'r'), 1);
        due.is("leaves", x.leaves(0, 0, 'r'), '-');
        due.is("move", x.move(2, 1), 2);
        due.is("stand 2", x.stand(2, 0, 'r', 'c'), 1);
        due.is("enters", x.enters(2, 0, 'r'), '-');
        due.is("at", x.at(1), 2);
        due.is("place", x.place(2), 1);
        due.is("version", x.version(2), 2);
        due.is("length", x.length(0, 30), 24);
        due.is("time", x.time(1), 42);
        due.is("seen", x.seen(40), 2);
        due.is("ended", x.ended(50), 2);
        due.is("note", x.note(0), 0);
        due.is("hand", x.hand(0, 2), 1);
        due.is("with", x.with(0), 2);
        due.is("noteIs", x.noteIs(0), 'o');
        due.is("bring", x.bring(0, 10), true);
        due.is("conflicts", x.conflicts(), 0);
        due.is("renew", x.renew(0), 4);
        due.is("close", x.close(0, true), true);
        due.is("notes", x.notes('d'), 1);
        due.is("lock", x.lock(), false);
        due.is("shot 3", x.shot('s', 0, 5, 1), 3);
        due.is("number", x.number(3), 1);
        due.is("letter", x.letter(3), 'A');
        due.is("named", x.named(1, 'A'), 3);
        due.is("drop", x.drop(3), 1);
        due.is("dear", x.dear(0, true), false);
        due.is("first", x.first(), 1);
        due.is("setups", x.setups(), 2);
        due.is("days", x.days(), 1);
        due.is("orders", x.orders(), 0);
        due.is("best", x.best(), 2);
        due.is("checksum", x.checksum(), 5746039090176758L);
        due.is("brokenShare", x.brokenShare(), 1.0f);
        due.is("meanLength", x.meanLength(), 23.333333333333332);
        due.is("isSound", x.isSound(), true);
    }

    private static void ofTheReadme() {
        ThumbnailRow reel = new ThumbnailRow();
        due.is("first", reel.shot('s', 1, 24, 0), 0);
        due.is("second", reel.shot('n', 1, 48, 1), 1);
        due.is("stand", reel.stand(0, 0, 'l', 'r'), 1);
        due.is("begin", reel.time(1), 24);
        due.is("fault", reel.wrong(1), 'x');
        due.is("excuse", reel.excuse(1, 'x'), '-');
        due.is("isBroken", reel.isBroken(1), false);
        due.is("lock", reel.lock(), false);
        due.is("between", reel.shot('0', 2, 12, 1), 2);
        due.is("number", reel.number(2), 1);
        due.is("letter", reel.letter(2), 'A');
        due.is("note", reel.note(0), 0);
        due.is("hand", reel.hand(0, 2), 1);
        due.is("isTaken", reel.bring(0, 30), true);
        due.is("how", reel.noteIs(0), 's');
        due.is("renew", reel.renew(0), 2);
        due.is("close", reel.close(0, true), true);
        due.is("days", reel.days(), 1);
        due.is("good", reel.orders(), 2);
    }
}
