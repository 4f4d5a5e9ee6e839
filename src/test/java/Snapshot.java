import java.util.function.Supplier;

/** What can be asked of a reel, as one text. */
final class Snapshot {
    private Snapshot() {
    }

    /** By calls that change nothing. */
    static String of(ThumbnailRow reel) {
        StringBuilder text = new StringBuilder();
        for (int shot = 0; isMade(reel, shot); shot++) {
            text.append(ofShot(reel, shot));
        }
        for (int place = 0; place < reel.shots(); place++) {
            int cut = place;
            text.append(" at ").append(reel.at(place));
            text.append(' ').append(told(() -> reel.wrong(cut))).append(told(() -> reel.isBroken(cut)));
        }
        for (char how : "odrs".toCharArray()) {
            text.append(' ').append(how).append(reel.notes(how));
        }
        text.append(" setups ").append(reel.setups()).append(' ').append(reel.first()).append(' ').append(reel.days());
        text.append(" broken ").append(reel.broken()).append(told(reel::brokenShare));
        text.append(" orders ").append(told(reel::orders)).append(' ').append(told(reel::best));
        text.append(" mean ").append(told(reel::meanLength)).append(" conflicts ").append(reel.conflicts());
        text.append(" sum ").append(reel.checksum()).append(reel.isSound());
        return text.toString();
    }

    /** By the answers of calls that change the reel: what no other call tells. */
    static String byChanges(ThumbnailRow reel) {
        StringBuilder text = new StringBuilder();
        // Excuses and boards that are out hold by versions, so they are asked ahead of what changes versions.
        for (int place = 1; place < reel.shots(); place++) {
            int cut = place;
            text.append(" excused ").append(told(() -> reel.excuse(cut, 'm')));
        }
        for (int shot = 0; isMade(reel, shot); shot++) {
            int board = shot;
            text.append(" taken ").append(told(() -> reel.bring(board, 1)));
            text.append(" dear ").append(reel.dear(shot, false));
            text.append(" camera ").append(told(() -> reel.camera(board, 's', 0)));
            text.append(charactersOf(reel, shot));
        }
        for (int number = 0; isNoted(reel, number); number++) {
            int note = number;
            text.append(" renewed ").append(told(() -> reel.renew(note)));
        }
        text.append(" locked ").append(reel.lock());
        text.append(" next ").append(told(() -> reel.shot('s', 0, 1, 0)));
        text.append(" next ").append(told(() -> reel.letter(reel.shot('s', 0, 1, reel.shots()))));
        return text.toString();
    }

    private static String charactersOf(ThumbnailRow reel, int shot) {
        StringBuilder text = new StringBuilder();
        for (int i = 0; i < 4; i++) {
            int character = i;
            text.append(' ').append(told(() -> reel.enters(shot, character, '-')));
            text.append(told(() -> reel.leaves(shot, character, '-')));
            text.append(told(() -> reel.stand(shot, character, 'l', 'l')));
        }
        return text.append(" version ").append(reel.version(shot)).toString();
    }

    private static boolean isNoted(ThumbnailRow reel, int note) {
        return !told(() -> reel.noteIs(note)).endsWith("Exception");
    }

    private static boolean isMade(ThumbnailRow reel, int shot) {
        return !told(() -> reel.version(shot)).endsWith("Exception");
    }

    private static String ofShot(ThumbnailRow reel, int shot) {
        StringBuilder text = new StringBuilder();
        text.append(" shot ").append(shot).append(" version ").append(reel.version(shot));
        text.append(" place ").append(told(() -> reel.place(shot)));
        text.append(" time ").append(told(() -> reel.time(shot)));
        text.append(" name ").append(told(() -> reel.number(shot))).append(told(() -> reel.letter(shot)));
        text.append(" with ").append(told(() -> reel.with(shot)));
        return text.toString();
    }

    static String told(Supplier<Object> asked) {
        try {
            return String.valueOf(asked.get());
        } catch (RuntimeException e) {
            return Due.nameOf(e);
        }
    }
}
