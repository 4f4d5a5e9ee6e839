import java.util.function.Supplier;

/** All that can be asked of a reel, as one text. No call of it changes the reel. */
final class Snapshot {
    private Snapshot() {
    }

    static String of(ThumbnailRow reel) {
        StringBuilder text = new StringBuilder();
        for (int shot = 0; isMade(reel, shot); shot++) {
            text.append(ofShot(reel, shot));
        }
        for (int place = 0; place < reel.shots(); place++) {
            int cut = place;
            text.append(" at ").append(reel.at(place));
            text.append(' ').append(told(() -> reel.wrong(cut))).append(told(() -> reel.isBroken(cut)));
        }
        for (char how : "odrs".toCharArray()) {
            text.append(' ').append(how).append(reel.notes(how));
        }
        text.append(" setups ").append(reel.setups()).append(' ').append(reel.first()).append(' ').append(reel.days());
        text.append(" broken ").append(reel.broken()).append(told(reel::brokenShare));
        text.append(" orders ").append(told(reel::orders)).append(' ').append(told(reel::best));
        text.append(" mean ").append(told(reel::meanLength)).append(" conflicts ").append(reel.conflicts());
        text.append(" sum ").append(reel.checksum()).append(reel.isSound());
        return text.toString();
    }

    private static boolean isMade(ThumbnailRow reel, int shot) {
        return !told(() -> reel.version(shot)).endsWith("Exception");
    }

    private static String ofShot(ThumbnailRow reel, int shot) {
        StringBuilder text = new StringBuilder();
        text.append(" shot ").append(shot).append(" version ").append(reel.version(shot));
        text.append(" place ").append(told(() -> reel.place(shot))).append(" time ").append(told(() -> reel.time(shot)));
        text.append(" name ").append(told(() -> reel.number(shot))).append(told(() -> reel.letter(shot)));
        text.append(" with ").append(told(() -> reel.with(shot)));
        return text.toString();
    }

    static String told(Supplier<Object> asked) {
        try {
            return String.valueOf(asked.get());
        } catch (RuntimeException e) {
            return Due.nameOf(e);
        }
    }
}
