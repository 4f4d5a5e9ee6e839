import java.lang.reflect.Field;
import java.util.List;
import java.util.function.Consumer;

/**
 * Promise 43, its false answer: no run of calls leads to it, so a row of the object is spoilt from outside, each
 * time one that is of no meaning for the other things that are looked at.
 */
final class UnsoundTest {
    private static final Due due = new Due();

    public static void main(String[] args) {
        due.says("Promise 43: Tells whether names in the reel are unlike");
        spoil("a number", true, reel -> put(shot(reel, 2), "nameNumber", 1));
        spoil("another number alone", false, reel -> put(shot(reel, 2), "nameNumber", 4));
        spoil("a number, of another letter", false, reel -> {
            put(shot(reel, 2), "nameNumber", 1);
            put(shot(reel, 2), "nameLetter", 'A');
        });
        spoil("a number of the dropped", false, reel -> put(shot(reel, 1), "nameNumber", 1));
        due.says("Promise 43: each shot is seen at the time at which it begins");
        spoil("no length of the first", true, reel -> put(shot(reel, 0), "frames", 0));
        spoil("no length of the last", true, reel -> put(shot(reel, 2), "frames", 0));
        spoil("no length of the dropped", false, reel -> put(shot(reel, 1), "frames", 0));
        due.says("Promise 43: notes of all kinds sum up to all");
        spoil("the first note of no kind", true, reel -> put(rows(reel, "noted").get(0), "verdict", 'x'));
        spoil("the last note of no kind", true, reel -> put(rows(reel, "noted").get(3), "verdict", 'x'));
        due.says("Promise 43: those who enter or leave a shot are in it");
        for (int character = 0; character < 4; character++) {
            edge("entries", character);
            edge("exits", character);
        }
        due.end();
    }

    /** Character 1 is in shot 2, the others are not. */
    private static void edge(String edges, int character) {
        spoil(edges + " of " + character, character != 1, reel -> {
            char[] row = (char[]) got(got(shot(reel, 2), "cast"), edges);
            row[character] = 'l';
        });
    }

    private static void spoil(String call, boolean isUnsound, Consumer<ThumbnailRow> change) {
        ThumbnailRow reel = sound();
        due.is("isSound ahead of " + call, reel.isSound(), true);
        change.accept(reel);
        due.is("isSound with " + call, reel.isSound(), !isUnsound);
    }

    /** Shots 0 and 2 with locked names and notes of all kinds; shot 1 is dropped; character 1 is in shot 2. */
    private static ThumbnailRow sound() {
        ThumbnailRow reel = Reels.lockedThree();
        for (int i = 0; i < 3; i++) {
            reel.note(0);
        }
        reel.note(1);
        reel.close(0, true);
        reel.close(1, false);
        reel.drop(1);
        reel.stand(2, 1, 'l', 'l');
        return reel;
    }

    private static Object shot(ThumbnailRow reel, int index) {
        return rows(reel, "made").get(index);
    }

    private static List<?> rows(ThumbnailRow reel, String name) {
        return (List<?>) got(reel, name);
    }

    private static Object got(Object owner, String name) {
        try {
            return field(owner, name).get(owner);
        } catch (ReflectiveOperationException e) {
            throw new AssertionError(e);
        }
    }

    private static void put(Object owner, String name, Object value) {
        try {
            field(owner, name).set(owner, value);
        } catch (ReflectiveOperationException e) {
            throw new AssertionError(e);
        }
    }

    private static Field field(Object owner, String name) throws NoSuchFieldException {
        Field found = owner.getClass().getDeclaredField(name);
        found.setAccessible(true);
        return found;
    }
}
