import java.util.NoSuchElementException;
import java.util.function.Consumer;
import java.util.function.ObjIntConsumer;
import java.util.function.Supplier;

/** Compares answers with those that are due, prints each that is not, and ends the program accordingly. */
final class Due {
    static final Class<?> NO_INDEX = IndexOutOfBoundsException.class;
    static final Class<?> BAD = IllegalArgumentException.class;
    static final Class<?> NOT_NOW = UnsupportedOperationException.class;
    static final Class<?> FULL = IllegalStateException.class;
    static final Class<?> NONE = NoSuchElementException.class;

    private int wrong;
    private String sentence = "";
    private int checksOfSentence;

    /** The checks from here on hold to this sentence of the document; one without a check is a fault of the test. */
    void says(String next) {
        endSentence();
        sentence = next;
        checksOfSentence = 0;
    }

    void is(String call, Object got, Object want) {
        checksOfSentence++;
        if (!want.equals(got)) {
            wrong++;
            String prefix = sentence.isEmpty() ? "" : "[" + sentence + "] ";
            System.out.println(prefix + call + " answered " + got + ", due is " + want);
        }
    }

    /**
     * The call throws this exception by a throw statement of the class, and changes nothing. Each look is at a
     * reel of its own and at one that was made alike: an object answers for 512 calls alone.
     */
    void refuses(String call, Supplier<ThumbnailRow> maker, Class<?> kind, Consumer<ThumbnailRow> refused) {
        ThumbnailRow asked = maker.get();
        is(call + " throws", thrownBy(asked, refused), kind.getName());
        is(call + " changes", Snapshot.of(asked), Snapshot.of(maker.get()));
        ThumbnailRow probed = maker.get();
        thrownBy(probed, refused);
        is(call + " changes for later", Snapshot.byChanges(probed), Snapshot.byChanges(maker.get()));
    }

    /** The same for each of these arguments. */
    void refusesEach(String call, Supplier<ThumbnailRow> maker, Class<?> kind, ObjIntConsumer<ThumbnailRow> refused,
            int... arguments) {
        for (int argument : arguments) {
            refuses(call + " (" + argument + ")", maker, kind, reel -> refused.accept(reel, argument));
        }
    }

    private static String thrownBy(ThumbnailRow reel, Consumer<ThumbnailRow> refused) {
        try {
            refused.accept(reel);
            return "nothing";
        } catch (RuntimeException e) {
            return nameOf(e);
        }
    }

    /** The exception's name, marked where the Java machine or its library threw it and not the class. */
    static String nameOf(RuntimeException e) {
        StackTraceElement[] trace = e.getStackTrace();
        boolean isOwn = trace.length > 0 && trace[0].getClassName().startsWith("ThumbnailRow");
        return (isOwn ? "" : "machine's ") + e.getClass().getName();
    }

    private void endSentence() {
        if (!sentence.isEmpty() && checksOfSentence == 0) {
            wrong++;
            System.out.println("[" + sentence + "] nothing was asked");
        }
    }

    void end() {
        endSentence();
        if (wrong != 0) {
            System.out.println(wrong + " answers are not as due");
            System.exit(1);
        }
        System.out.println("all answers are as due");
    }
}
