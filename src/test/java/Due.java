import java.util.function.Consumer;
import java.util.function.Supplier;

/** Compares answers with those that are due, prints each that is not, and ends the program accordingly. */
final class Due {
    private int wrong;

    void is(String call, Object got, Object want) {
        if (!want.equals(got)) {
            wrong++;
            System.out.println(call + " answered " + got + ", due is " + want);
        }
    }

    /** The call throws this exception by a throw statement of the class, and changes nothing. */
    void refuses(String call, Supplier<ThumbnailRow> maker, Class<?> kind, Consumer<ThumbnailRow> refused) {
        ThumbnailRow reel = maker.get();
        String before = Snapshot.of(reel);
        String thrown = "nothing";
        try {
            refused.accept(reel);
        } catch (RuntimeException e) {
            thrown = nameOf(e);
        }
        is(call + " throws", thrown, kind.getName());
        is(call + " changes", Snapshot.of(reel), before);
    }

    /** The exception's name, marked where the Java machine or its library threw it and not the class. */
    static String nameOf(RuntimeException e) {
        StackTraceElement[] trace = e.getStackTrace();
        boolean isOwn = trace.length > 0 && trace[0].getClassName().startsWith("ThumbnailRow");
        return (isOwn ? "" : "machine's ") + e.getClass().getName();
    }

    void end() {
        if (wrong != 0) {
            System.out.println(wrong + " answers are not as due");
            System.exit(1);
        }
        System.out.println("all answers are as due");
    }
}
