import java.lang.reflect.Member;
import java.lang.reflect.Method;
import java.lang.reflect.Modifier;
import java.util.ArrayList;
import java.util.Arrays;
import java.util.Collections;
import java.util.List;

/** The face of the class is that of the document, and no more. */
final class FaceTest {
    private static final String FACE = """
            int shot(char,int,int,int) I U S
            int drop(int) X U
            int move(int,int) X I U
            int shots()
            int at(int) N
            int place(int) X N
            int camera(int,char,int) X I U
            int length(int,int) X I U
            int stand(int,int,char,char) X I U
            char enters(int,int,char) X I U
            char leaves(int,int,char) X I U
            int version(int) X
            int time(int) X N
            int seen(int) N
            int ended(int) I
            boolean lock()
            int number(int) X N
            char letter(int) X N
            int named(int,char) N
            char wrong(int) N
            char excuse(int,char) I N
            boolean isBroken(int) N
            int broken()
            int hand(int,int) X I U
            boolean bring(int,int) X I U
            int with(int) X N
            int conflicts()
            int note(int) X U S
            char noteIs(int) X
            boolean close(int,boolean) X U
            int renew(int) X U
            int notes(char) I
            boolean dear(int,boolean) X
            int setups()
            int first()
            int days()
            int orders() U
            int best() U
            long checksum()
            float brokenShare() N
            double meanLength() N
            boolean isSound()
            """;

    public static void main(String[] args) {
        Due due = new Due();
        List<String> want = new ArrayList<>(Arrays.asList(FACE.split("\n")));
        List<String> got = new ArrayList<>();
        for (Method method : ThumbnailRow.class.getDeclaredMethods()) {
            if (!Modifier.isPrivate(method.getModifiers())) {
                got.add(line(method));
            }
        }
        Collections.sort(want);
        Collections.sort(got);
        due.is("the methods", got, want);
        due.is("the class is final", Modifier.isFinal(ThumbnailRow.class.getModifiers()), true);
        due.is("the constructors", Arrays.toString(ThumbnailRow.class.getDeclaredConstructors()),
                "[public ThumbnailRow()]");
        for (Member field : ThumbnailRow.class.getDeclaredFields()) {
            due.is("the field " + field.getName() + " is private", Modifier.isPrivate(field.getModifiers()), true);
        }
        due.is("no private method bears a public name", publicNamesOfPrivateMethods(), List.of());
        due.end();
    }

    private static String line(Method method) {
        StringBuilder text = new StringBuilder();
        text.append(method.getReturnType().getName()).append(' ').append(method.getName()).append('(');
        String gap = "";
        for (Class<?> parameter : method.getParameterTypes()) {
            text.append(gap).append(parameter.getName());
            gap = ",";
        }
        text.append(')');
        for (Class<?> thrown : method.getExceptionTypes()) {
            text.append(' ').append(letter(thrown));
        }
        return text.toString();
    }

    private static char letter(Class<?> thrown) {
        return switch (thrown.getSimpleName()) {
            case "IndexOutOfBoundsException" -> 'X';
            case "IllegalArgumentException" -> 'I';
            case "UnsupportedOperationException" -> 'U';
            case "IllegalStateException" -> 'S';
            case "NoSuchElementException" -> 'N';
            default -> '?';
        };
    }

    private static List<String> publicNamesOfPrivateMethods() {
        List<String> names = new ArrayList<>();
        for (Method method : ThumbnailRow.class.getDeclaredMethods()) {
            if (!Modifier.isPrivate(method.getModifiers())) {
                names.add(method.getName());
            }
        }
        List<Class<?>> all = new ArrayList<>(Arrays.asList(ThumbnailRow.class.getDeclaredClasses()));
        all.add(ThumbnailRow.class);
        List<String> doubles = new ArrayList<>();
        for (Class<?> each : all) {
            for (Method method : each.getDeclaredMethods()) {
                boolean isFace = each == ThumbnailRow.class && Modifier.isPublic(method.getModifiers());
                if (!isFace && names.contains(method.getName())) {
                    doubles.add(method.getName());
                }
            }
        }
        return doubles;
    }
}
