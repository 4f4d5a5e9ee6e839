import java.util.ArrayList;
import java.util.Arrays;
import java.util.HashMap;
import java.util.HashSet;
import java.util.LinkedHashSet;
import java.util.List;
import java.util.Map;
import java.util.Set;

/** The document once more, slow and plain: an answer is a text, and a refusal the name of the exception. */
final class PlainModel {
    private static final String X = "java.lang.IndexOutOfBoundsException";
    private static final String I = "java.lang.IllegalArgumentException";
    private static final String U = "java.lang.UnsupportedOperationException";
    private static final String S = "java.lang.IllegalStateException";
    private static final String N = "java.util.NoSuchElementException";

    /** A shot as it is described: a change of the description is a change of the version. */
    private static final class Board {
        final Map<String, String> said = new HashMap<>();
        int version;
        String name = "";
        String holder = "";
        boolean isDear;
        List<Object> excuse = List.of();
        char excuseLetter = '-';

        String say(String what, String how) {
            String before = said.getOrDefault(what, "-");
            said.put(what, how);
            return before;
        }

        String told(String what) {
            return said.getOrDefault(what, "-");
        }

        List<String> whoIsIn() {
            List<String> found = new ArrayList<>();
            for (int i = 0; i < 4; i++) {
                if (!told("place" + i).equals("-")) {
                    found.add("" + i);
                }
            }
            return found;
        }

        int length() {
            return Integer.parseInt(told("length"));
        }
    }

    private final List<Board> made = new ArrayList<>();
    private final List<Board> reel = new ArrayList<>();
    private final List<Object[]> noted = new ArrayList<>();
    private boolean isLocked;
    private int conflicts;

    /** The answer to a call by its name and its arguments; characters are given as their numbers. */
    String answer(String call, int[] a) {
        if (takesShot(call)) {
            if (a[0] < 0 || a[0] >= made.size()) {
                return X;
            }
            Board board = made.get(a[0]);
            String before = board.said.toString() + reel.contains(board);
            String answer = ofShot(call, board, a);
            if (!before.equals(board.said.toString() + reel.contains(board)) && !call.equals("move")) {
                board.version++;
                answer = call.equals("camera") ? "" + board.version : answer;
            }
            return answer;
        }
        boolean takesNote = call.equals("close") || call.equals("renew") || call.equals("noteIs");
        return takesNote ? ofNote(call, a) : ofReel(call, a);
    }

    private static boolean takesShot(String call) {
        return (" drop move place camera length stand enters leaves version time number letter hand bring with note"
                + " dear ").contains(" " + call + " ");
    }

    private String ofShot(String call, Board board, int[] a) {
        int place = reel.indexOf(board);
        switch (call) {
            case "drop":
                if (place < 0) {
                    return U;
                }
                reel.remove(board);
                board.holder = "";
                return "" + place;
            case "move":
                if (a[1] < 0 || a[1] > reel.size() - 1) {
                    return I;
                }
                if (place < 0) {
                    return U;
                }
                reel.remove(board);
                reel.add(a[1], board);
                return "" + place;
            case "place":
                return place < 0 ? N : "" + place;
            case "time":
                return place < 0 ? N : "" + sumAhead(place);
            case "version":
                return "" + board.version;
            case "number":
                return nameOf(board).isEmpty() ? N : nameOf(board).split(" ")[0];
            case "letter":
                return nameOf(board).isEmpty() ? N : nameOf(board).split(" ")[1];
            case "with":
                return board.holder.isEmpty() ? N : board.holder;
            case "dear":
                boolean wasDear = board.isDear;
                board.isDear = a[1] != 0;
                return "" + wasDear;
            case "note":
                if (place < 0) {
                    return U;
                }
                if (noted.size() == 40) {
                    return S;
                }
                noted.add(new Object[] {board, board.version, ""});
                return "" + (noted.size() - 1);
            default:
                return ofBoard(call, board, a, place < 0);
        }
    }

    private String ofBoard(String call, Board board, int[] a, boolean isOut) {
        switch (call) {
            case "camera":
                if (!among("sn0", a[1]) || a[2] < 0 || a[2] > 4) {
                    return I;
                }
                if (isOut) {
                    return U;
                }
                board.say("side", text(a[1]));
                board.say("lens", "" + a[2]);
                return "" + board.version;
            case "length":
                return a[1] < 1 || a[1] > 240 ? I : isOut ? U : board.say("length", "" + a[1]);
            case "stand":
                return stand(board, a, isOut);
            case "enters":
            case "leaves":
                if (a[1] < 0 || a[1] > 3 || !among("lr-", a[2])) {
                    return I;
                }
                return isOut || !board.whoIsIn().contains("" + a[1]) ? U : board.say(call + a[1], text(a[2]));
            case "hand":
                if (a[1] < 0 || a[1] > 3) {
                    return I;
                }
                if (isOut || !board.holder.isEmpty()) {
                    return U;
                }
                board.holder = "" + a[1];
                handed.put(board, board.version);
                return "" + made.stream().filter(b -> b.holder.equals("" + a[1])).count();
            default:
                return bring(board, a);
        }
    }

    private final Map<Board, Integer> handed = new HashMap<>();

    private String bring(Board board, int[] a) {
        if (a[1] < 1 || a[1] > 240) {
            return I;
        }
        if (board.holder.isEmpty()) {
            return U;
        }
        board.holder = "";
        if (handed.get(board) != board.version) {
            conflicts++;
            return "false";
        }
        board.say("length", "" + a[1]);
        return "true";
    }

    private static String stand(Board board, int[] a, boolean isOut) {
        boolean isTakenOut = a[2] == '-';
        if (a[1] < 0 || a[1] > 3 || !isTakenOut && (!among("lcr", a[2]) || !among("lcr", a[3]))) {
            return I;
        }
        if (isOut) {
            return U;
        }
        if (isTakenOut) {
            for (String what : List.of("place", "gaze", "enters", "leaves")) {
                board.said.remove(what + a[1]);
            }
        } else {
            board.say("place" + a[1], text(a[2]));
            board.say("gaze" + a[1], text(a[3]));
            for (String what : List.of("enters", "leaves")) {
                board.say(what + a[1], board.told(what + a[1]));
            }
        }
        return "" + board.whoIsIn().size();
    }

    private String ofNote(String call, int[] a) {
        if (a[0] < 0 || a[0] >= noted.size()) {
            return X;
        }
        Object[] note = noted.get(a[0]);
        Board board = (Board) note[0];
        switch (call) {
            case "close":
                if (!kind(note).equals("o")) {
                    return U;
                }
                note[2] = a[1] != 0 ? "d" : "r";
                return "true";
            case "renew":
                if (!kind(note).equals("s") || !reel.contains(board)) {
                    return U;
                }
                note[1] = board.version;
                return "" + board.version;
            default:
                return kind(note);
        }
    }

    private static String kind(Object[] note) {
        boolean isOld = ((Board) note[0]).version > (Integer) note[1];
        return !note[2].equals("") ? (String) note[2] : isOld ? "s" : "o";
    }

    private String ofReel(String call, int[] a) {
        switch (call) {
            case "shot":
                return shot(a);
            case "shots":
                return "" + reel.size();
            case "at":
                return a[0] < 0 || a[0] >= reel.size() ? N : "" + made.indexOf(reel.get(a[0]));
            case "seen":
                return seen(a[0]);
            case "ended":
                return a[0] < 0 || a[0] > 9999 ? I : ended(a[0]);
            case "lock":
                boolean wasLocked = isLocked;
                for (Board board : reel) {
                    board.name = nameOf(board);
                }
                isLocked = true;
                return "" + wasLocked;
            case "named":
                for (Board board : reel) {
                    if (nameOf(board).equals(a[0] + " " + text(a[1]))) {
                        return "" + made.indexOf(board);
                    }
                }
                return N;
            case "excuse":
                return excuse(a);
            case "wrong":
                return isCut(a[0]) ? "" + fault(a[0]) : N;
            case "isBroken":
                return isCut(a[0]) ? "" + isBroken(a[0]) : N;
            case "notes":
                return among("odrs", a[0]) ? "" + noted.stream().filter(n -> kind(n).equals(text(a[0]))).count() : I;
            default:
                return ofSums(call);
        }
    }

    private String ofSums(String call) {
        switch (call) {
            case "broken":
                return "" + broken();
            case "conflicts":
                return "" + conflicts;
            case "setups":
                return "" + setups(false).size();
            case "first":
                return "" + setups(true).size();
            case "days":
                return "" + (int) Math.ceil(Math.max(setups(false).size() / 4.0, reel.size() / 20.0));
            case "orders":
            case "best":
                return reel.isEmpty() || reel.size() > 6 ? U : orders(call.equals("best"));
            case "checksum":
                return "" + checksum();
            case "brokenShare":
                return reel.size() < 2 ? N : "" + (float) broken() / (float) (reel.size() - 1);
            case "meanLength":
                return reel.isEmpty() ? N : "" + (double) sumAhead(reel.size()) / (double) reel.size();
            case "isSound":
                return "true";
            default:
                throw new AssertionError(call);
        }
    }

    private String shot(int[] a) {
        if (!among("sn0", a[0]) || a[1] < 0 || a[1] > 4 || a[2] < 1 || a[2] > 240 || a[3] < 0 || a[3] > reel.size()) {
            return I;
        }
        String name = "";
        if (isLocked) {
            String number = a[3] == 0 ? "0" : reel.get(a[3] - 1).name.split(" ")[0];
            Set<String> free = new LinkedHashSet<>();
            for (char letter = 'A'; letter <= 'F'; letter++) {
                free.add(number + " " + letter);
            }
            made.forEach(b -> free.remove(b.name));
            if (free.isEmpty()) {
                return U;
            }
            name = free.iterator().next();
        }
        if (made.size() == 24) {
            return S;
        }
        Board board = new Board();
        board.say("side", text(a[0]));
        board.say("lens", "" + a[1]);
        board.say("length", "" + a[2]);
        board.name = name;
        made.add(board);
        reel.add(a[3], board);
        return "" + (made.size() - 1);
    }

    private String nameOf(Board board) {
        return isLocked ? board.name : reel.contains(board) ? reel.indexOf(board) + 1 + " -" : "";
    }

    private int sumAhead(int place) {
        return reel.subList(0, place).stream().mapToInt(Board::length).sum();
    }

    private String seen(int time) {
        for (int i = 0; i < reel.size(); i++) {
            if (sumAhead(i) <= time && time < sumAhead(i + 1)) {
                return "" + made.indexOf(reel.get(i));
            }
        }
        return N;
    }

    private String ended(int time) {
        int count = 0;
        while (count < reel.size() && sumAhead(count + 1) <= time) {
            count++;
        }
        return "" + count;
    }

    private boolean isCut(int place) {
        return place > 0 && place < reel.size();
    }

    private char fault(int place) {
        return fault(reel.get(place - 1), reel.get(place));
    }

    private static char fault(Board a, Board b) {
        Set<String> sides = new HashSet<>(Arrays.asList(a.told("side"), b.told("side")));
        if (sides.equals(Set.of("s", "n"))) {
            return 'x';
        }
        if (sides.size() == 1 && a.told("lens").equals(b.told("lens")) && !a.whoIsIn().isEmpty()
                && a.whoIsIn().equals(b.whoIsIn())) {
            return 'j';
        }
        if (a.whoIsIn().size() == 1 && b.whoIsIn().size() == 1 && !a.whoIsIn().equals(b.whoIsIn())) {
            String gazes = a.told("gaze" + a.whoIsIn().get(0)) + b.told("gaze" + b.whoIsIn().get(0));
            if (!Set.of("cc", "lr", "rl").contains(gazes)) {
                return 'g';
            }
        }
        boolean isMisplaced = false;
        for (int i = 0; i < 4; i++) {
            String edges = a.told("leaves" + i) + b.told("enters" + i);
            if (Set.of("ll", "rr").contains(edges)) {
                return 'e';
            }
            String places = a.told("place" + i) + b.told("place" + i);
            isMisplaced |= edges.equals("--") && Set.of("lr", "rl").contains(places);
        }
        return isMisplaced ? 'm' : '-';
    }

    private List<Object> situation(int place) {
        Board ahead = reel.get(place - 1);
        return List.of(reel.get(place).version, made.indexOf(ahead), ahead.version);
    }

    private char excusedFor(int place) {
        Board board = reel.get(place);
        return board.excuse.equals(situation(place)) ? board.excuseLetter : '-';
    }

    private boolean isBroken(int place) {
        return fault(place) != '-' && excusedFor(place) != fault(place);
    }

    private String excuse(int[] a) {
        if (!among("xjgem", a[1])) {
            return I;
        }
        if (!isCut(a[0])) {
            return N;
        }
        String before = "" + excusedFor(a[0]);
        reel.get(a[0]).excuse = situation(a[0]);
        reel.get(a[0]).excuseLetter = (char) a[1];
        return before;
    }

    private int broken() {
        int count = 0;
        for (int i = 1; i < reel.size(); i++) {
            count += isBroken(i) ? 1 : 0;
        }
        return count;
    }

    private Set<String> setups(boolean isDearOnly) {
        Set<String> found = new HashSet<>();
        for (Board board : reel) {
            if (board.isDear || !isDearOnly) {
                found.add(board.told("side") + board.told("lens"));
            }
        }
        return found;
    }

    private String orders(boolean isBest) {
        int[] goodAndLeast = {0, reel.size()};
        layOut(new ArrayList<>(), new ArrayList<>(reel), 0, goodAndLeast);
        return "" + goodAndLeast[isBest ? 1 : 0];
    }

    private static void layOut(List<Board> laid, List<Board> rest, int faults, int[] goodAndLeast) {
        if (rest.isEmpty()) {
            goodAndLeast[0] += faults == 0 ? 1 : 0;
            goodAndLeast[1] = Math.min(goodAndLeast[1], faults);
        }
        for (Board next : rest) {
            List<Board> further = new ArrayList<>(laid);
            List<Board> left = new ArrayList<>(rest);
            further.add(next);
            left.remove(next);
            boolean isWrong = !laid.isEmpty() && fault(laid.get(laid.size() - 1), next) != '-';
            layOut(further, left, faults + (isWrong ? 1 : 0), goodAndLeast);
        }
    }

    private long checksum() {
        long sum = 7;
        for (Board board : reel) {
            for (int part : new int[] {made.indexOf(board), board.length(), board.version}) {
                sum = sum * 31 + part;
            }
        }
        for (Object[] note : noted) {
            sum = sum * 31 + kind(note).charAt(0);
        }
        return sum;
    }

    private static boolean among(String letters, int letter) {
        return letters.indexOf(letter) >= 0;
    }

    private static String text(int letter) {
        return "" + (char) letter;
    }
}
