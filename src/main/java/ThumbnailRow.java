import java.util.ArrayList;
import java.util.NoSuchElementException;

/** A reel of boards before a camera. README.md tells how to use it. */
public final class ThumbnailRow {
    private static final int MOST_SHOTS = 24;
    private static final int MOST_NOTES = 40;
    private static final int MOST_ORDERED = 6;
    private static final int CHARACTERS = 4;
    private static final int HANDS = 4;
    private static final int LENSES = 5;
    private static final int LONGEST = 240;
    private static final int LATEST_END = 9999;
    private static final int SETUPS_A_DAY = 4;
    private static final int SHOTS_A_DAY = 20;
    private static final char LAST_LETTER = 'F';
    private static final char NONE = '-';
    private static final int NO_NUMBER = -1;

    private final ArrayList<Shot> made;
    private final ArrayList<Shot> reel;
    private final ArrayList<Note> noted;
    private final Orders reelOrders;
    private boolean isLocked;
    private int conflictCount;

    public ThumbnailRow() {
        made = new ArrayList<Shot>();
        reel = new ArrayList<Shot>();
        noted = new ArrayList<Note>();
        reelOrders = new Orders();
    }

    // ---- shots and the reel

    public int shot(char side, int lens, int length, int place)
            throws IllegalArgumentException, UnsupportedOperationException, IllegalStateException {
        checkCamera(side, lens);
        checkLength(length);
        if (place < 0 || place > reel.size()) {
            throw new IllegalArgumentException("no such place");
        }
        int nameNumber = isLocked ? numberBehind(place) : NO_NUMBER;
        char nameLetter = isLocked ? freeLetter(nameNumber) : NONE;
        if (isLocked && nameLetter == NONE) {
            throw new UnsupportedOperationException("all letters are used");
        }
        if (made.size() >= MOST_SHOTS) {
            throw new IllegalStateException("all shots were made");
        }
        Shot added = new Shot(made.size(), side, lens, length);
        added.nameNumber = nameNumber;
        added.nameLetter = nameLetter;
        made.add(added);
        reel.add(place, added);
        return added.index;
    }

    public int drop(int shot) throws IndexOutOfBoundsException, UnsupportedOperationException {
        Shot dropped = madeShot(shot);
        int before = placeInReel(dropped);
        reel.remove(before);
        dropped.version++;
        dropped.holder = NO_NUMBER;
        return before;
    }

    public int move(int shot, int place)
            throws IndexOutOfBoundsException, IllegalArgumentException, UnsupportedOperationException {
        Shot moved = madeShot(shot);
        if (place < 0 || place >= reel.size()) {
            throw new IllegalArgumentException("no such place");
        }
        int before = placeInReel(moved);
        reel.remove(before);
        reel.add(place, moved);
        return before;
    }

    public int shots() {
        return reel.size();
    }

    public int at(int place) throws NoSuchElementException {
        if (place < 0 || place >= reel.size()) {
            throw new NoSuchElementException("no shot at this place");
        }
        return reel.get(place).index;
    }

    public int place(int shot) throws IndexOutOfBoundsException, NoSuchElementException {
        return foundPlace(madeShot(shot));
    }

    public int camera(int shot, char side, int lens)
            throws IndexOutOfBoundsException, IllegalArgumentException, UnsupportedOperationException {
        Shot filmed = madeShot(shot);
        checkCamera(side, lens);
        checkInReel(filmed);
        filmed.film(side, lens);
        return filmed.version;
    }

    public int length(int shot, int length)
            throws IndexOutOfBoundsException, IllegalArgumentException, UnsupportedOperationException {
        Shot timed = madeShot(shot);
        checkLength(length);
        checkInReel(timed);
        return timed.changeLength(length);
    }

    public int stand(int shot, int character, char place, char gaze)
            throws IndexOutOfBoundsException, IllegalArgumentException, UnsupportedOperationException {
        Shot changed = madeShot(shot);
        checkCharacter(character);
        if (place != NONE && (!isPosition(place) || !isPosition(gaze))) {
            throw new IllegalArgumentException("no such place or gaze");
        }
        checkInReel(changed);
        if (place == NONE) {
            changed.takeOut(character);
        } else {
            changed.putIn(character, place, gaze);
        }
        return Integer.bitCount(changed.cast.members());
    }

    public char enters(int shot, int character, char edge)
            throws IndexOutOfBoundsException, IllegalArgumentException, UnsupportedOperationException {
        Shot changed = shotForEdge(shot, character, edge);
        return changed.changeEdge(changed.cast.entries, character, edge);
    }

    public char leaves(int shot, int character, char edge)
            throws IndexOutOfBoundsException, IllegalArgumentException, UnsupportedOperationException {
        Shot changed = shotForEdge(shot, character, edge);
        return changed.changeEdge(changed.cast.exits, character, edge);
    }

    public int version(int shot) throws IndexOutOfBoundsException {
        return madeShot(shot).version;
    }

    public int time(int shot) throws IndexOutOfBoundsException, NoSuchElementException {
        return beginOf(foundPlace(madeShot(shot)));
    }

    public int seen(int time) throws NoSuchElementException {
        int found = indexSeen(time);
        if (found == NO_NUMBER) {
            throw new NoSuchElementException("no shot is seen then");
        }
        return found;
    }

    public int ended(int length) throws IllegalArgumentException {
        if (length < 0 || length > LATEST_END) {
            throw new IllegalArgumentException("no such length");
        }
        int count = 0;
        int end = 0;
        for (int i = 0; i < reel.size(); i++) {
            end += reel.get(i).frames;
            if (end <= length) {
                count++;
            }
        }
        return count;
    }

    // ---- names and cuts

    public boolean lock() {
        boolean before = isLocked;
        if (!isLocked) {
            for (int i = 0; i < reel.size(); i++) {
                reel.get(i).nameNumber = nameNumberAt(i);
            }
            isLocked = true;
        }
        return before;
    }

    public int number(int shot) throws IndexOutOfBoundsException, NoSuchElementException {
        return foundNumber(madeShot(shot));
    }

    public char letter(int shot) throws IndexOutOfBoundsException, NoSuchElementException {
        Shot asked = madeShot(shot);
        foundNumber(asked);
        return asked.nameLetter;
    }

    public int named(int number, char letter) throws NoSuchElementException {
        for (int i = 0; i < reel.size(); i++) {
            if (nameNumberAt(i) == number && reel.get(i).nameLetter == letter) {
                return reel.get(i).index;
            }
        }
        throw new NoSuchElementException("no such name");
    }

    public char wrong(int place) throws NoSuchElementException {
        checkCut(place);
        return faultBetween(reel.get(place - 1), reel.get(place));
    }

    public char excuse(int place, char letter) throws IllegalArgumentException, NoSuchElementException {
        if (letter != 'x' && letter != 'j' && letter != 'g' && letter != 'e' && letter != 'm') {
            throw new IllegalArgumentException("no such letter");
        }
        checkCut(place);
        Shot ahead = reel.get(place - 1);
        Shot excused = reel.get(place);
        char before = excused.excusedFor(ahead);
        excused.pardon.grant(letter, excused, ahead);
        return before;
    }

    public boolean isBroken(int place) throws NoSuchElementException {
        checkCut(place);
        return isBrokenBetween(reel.get(place - 1), reel.get(place));
    }

    public int broken() {
        return brokenCuts();
    }

    // ---- boards and notes

    public int hand(int shot, int hand)
            throws IndexOutOfBoundsException, IllegalArgumentException, UnsupportedOperationException {
        Shot board = madeShot(shot);
        if (hand < 0 || hand >= HANDS) {
            throw new IllegalArgumentException("no such hand");
        }
        checkInReel(board);
        if (board.holder != NO_NUMBER) {
            throw new UnsupportedOperationException("the board is with somebody");
        }
        board.holder = hand;
        board.handedVersion = board.version;
        return boardsWith(hand);
    }

    public boolean bring(int shot, int length)
            throws IndexOutOfBoundsException, IllegalArgumentException, UnsupportedOperationException {
        Shot board = madeShot(shot);
        checkLength(length);
        if (board.holder == NO_NUMBER) {
            throw new UnsupportedOperationException("the board is with nobody");
        }
        board.holder = NO_NUMBER;
        if (board.version != board.handedVersion) {
            conflictCount++;
            return false;
        }
        board.changeLength(length);
        return true;
    }

    public int with(int shot) throws IndexOutOfBoundsException, NoSuchElementException {
        Shot board = madeShot(shot);
        if (board.holder == NO_NUMBER) {
            throw new NoSuchElementException("the board is with nobody");
        }
        return board.holder;
    }

    public int conflicts() {
        return conflictCount;
    }

    public int note(int shot) throws IndexOutOfBoundsException, UnsupportedOperationException, IllegalStateException {
        Shot subject = madeShot(shot);
        checkInReel(subject);
        if (noted.size() >= MOST_NOTES) {
            throw new IllegalStateException("all notes were made");
        }
        noted.add(new Note(subject));
        return noted.size() - 1;
    }

    public char noteIs(int note) throws IndexOutOfBoundsException {
        return madeNote(note).kind();
    }

    public boolean close(int note, boolean isDone) throws IndexOutOfBoundsException, UnsupportedOperationException {
        Note closed = madeNote(note);
        if (closed.kind() != 'o') {
            throw new UnsupportedOperationException("the note is not open");
        }
        closed.verdict = isDone ? 'd' : 'r';
        return true;
    }

    public int renew(int note) throws IndexOutOfBoundsException, UnsupportedOperationException {
        Note renewed = madeNote(note);
        if (renewed.kind() != 's') {
            throw new UnsupportedOperationException("the note is not stale");
        }
        checkInReel(renewed.subject);
        renewed.version = renewed.subject.version;
        return renewed.version;
    }

    public int notes(char how) throws IllegalArgumentException {
        if (how != 'o' && how != 'd' && how != 'r' && how != 's') {
            throw new IllegalArgumentException("no such letter");
        }
        return notesOf(how);
    }

    // ---- setups and orders

    public boolean dear(int shot, boolean is) throws IndexOutOfBoundsException {
        Shot asked = madeShot(shot);
        boolean before = asked.isDear;
        asked.isDear = is;
        return before;
    }

    public int setups() {
        return setupCount(false);
    }

    public int first() {
        return setupCount(true);
    }

    public int days() {
        int bySetups = (setupCount(false) + SETUPS_A_DAY - 1) / SETUPS_A_DAY;
        int byShots = (reel.size() + SHOTS_A_DAY - 1) / SHOTS_A_DAY;
        return Math.max(bySetups, byShots);
    }

    public int orders() throws UnsupportedOperationException {
        checkShortReel();
        reelOrders.layOut(reel);
        return reelOrders.allGood();
    }

    public int best() throws UnsupportedOperationException {
        checkShortReel();
        reelOrders.layOut(reel);
        return reelOrders.leastWrong();
    }

    public long checksum() {
        long sum = 7;
        for (int i = 0; i < reel.size(); i++) {
            Shot summed = reel.get(i);
            sum = 31 * sum + summed.index;
            sum = 31 * sum + summed.frames;
            sum = 31 * sum + summed.version;
        }
        for (int i = 0; i < noted.size(); i++) {
            sum = 31 * sum + noted.get(i).kind();
        }
        return sum;
    }

    public float brokenShare() throws NoSuchElementException {
        int cuts = reel.size() - 1;
        if (cuts < 1) {
            throw new NoSuchElementException("no cuts");
        }
        return (float) brokenCuts() / (float) cuts;
    }

    public double meanLength() throws NoSuchElementException {
        int count = reel.size();
        if (count < 1) {
            throw new NoSuchElementException("no shots");
        }
        return (double) beginOf(count) / (double) count;
    }

    public boolean isSound() {
        return areNamesUnlike() && isEachSeenAtItsBegin() && doNotesSumUp() && areEdgesOfMembers();
    }

    // ---- what the calls refuse

    private Shot madeShot(int index) {
        if (index < 0 || index >= made.size()) {
            throw new IndexOutOfBoundsException("no such shot");
        }
        return made.get(index);
    }

    private Note madeNote(int index) {
        if (index < 0 || index >= noted.size()) {
            throw new IndexOutOfBoundsException("no such note");
        }
        return noted.get(index);
    }

    private int placeInReel(Shot asked) {
        int found = placeOf(asked);
        if (found == NO_NUMBER) {
            throw new UnsupportedOperationException("the shot is not in the reel");
        }
        return found;
    }

    private void checkInReel(Shot asked) {
        placeInReel(asked);
    }

    private int foundPlace(Shot asked) {
        int found = placeOf(asked);
        if (found == NO_NUMBER) {
            throw new NoSuchElementException("the shot is not in the reel");
        }
        return found;
    }

    private int foundNumber(Shot asked) {
        int found = nameNumberOf(asked);
        if (found == NO_NUMBER) {
            throw new NoSuchElementException("the shot has no name");
        }
        return found;
    }

    private static void checkCamera(char side, int lens) {
        if (side != 's' && side != 'n' && side != '0') {
            throw new IllegalArgumentException("no such side");
        }
        if (lens < 0 || lens >= LENSES) {
            throw new IllegalArgumentException("no such lens");
        }
    }

    private static void checkLength(int frames) {
        if (frames < 1 || frames > LONGEST) {
            throw new IllegalArgumentException("no such length");
        }
    }

    private static void checkCharacter(int character) {
        if (character < 0 || character >= CHARACTERS) {
            throw new IllegalArgumentException("no such character");
        }
    }

    private static boolean isPosition(char asked) {
        return asked == 'l' || asked == 'c' || asked == 'r';
    }

    /** The shot of which an edge of this character can be set. */
    private Shot shotForEdge(int index, int character, char edge) {
        Shot asked = madeShot(index);
        checkCharacter(character);
        if (edge != 'l' && edge != 'r' && edge != NONE) {
            throw new IllegalArgumentException("no such edge");
        }
        checkInReel(asked);
        if (!asked.cast.has(character)) {
            throw new UnsupportedOperationException("the character is not in the shot");
        }
        return asked;
    }

    private void checkCut(int place) {
        if (place < 1 || place >= reel.size()) {
            throw new NoSuchElementException("no cut to this place");
        }
    }

    private void checkShortReel() {
        if (reel.isEmpty() || reel.size() > MOST_ORDERED) {
            throw new UnsupportedOperationException("the reel is empty or too long");
        }
    }

    // ---- what the calls look up

    private int placeOf(Shot asked) {
        for (int i = 0; i < reel.size(); i++) {
            if (reel.get(i).index == asked.index) {
                return i;
            }
        }
        return NO_NUMBER;
    }

    /** The time at which the shot at this place begins; behind the last place, the length of the reel. */
    private int beginOf(int place) {
        int begin = 0;
        for (int i = 0; i < place && i < reel.size(); i++) {
            begin += reel.get(i).frames;
        }
        return begin;
    }

    private int indexSeen(int time) {
        int end = 0;
        for (int i = 0; i < reel.size() && time >= 0; i++) {
            end += reel.get(i).frames;
            if (time < end) {
                return reel.get(i).index;
            }
        }
        return NO_NUMBER;
    }

    private int nameNumberOf(Shot asked) {
        if (isLocked) {
            return asked.nameNumber;
        }
        int found = placeOf(asked);
        return found == NO_NUMBER ? NO_NUMBER : nameNumberAt(found);
    }

    private int nameNumberAt(int place) {
        return isLocked ? reel.get(place).nameNumber : place + 1;
    }

    /** The number for a new name behind the shot ahead of this place, 0 for the first place. */
    private int numberBehind(int place) {
        return place < 1 || place > reel.size() ? 0 : reel.get(place - 1).nameNumber;
    }

    private char freeLetter(int nameNumber) {
        for (char letter = 'A'; letter <= LAST_LETTER; letter++) {
            if (!isNameTaken(nameNumber, letter)) {
                return letter;
            }
        }
        return NONE;
    }

    private boolean isNameTaken(int nameNumber, char nameLetter) {
        // Dropped shots hold their names too, so all that were made are asked.
        for (int i = 0; i < made.size(); i++) {
            Shot other = made.get(i);
            if (other.nameNumber == nameNumber && other.nameLetter == nameLetter) {
                return true;
            }
        }
        return false;
    }

    private int brokenCuts() {
        int count = 0;
        for (int i = 1; i < reel.size(); i++) {
            if (isBrokenBetween(reel.get(i - 1), reel.get(i))) {
                count++;
            }
        }
        return count;
    }

    private int boardsWith(int holder) {
        int count = 0;
        for (int i = 0; i < made.size(); i++) {
            if (made.get(i).holder == holder) {
                count++;
            }
        }
        return count;
    }

    private int notesOf(char kind) {
        int count = 0;
        for (int i = 0; i < noted.size(); i++) {
            if (noted.get(i).kind() == kind) {
                count++;
            }
        }
        return count;
    }

    private int setupCount(boolean isDearOnly) {
        int setupBits = 0;
        for (int i = 0; i < reel.size(); i++) {
            Shot counted = reel.get(i);
            if (counted.isDear || !isDearOnly) {
                setupBits |= counted.setupBit();
            }
        }
        return Integer.bitCount(setupBits);
    }

    // ---- what is wrong with a cut

    private static boolean isBrokenBetween(Shot ahead, Shot behind) {
        char fault = faultBetween(ahead, behind);
        return fault != NONE && fault != behind.excusedFor(ahead);
    }

    private static char faultBetween(Shot ahead, Shot behind) {
        if (isAcrossLine(ahead, behind)) {
            return 'x';
        }
        if (isJump(ahead, behind)) {
            return 'j';
        }
        if (areGazesUnmatched(ahead.cast, behind.cast)) {
            return 'g';
        }
        for (int i = 0; i < CHARACTERS; i++) {
            if (isBackByTheSameEdge(ahead.cast, behind.cast, i)) {
                return 'e';
            }
        }
        for (int i = 0; i < CHARACTERS; i++) {
            if (isMisplaced(ahead.cast, behind.cast, i)) {
                return 'm';
            }
        }
        return NONE;
    }

    private static boolean isAcrossLine(Shot ahead, Shot behind) {
        return ahead.side != '0' && behind.side != '0' && ahead.side != behind.side;
    }

    private static boolean isJump(Shot ahead, Shot behind) {
        int members = ahead.cast.members();
        return ahead.side == behind.side && ahead.lens == behind.lens
                && members != 0 && members == behind.cast.members();
    }

    private static boolean areGazesUnmatched(Cast ahead, Cast behind) {
        int one = ahead.onlyMember();
        int other = behind.onlyMember();
        if (one == NO_NUMBER || other == NO_NUMBER || one == other) {
            return false;
        }
        char oneGaze = ahead.gazes[one];
        char otherGaze = behind.gazes[other];
        boolean isFacing = oneGaze == 'l' && otherGaze == 'r' || oneGaze == 'r' && otherGaze == 'l';
        return !isFacing && (oneGaze != 'c' || otherGaze != 'c');
    }

    private static boolean isBackByTheSameEdge(Cast ahead, Cast behind, int character) {
        char exit = ahead.exits[character];
        return exit != NONE && exit == behind.entries[character];
    }

    private static boolean isMisplaced(Cast ahead, Cast behind, int character) {
        if (ahead.exits[character] != NONE || behind.entries[character] != NONE) {
            return false;
        }
        char from = ahead.places[character];
        char to = behind.places[character];
        return from == 'l' && to == 'r' || from == 'r' && to == 'l';
    }

    // ---- what makes a reel sound

    private boolean areNamesUnlike() {
        for (int i = 0; i < reel.size(); i++) {
            for (int k = 0; k < i; k++) {
                if (nameNumberAt(i) == nameNumberAt(k) && reel.get(i).nameLetter == reel.get(k).nameLetter) {
                    return false;
                }
            }
        }
        return true;
    }

    private boolean isEachSeenAtItsBegin() {
        for (int i = 0; i < reel.size(); i++) {
            if (indexSeen(beginOf(i)) != reel.get(i).index) {
                return false;
            }
        }
        return true;
    }

    private boolean doNotesSumUp() {
        return notesOf('o') + notesOf('d') + notesOf('r') + notesOf('s') == noted.size();
    }

    private boolean areEdgesOfMembers() {
        for (int i = 0; i < made.size(); i++) {
            if (!made.get(i).cast.areEdgesOfThoseIn()) {
                return false;
            }
        }
        return true;
    }

    /** The characters of one shot: rows by character, NONE where there is nothing. */
    private static final class Cast {
        final char[] places = new char[CHARACTERS];
        final char[] gazes = new char[CHARACTERS];
        final char[] entries = new char[CHARACTERS];
        final char[] exits = new char[CHARACTERS];

        Cast() {
            for (int i = 0; i < CHARACTERS; i++) {
                places[i] = NONE;
                gazes[i] = NONE;
                entries[i] = NONE;
                exits[i] = NONE;
            }
        }

        boolean has(int character) {
            return places[character] != NONE;
        }

        /** Who is in it, a bit for each. */
        int members() {
            int bits = 0;
            for (int i = 0; i < CHARACTERS; i++) {
                if (has(i)) {
                    bits |= 1 << i;
                }
            }
            return bits;
        }

        /** The character that is in it alone, NO_NUMBER if there is no such one. */
        int onlyMember() {
            int found = NO_NUMBER;
            for (int i = 0; i < CHARACTERS; i++) {
                if (has(i)) {
                    if (found != NO_NUMBER) {
                        return NO_NUMBER;
                    }
                    found = i;
                }
            }
            return found;
        }

        boolean areEdgesOfThoseIn() {
            for (int i = 0; i < CHARACTERS; i++) {
                if (!has(i) && (entries[i] != NONE || exits[i] != NONE)) {
                    return false;
                }
            }
            return true;
        }
    }

    /** For what a shot was excused, and between which versions of which shots. */
    private static final class Pardon {
        private char cause = NONE;
        private int version;
        private int aheadIndex;
        private int aheadVersion;

        void grant(char letter, Shot excused, Shot ahead) {
            cause = letter;
            version = excused.version;
            aheadIndex = ahead.index;
            aheadVersion = ahead.version;
        }

        boolean holds(Shot excused, Shot ahead) {
            return version == excused.version && aheadIndex == ahead.index && aheadVersion == ahead.version;
        }
    }

    private static final class Shot {
        final int index;
        final Cast cast = new Cast();
        final Pardon pardon = new Pardon();
        char side;
        int lens;
        int frames;
        int version;
        int nameNumber = NO_NUMBER;
        char nameLetter = NONE;
        int holder = NO_NUMBER;
        int handedVersion;
        boolean isDear;

        Shot(int index, char side, int lens, int frames) {
            this.index = index;
            this.side = side;
            this.lens = lens;
            this.frames = frames;
        }

        void film(char newSide, int newLens) {
            if (side != newSide || lens != newLens) {
                side = newSide;
                lens = newLens;
                version++;
            }
        }

        /** Returns the length before. */
        int changeLength(int newFrames) {
            int before = frames;
            if (before != newFrames) {
                frames = newFrames;
                version++;
            }
            return before;
        }

        void putIn(int character, char newPlace, char newGaze) {
            if (cast.places[character] != newPlace || cast.gazes[character] != newGaze) {
                cast.places[character] = newPlace;
                cast.gazes[character] = newGaze;
                version++;
            }
        }

        void takeOut(int character) {
            if (cast.has(character)) {
                cast.places[character] = NONE;
                cast.gazes[character] = NONE;
                cast.entries[character] = NONE;
                cast.exits[character] = NONE;
                version++;
            }
        }

        /** Sets an edge in one of the two rows of edges of the cast; returns the edge before. */
        char changeEdge(char[] edges, int character, char newEdge) {
            char before = edges[character];
            if (before != newEdge) {
                edges[character] = newEdge;
                version++;
            }
            return before;
        }

        char excusedFor(Shot ahead) {
            return pardon.holds(this, ahead) ? pardon.cause : NONE;
        }

        int setupBit() {
            int row = side == 's' ? 0 : side == 'n' ? 1 : 2;
            return 1 << (row * LENSES + lens);
        }
    }

    private static final class Note {
        final Shot subject;
        int version;
        /** 'd' or 'r', and 'o' as long as it is neither. */
        char verdict = 'o';

        Note(Shot subject) {
            this.subject = subject;
            this.version = subject.version;
        }

        char kind() {
            return verdict == 'o' && version != subject.version ? 's' : verdict;
        }
    }

    /**
     * All orders of a short reel, told by the set of shots that are already laid out (a bit for each place
     * in the reel) and the one of them that is last: what is ahead of the last one does not matter further.
     */
    private static final class Orders {
        /** More than the cuts of any order. */
        private static final int MANY = 1000;

        private final boolean[] wrongCuts = new boolean[MOST_ORDERED * MOST_ORDERED];
        private final int[] goodOnes = new int[(1 << MOST_ORDERED) * MOST_ORDERED];
        private final int[] leastFaults = new int[(1 << MOST_ORDERED) * MOST_ORDERED];
        private int count;

        void layOut(ArrayList<Shot> reel) {
            count = Math.min(reel.size(), MOST_ORDERED);
            for (int i = 0; i < count; i++) {
                for (int k = 0; k < count; k++) {
                    wrongCuts[cell(i, k)] = faultBetween(reel.get(i), reel.get(k)) != NONE;
                }
            }
            for (int laid = 1; laid < 1 << count; laid++) {
                for (int last = 0; last < count; last++) {
                    goodOnes[cell(laid, last)] = goodEndingWith(last, laid);
                    leastFaults[cell(laid, last)] = leastEndingWith(last, laid);
                }
            }
        }

        int allGood() {
            int all = (1 << count) - 1;
            int sum = 0;
            for (int last = 0; last < count; last++) {
                sum += goodOnes[cell(all, last)];
            }
            return sum;
        }

        int leastWrong() {
            int all = (1 << count) - 1;
            int least = MANY;
            for (int last = 0; last < count; last++) {
                least = Math.min(least, leastFaults[cell(all, last)]);
            }
            return least;
        }

        private int goodEndingWith(int last, int laid) {
            int others = laid & ~(1 << last);
            if (others == laid) {
                return 0;
            }
            if (others == 0) {
                return 1;
            }
            int sum = 0;
            for (int i = 0; i < count; i++) {
                if (!wrongCuts[cell(i, last)]) {
                    sum += goodOnes[cell(others, i)];
                }
            }
            return sum;
        }

        private int leastEndingWith(int last, int laid) {
            int others = laid & ~(1 << last);
            if (others == laid) {
                return MANY;
            }
            if (others == 0) {
                return 0;
            }
            int least = MANY;
            for (int i = 0; i < count; i++) {
                int cost = wrongCuts[cell(i, last)] ? 1 : 0;
                least = Math.min(least, leastFaults[cell(others, i)] + cost);
            }
            return least;
        }

        private static int cell(int row, int column) {
            return row * MOST_ORDERED + column;
        }
    }
}
