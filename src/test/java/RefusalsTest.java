import java.util.ArrayList;
import java.util.List;

/**
 * "The refusals of a call are tested in the order in which they are listed; a refused call changes
 * nothing." Each refusal alone, each one before every later one that can apply with it, and each time
 * a twin object that did not see the refused call and has to answer all later calls alike.
 */
public final class RefusalsTest {
    private static final int LEAST = Integer.MIN_VALUE;
    private static final int GREATEST = Integer.MAX_VALUE;
    private static final int PROMISED_CALLS = 512;

    private static final int NO_ITEM = -1;
    private static final int NOT_FOLDER = -2;
    private static final int BAD_NAME = -3;
    private static final int NAME_TAKEN = -4;
    private static final int NO_ROOM = -5;
    private static final int IS_ROOT = -6;
    private static final int WOULD_LOOP = -7;
    private static final int NOT_EMPTY = -8;
    private static final int NOT_FILE = -9;
    private static final int BAD_LENGTH = -10;
    private static final int NO_SPACE = -11;
    private static final int NONE = -12;

    // The states early and late are alike, but for this number added to each identifier but the root's.
    private static final int LATE_SHIFT = 53;
    // Not there in either of them: 2 and 3 are removed, 9 is the next to be given, or 62.
    private static final int[] ABSENT = {LEAST, -1, 0, 2, 3, 9, 40, 62, GREATEST};
    // The neighbours of 0 to 255, the ends of int, and 10 and 11 for who looks at eight bits alone.
    private static final int[] BAD_NAMES = {LEAST, -1, 256, 266, 267, GREATEST};
    private static final int[] BAD_LENGTHS = {LEAST, -1, 0, 33, 257, GREATEST};

    private static int wrong = 0;

    private interface State {
        void build(Desk desk);
    }

    /** A call on an object whose identifiers are shifted by s. */
    private interface Call {
        int on(Desk desk, int s);
    }

    public static void main(String[] args) {
        makeAlone();
        makeInOrder();
        moveAlone();
        moveInOrder();
        removals();
        extendAlone();
        extendInOrder();
        shrinks();
        looksIntoFolders();
        looksAtItems();
        looksAtFiles();
        answeredQuestionsChangeNothing();
        System.out.println(wrong == 0 ? "all answers are as due" : wrong + " answers are not as due");
        if (wrong != 0) {
            System.exit(1);
        }
    }

    private static void fault(String text) {
        wrong++;
        System.out.println(text);
    }

    /** In the state early and in the state late. */
    private static void changesNothing(String what, Call call, int want) {
        check(what, RefusalsTest::early, call, 0, want);
        check(what + " (late)", RefusalsTest::late, call, LATE_SHIFT, want);
    }

    private static void changesNothingIn(State state, String what, Call call, int want) {
        check(what, state, call, 0, want);
    }

    private static void check(String what, State state, Call call, int shift, int want) {
        Desk asked = new Desk();
        Desk twin = new Desk();
        state.build(asked);
        state.build(twin);
        // Twice: what a refused call must not change includes its own next answer.
        for (int time = 0; time < 2; time++) {
            int got = call.on(asked, shift);
            if (got != want) {
                fault(what + " answered " + got + ", due is " + want);
            }
        }
        compare(what, asked.laterAnswers(), twin.laterAnswers());
        if (asked.calls > PROMISED_CALLS) {
            fault(what + ": the test makes " + asked.calls + " calls on one object");
        }
    }

    private static void compare(String what, List<String> afterCall, List<String> afterNothing) {
        if (afterCall.equals(afterNothing)) {
            return;
        }
        int at = 0;
        while (at < afterCall.size() && at < afterNothing.size()
                && afterCall.get(at).equals(afterNothing.get(at))) {
            at++;
        }
        fault(what + " changed a later answer: " + (at < afterCall.size() ? afterCall.get(at) : "missing")
                + ", without it: " + (at < afterNothing.size() ? afterNothing.get(at) : "missing"));
    }

    /**
     * Root: folder 4 "10", file 7 "13" with six extents. In 4: file 5 "11" with two extents, folder
     * 6 "12". In 6: file 8 "0" without extents. Removed: folder 2 and the file 3 "0" in it.
     */
    private static void early(Desk desk) {
        arrange(desk, 0);
    }

    /** As early, but for the identifiers 55 to 61: no more can be given. */
    private static void late(Desk desk) {
        for (int item = 2; item <= 1 + LATE_SHIFT; item++) {
            desk.make(1, 0, item % 2 == 0);
            desk.remove(item);
        }
        arrange(desk, LATE_SHIFT);
    }

    private static void arrange(Desk desk, int s) {
        desk.make(1, 10, true);
        desk.make(s + 2, 0, false);
        desk.move(s + 2, 1, 14);
        desk.make(1, 10, true);
        desk.make(s + 4, 11, false);
        desk.make(s + 4, 12, true);
        desk.make(1, 13, false);
        desk.make(s + 6, 0, false);
        for (int number = 0; number < 6; number++) {
            desk.extend(s + 7, 2);
            desk.extend(s + 3, 2);
        }
        desk.extend(s + 5, 5);
        desk.extend(s + 5, 7);
        desk.removeAll(s + 2);
    }

    /** As early, and 19 files more, 9 to 27, named 40 and on: 24 items. */
    private static void full(Desk desk) {
        early(desk);
        for (int n = 0; n < 19; n++) {
            desk.make(1, 40 + n, false);
        }
    }

    /** As early, and the files 9 and 10 have all the blocks that are left. */
    private static void packed(Desk desk) {
        early(desk);
        desk.make(1, 40, false);
        desk.make(1, 41, false);
        desk.extend(9, 32);
        desk.extend(9, 28);
        for (int number = 0; number < 6; number++) {
            desk.extend(10, 2);
        }
    }

    /** As late, and the files 61 with six extents and 58 with four have all the blocks that are left. */
    private static void latePacked(Desk desk) {
        late(desk);
        desk.extend(61, 32);
        desk.extend(61, 28);
        for (int number = 0; number < 4; number++) {
            desk.extend(61, 2);
        }
        desk.extend(58, 2);
        desk.extend(58, 2);
    }

    private static void empty(Desk desk) {
        desk.items();
    }

    /** In the row of absent identifiers those from 2 to 9 stand for items of the state. */
    private static int shifted(int item, int s) {
        return item >= 2 && item <= 9 ? item + s : item;
    }

    private static void makeAlone() {
        for (int parent : ABSENT) {
            changesNothing("make in " + parent, (d, s) -> d.make(shifted(parent, s), 99, false), NO_ITEM);
            changesNothing("make of a folder in " + parent, (d, s) -> d.make(shifted(parent, s), 99, true), NO_ITEM);
        }
        changesNothingIn(RefusalsTest::early, "make in 61", (d, s) -> d.make(61, 99, true), NO_ITEM);
        changesNothing("make in a file", (d, s) -> d.make(s + 8, 99, false), NOT_FOLDER);
        changesNothing("make in a file with six extents", (d, s) -> d.make(s + 7, 99, true), NOT_FOLDER);
        for (int name : BAD_NAMES) {
            changesNothing("make in the root, name " + name, (d, s) -> d.make(1, name, true), BAD_NAME);
            changesNothing("make in a folder, name " + name, (d, s) -> d.make(s + 6, name, false), BAD_NAME);
        }
        changesNothing("make with the name of a folder", (d, s) -> d.make(1, 10, false), NAME_TAKEN);
        changesNothing("make with the name of a file", (d, s) -> d.make(1, 13, true), NAME_TAKEN);
        changesNothing("make with the name of an only file", (d, s) -> d.make(s + 6, 0, false), NAME_TAKEN);
        changesNothingIn(RefusalsTest::full, "make, 24 items", (d, s) -> d.make(1, 99, false), NO_ROOM);
        changesNothingIn(RefusalsTest::full, "make in a folder, 24 items", (d, s) -> d.make(6, 99, true), NO_ROOM);
        changesNothingIn(RefusalsTest::late, "make, 60 identifiers", (d, s) -> d.make(1, 99, false), NO_ROOM);
        changesNothingIn(RefusalsTest::late, "make in a folder, 60 identifiers",
                (d, s) -> d.make(59, 99, true), NO_ROOM);
    }

    private static void makeInOrder() {
        changesNothing("make: NO_ITEM, not NOT_FOLDER, for a removed file", (d, s) -> d.make(s + 3, 0, false), NO_ITEM);
        changesNothing("make: NO_ITEM, not NAME_TAKEN, for a removed folder",
                (d, s) -> d.make(s + 2, 0, false), NO_ITEM);
        changesNothing("make: NO_ITEM before BAD_NAME", (d, s) -> d.make(s + 9, -1, false), NO_ITEM);
        changesNothing("make: NO_ITEM before BAD_NAME, removed", (d, s) -> d.make(s + 2, 256, true), NO_ITEM);
        changesNothing("make: NOT_FOLDER before BAD_NAME", (d, s) -> d.make(s + 5, 256, false), NOT_FOLDER);
        changesNothingIn(RefusalsTest::full, "make: NO_ITEM before NO_ROOM, 24 items",
                (d, s) -> d.make(28, 99, false), NO_ITEM);
        changesNothingIn(RefusalsTest::full, "make: NO_ITEM before BAD_NAME and NO_ROOM, 24 items",
                (d, s) -> d.make(0, 256, false), NO_ITEM);
        changesNothingIn(RefusalsTest::full, "make: NOT_FOLDER before NO_ROOM, 24 items",
                (d, s) -> d.make(5, 99, false), NOT_FOLDER);
        changesNothingIn(RefusalsTest::full, "make: NOT_FOLDER before BAD_NAME and NO_ROOM, 24 items",
                (d, s) -> d.make(5, -1, false), NOT_FOLDER);
        changesNothingIn(RefusalsTest::full, "make: BAD_NAME before NO_ROOM, 24 items",
                (d, s) -> d.make(1, 256, false), BAD_NAME);
        changesNothingIn(RefusalsTest::full, "make: NAME_TAKEN before NO_ROOM, 24 items",
                (d, s) -> d.make(1, 58, false), NAME_TAKEN);
        changesNothingIn(RefusalsTest::late, "make: NO_ITEM before NO_ROOM, 60 identifiers",
                (d, s) -> d.make(56, 99, false), NO_ITEM);
        changesNothingIn(RefusalsTest::late, "make: NOT_FOLDER before NO_ROOM, 60 identifiers",
                (d, s) -> d.make(61, 99, true), NOT_FOLDER);
        changesNothingIn(RefusalsTest::late, "make: BAD_NAME before NO_ROOM, 60 identifiers",
                (d, s) -> d.make(1, -1, true), BAD_NAME);
        changesNothingIn(RefusalsTest::late, "make: NAME_TAKEN before NO_ROOM, 60 identifiers",
                (d, s) -> d.make(59, 0, false), NAME_TAKEN);
    }

    private static void moveAlone() {
        for (int item : ABSENT) {
            changesNothing("move of " + item, (d, s) -> d.move(shifted(item, s), 1, 99), NO_ITEM);
            changesNothing("move of a file into " + item, (d, s) -> d.move(s + 5, shifted(item, s), 99), NO_ITEM);
            changesNothing("move of a folder into " + item, (d, s) -> d.move(s + 6, shifted(item, s), 99), NO_ITEM);
        }
        changesNothing("move of a file into a file", (d, s) -> d.move(s + 5, s + 7, 99), NOT_FOLDER);
        changesNothing("move of a folder into a file", (d, s) -> d.move(s + 6, s + 7, 99), NOT_FOLDER);
        for (int name : BAD_NAMES) {
            changesNothing("move up, name " + name, (d, s) -> d.move(s + 5, 1, name), BAD_NAME);
            changesNothing("move within, name " + name, (d, s) -> d.move(s + 5, s + 4, name), BAD_NAME);
        }
        changesNothing("move into itself", (d, s) -> d.move(s + 4, s + 4, 99), WOULD_LOOP);
        changesNothing("move into itself, a folder with one item", (d, s) -> d.move(s + 6, s + 6, 12), WOULD_LOOP);
        changesNothing("move into a folder in it", (d, s) -> d.move(s + 4, s + 6, 99), WOULD_LOOP);
        changesNothing("move to a taken name, same parent", (d, s) -> d.move(s + 7, 1, 10), NAME_TAKEN);
        changesNothing("move to a taken name, other parent", (d, s) -> d.move(s + 7, s + 6, 0), NAME_TAKEN);
        changesNothing("move to a taken name, up", (d, s) -> d.move(s + 6, 1, 13), NAME_TAKEN);
        changesNothingIn(RefusalsTest::full, "move to a taken name, 24 items", (d, s) -> d.move(27, 1, 40), NAME_TAKEN);
    }

    private static void moveInOrder() {
        changesNothing("move: NO_ITEM before NO_ITEM", (d, s) -> d.move(s + 9, s + 2, 99), NO_ITEM);
        changesNothing("move: NO_ITEM before NOT_FOLDER", (d, s) -> d.move(s + 9, s + 5, 99), NO_ITEM);
        changesNothing("move: NO_ITEM before BAD_NAME", (d, s) -> d.move(s + 9, 1, 256), NO_ITEM);
        changesNothing("move: NO_ITEM, not WOULD_LOOP, for a removed folder",
                (d, s) -> d.move(s + 2, s + 2, 99), NO_ITEM);
        changesNothing("move: NO_ITEM before NAME_TAKEN", (d, s) -> d.move(s + 3, 1, 10), NO_ITEM);
        changesNothing("move: IS_ROOT before NO_ITEM", (d, s) -> d.move(1, s + 9, 99), IS_ROOT);
        changesNothing("move: IS_ROOT before NO_ITEM, least int", (d, s) -> d.move(1, LEAST, 99), IS_ROOT);
        changesNothing("move: IS_ROOT before NOT_FOLDER", (d, s) -> d.move(1, s + 5, 99), IS_ROOT);
        changesNothing("move: IS_ROOT before BAD_NAME", (d, s) -> d.move(1, s + 6, 256), IS_ROOT);
        changesNothing("move: IS_ROOT before WOULD_LOOP, itself", (d, s) -> d.move(1, 1, 99), IS_ROOT);
        changesNothing("move: IS_ROOT before WOULD_LOOP, below", (d, s) -> d.move(1, s + 6, 99), IS_ROOT);
        changesNothing("move: IS_ROOT before NAME_TAKEN", (d, s) -> d.move(1, s + 4, 11), IS_ROOT);
        changesNothingIn(RefusalsTest::empty, "move: IS_ROOT, empty", (d, s) -> d.move(1, 1, 0), IS_ROOT);
        changesNothing("move: newParent NO_ITEM before BAD_NAME", (d, s) -> d.move(s + 5, s + 9, 256), NO_ITEM);
        changesNothing("move: NO_ITEM, not NOT_FOLDER, for a removed file",
                (d, s) -> d.move(s + 5, s + 3, 99), NO_ITEM);
        changesNothing("move: NO_ITEM, not NAME_TAKEN, for a removed folder",
                (d, s) -> d.move(s + 5, s + 2, 0), NO_ITEM);
        changesNothing("move: NOT_FOLDER before BAD_NAME", (d, s) -> d.move(s + 5, s + 7, -1), NOT_FOLDER);
        changesNothing("move: NOT_FOLDER before WOULD_LOOP, itself", (d, s) -> d.move(s + 5, s + 5, 11), NOT_FOLDER);
        changesNothing("move: NOT_FOLDER before WOULD_LOOP, a file in it",
                (d, s) -> d.move(s + 4, s + 5, 99), NOT_FOLDER);
        changesNothing("move: NOT_FOLDER before WOULD_LOOP, a deeper file",
                (d, s) -> d.move(s + 4, s + 8, 99), NOT_FOLDER);
        changesNothing("move: NOT_FOLDER before BAD_NAME and WOULD_LOOP",
                (d, s) -> d.move(s + 4, s + 8, 256), NOT_FOLDER);
        changesNothing("move: BAD_NAME before WOULD_LOOP, itself", (d, s) -> d.move(s + 4, s + 4, -1), BAD_NAME);
        changesNothing("move: BAD_NAME before WOULD_LOOP, below", (d, s) -> d.move(s + 4, s + 6, 256), BAD_NAME);
        changesNothing("move: WOULD_LOOP before NAME_TAKEN, itself", (d, s) -> d.move(s + 4, s + 4, 11), WOULD_LOOP);
        changesNothing("move: WOULD_LOOP before NAME_TAKEN, below", (d, s) -> d.move(s + 4, s + 6, 0), WOULD_LOOP);
    }

    private static void removals() {
        for (int item : ABSENT) {
            changesNothing("remove of " + item, (d, s) -> d.remove(shifted(item, s)), NO_ITEM);
            changesNothing("removeAll of " + item, (d, s) -> d.removeAll(shifted(item, s)), NO_ITEM);
        }
        changesNothingIn(RefusalsTest::empty, "remove: IS_ROOT, empty", (d, s) -> d.remove(1), IS_ROOT);
        changesNothingIn(RefusalsTest::empty, "removeAll: IS_ROOT, empty", (d, s) -> d.removeAll(1), IS_ROOT);
        changesNothing("remove: IS_ROOT before NOT_EMPTY", (d, s) -> d.remove(1), IS_ROOT);
        changesNothing("removeAll: IS_ROOT", (d, s) -> d.removeAll(1), IS_ROOT);
        changesNothingIn(RefusalsTest::full, "removeAll: IS_ROOT, 24 items", (d, s) -> d.removeAll(1), IS_ROOT);
        changesNothing("remove: NOT_EMPTY, two items", (d, s) -> d.remove(s + 4), NOT_EMPTY);
        changesNothing("remove: NOT_EMPTY, one item", (d, s) -> d.remove(s + 6), NOT_EMPTY);
    }

    private static void extendAlone() {
        for (int item : ABSENT) {
            changesNothing("extend of " + item, (d, s) -> d.extend(shifted(item, s), 1), NO_ITEM);
        }
        changesNothing("extend of the root", (d, s) -> d.extend(1, 1), NOT_FILE);
        changesNothing("extend of a folder", (d, s) -> d.extend(s + 6, 32), NOT_FILE);
        for (int length : BAD_LENGTHS) {
            changesNothing("extend by " + length, (d, s) -> d.extend(s + 5, length), BAD_LENGTH);
            changesNothing("first extend by " + length, (d, s) -> d.extend(s + 8, length), BAD_LENGTH);
        }
        changesNothing("extend of a file with six extents", (d, s) -> d.extend(s + 7, 1), NO_ROOM);
        changesNothingIn(RefusalsTest::packed, "extend on a full disk, 1", (d, s) -> d.extend(5, 1), NO_SPACE);
        changesNothingIn(RefusalsTest::packed, "extend on a full disk, 32", (d, s) -> d.extend(8, 32), NO_SPACE);
        changesNothingIn(RefusalsTest::latePacked, "extend on a full disk, late", (d, s) -> d.extend(58, 1), NO_SPACE);
    }

    private static void extendInOrder() {
        changesNothing("extend: NO_ITEM, not NOT_FILE, for a removed folder", (d, s) -> d.extend(s + 2, 1), NO_ITEM);
        changesNothing("extend: NO_ITEM before BAD_LENGTH", (d, s) -> d.extend(s + 9, 0), NO_ITEM);
        changesNothing("extend: NO_ITEM before BAD_LENGTH, removed", (d, s) -> d.extend(s + 3, 33), NO_ITEM);
        changesNothing("extend: NO_ITEM, not NO_ROOM, for a removed file", (d, s) -> d.extend(s + 3, 1), NO_ITEM);
        changesNothingIn(RefusalsTest::packed, "extend: NO_ITEM before NO_SPACE", (d, s) -> d.extend(3, 1), NO_ITEM);
        changesNothing("extend: NOT_FILE before BAD_LENGTH", (d, s) -> d.extend(s + 4, 0), NOT_FILE);
        changesNothing("extend: NOT_FILE before BAD_LENGTH, root", (d, s) -> d.extend(1, 33), NOT_FILE);
        changesNothingIn(RefusalsTest::packed, "extend: NOT_FILE before NO_SPACE", (d, s) -> d.extend(6, 1), NOT_FILE);
        changesNothing("extend: BAD_LENGTH before NO_ROOM, 0", (d, s) -> d.extend(s + 7, 0), BAD_LENGTH);
        changesNothing("extend: BAD_LENGTH before NO_ROOM, 33", (d, s) -> d.extend(s + 7, 33), BAD_LENGTH);
        changesNothingIn(RefusalsTest::packed, "extend: BAD_LENGTH before NO_SPACE, 0",
                (d, s) -> d.extend(5, 0), BAD_LENGTH);
        changesNothingIn(RefusalsTest::packed, "extend: BAD_LENGTH before NO_SPACE, 33",
                (d, s) -> d.extend(5, 33), BAD_LENGTH);
        changesNothingIn(RefusalsTest::packed, "extend: BAD_LENGTH before NO_ROOM and NO_SPACE",
                (d, s) -> d.extend(7, LEAST), BAD_LENGTH);
        changesNothingIn(RefusalsTest::packed, "extend: NO_ROOM before NO_SPACE, 1", (d, s) -> d.extend(7, 1), NO_ROOM);
        changesNothingIn(RefusalsTest::packed, "extend: NO_ROOM before NO_SPACE, 32",
                (d, s) -> d.extend(7, 32), NO_ROOM);
        changesNothingIn(RefusalsTest::latePacked, "extend: NO_ROOM before NO_SPACE, late",
                (d, s) -> d.extend(61, 1), NO_ROOM);
    }

    private static void shrinks() {
        for (int item : ABSENT) {
            changesNothing("shrink: NO_ITEM before NONE, " + item, (d, s) -> d.shrink(shifted(item, s)), NO_ITEM);
        }
        changesNothing("shrink: NOT_FILE before NONE, root", (d, s) -> d.shrink(1), NOT_FILE);
        changesNothing("shrink: NOT_FILE before NONE, folder", (d, s) -> d.shrink(s + 4), NOT_FILE);
        changesNothingIn(RefusalsTest::packed, "shrink: NOT_FILE before NONE, full disk",
                (d, s) -> d.shrink(6), NOT_FILE);
        changesNothing("shrink: NONE", (d, s) -> d.shrink(s + 8), NONE);
        changesNothingIn(RefusalsTest::packed, "shrink: NONE, full disk", (d, s) -> d.shrink(8), NONE);
    }

    private static void looksIntoFolders() {
        for (int parent : ABSENT) {
            changesNothing("find: NO_ITEM before NONE, " + parent, (d, s) -> d.find(shifted(parent, s), 0), NO_ITEM);
            changesNothing("find: NO_ITEM before BAD_NAME, " + parent,
                (d, s) -> d.find(shifted(parent, s), 256), NO_ITEM);
            changesNothing("entry: NO_ITEM, " + parent, (d, s) -> d.entry(shifted(parent, s), 0), NO_ITEM);
            changesNothing("entry: NO_ITEM before NONE, " + parent, (d, s) -> d.entry(shifted(parent, s), -1), NO_ITEM);
            changesNothing("entries: NO_ITEM, " + parent, (d, s) -> d.entries(shifted(parent, s)), NO_ITEM);
        }
        changesNothing("find: NOT_FOLDER before BAD_NAME", (d, s) -> d.find(s + 5, -1), NOT_FOLDER);
        changesNothing("find: NOT_FOLDER before NONE", (d, s) -> d.find(s + 5, 11), NOT_FOLDER);
        for (int name : BAD_NAMES) {
            changesNothing("find: BAD_NAME before NONE, " + name, (d, s) -> d.find(1, name), BAD_NAME);
            changesNothing("find: BAD_NAME before NONE, in a folder, " + name, (d, s) -> d.find(s + 4, name), BAD_NAME);
        }
        changesNothing("find: NONE", (d, s) -> d.find(1, 11), NONE);
        changesNothing("find: NONE, a removed name", (d, s) -> d.find(1, 14), NONE);
        changesNothing("entry: NOT_FOLDER before NONE, negative", (d, s) -> d.entry(s + 5, -1), NOT_FOLDER);
        changesNothing("entry: NOT_FOLDER before NONE, too great", (d, s) -> d.entry(s + 7, 0), NOT_FOLDER);
        int[] outside = {LEAST, -1, 2, 24, GREATEST};
        for (int position : outside) {
            changesNothing("entry: NONE, " + position, (d, s) -> d.entry(s + 4, position), NONE);
            changesNothing("entry: NONE in the root, " + position, (d, s) -> d.entry(1, position), NONE);
        }
        changesNothing("entries: NOT_FOLDER", (d, s) -> d.entries(s + 7), NOT_FOLDER);
    }

    private static void looksAtItems() {
        for (int item : ABSENT) {
            changesNothing("parentOf: NO_ITEM, " + item, (d, s) -> d.parentOf(shifted(item, s)), NO_ITEM);
            changesNothing("nameOf: NO_ITEM, " + item, (d, s) -> d.nameOf(shifted(item, s)), NO_ITEM);
            changesNothing("kindOf: 0, " + item, (d, s) -> d.kindOf(shifted(item, s)), 0);
        }
        changesNothing("parentOf: IS_ROOT", (d, s) -> d.parentOf(1), IS_ROOT);
        changesNothing("nameOf: IS_ROOT", (d, s) -> d.nameOf(1), IS_ROOT);
    }

    private static void looksAtFiles() {
        for (int item : ABSENT) {
            changesNothing("blocks: NO_ITEM, " + item, (d, s) -> d.blocks(shifted(item, s)), NO_ITEM);
            changesNothing("blockAt: NO_ITEM, " + item, (d, s) -> d.blockAt(shifted(item, s), 0), NO_ITEM);
            changesNothing("blockAt: NO_ITEM before NONE, " + item, (d, s) -> d.blockAt(shifted(item, s), -1), NO_ITEM);
        }
        changesNothing("blocks: NOT_FILE", (d, s) -> d.blocks(s + 6), NOT_FILE);
        changesNothing("blocks: NOT_FILE, root", (d, s) -> d.blocks(1), NOT_FILE);
        changesNothing("blockAt: NOT_FILE before NONE, negative", (d, s) -> d.blockAt(s + 4, -1), NOT_FILE);
        changesNothing("blockAt: NOT_FILE before NONE, too great", (d, s) -> d.blockAt(1, 0), NOT_FILE);
        int[] outside = {LEAST, -1, 12, 13, 96, GREATEST};
        for (int index : outside) {
            changesNothing("blockAt: NONE, six extents, " + index, (d, s) -> d.blockAt(s + 7, index), NONE);
            changesNothing("blockAt: NONE, two extents, " + index, (d, s) -> d.blockAt(s + 5, index), NONE);
        }
        changesNothing("blockAt: NONE, no extents", (d, s) -> d.blockAt(s + 8, 0), NONE);
    }

    private static void answeredQuestionsChangeNothing() {
        changesNothingIn(RefusalsTest::early, "find", (d, s) -> d.find(4, 11), 5);
        changesNothingIn(RefusalsTest::early, "entry", (d, s) -> d.entry(4, 1), 6);
        changesNothingIn(RefusalsTest::late, "find, late", (d, s) -> d.find(59, 0), 61);
        changesNothingIn(RefusalsTest::late, "parentOf, late", (d, s) -> d.parentOf(61), 59);
        changesNothing("entries", (d, s) -> d.entries(s + 4), 2);
        changesNothing("nameOf", (d, s) -> d.nameOf(s + 7), 13);
        changesNothing("kindOf of a folder", (d, s) -> d.kindOf(s + 6), 2);
        changesNothing("kindOf of a file", (d, s) -> d.kindOf(s + 8), 1);
        changesNothing("items", (d, s) -> d.items(), 5);
        changesNothing("blocks", (d, s) -> d.blocks(s + 7), 12);
        changesNothing("blockAt", (d, s) -> d.blockAt(s + 7, 11), 21);
        changesNothing("free", (d, s) -> d.free(), 72);
        changesNothingIn(RefusalsTest::full, "items, 24 items", (d, s) -> d.items(), 24);
        changesNothingIn(RefusalsTest::packed, "free, full disk", (d, s) -> d.free(), 0);
        changesNothingIn(RefusalsTest::latePacked, "free, full disk, late", (d, s) -> d.free(), 0);
    }

    /** An object and the number of calls it has seen. */
    private static final class Desk {
        private final CatalogStore store = new CatalogStore();
        private int calls = 0;

        private int counted(int answer) {
            calls++;
            return answer;
        }

        private int make(int parent, int name, boolean folder) {
            return counted(store.make(parent, name, folder));
        }

        private int move(int item, int newParent, int newName) {
            return counted(store.move(item, newParent, newName));
        }

        private int remove(int item) {
            return counted(store.remove(item));
        }

        private int removeAll(int item) {
            return counted(store.removeAll(item));
        }

        private int extend(int item, int length) {
            return counted(store.extend(item, length));
        }

        private int shrink(int item) {
            return counted(store.shrink(item));
        }

        private int find(int parent, int name) {
            return counted(store.find(parent, name));
        }

        private int entry(int parent, int position) {
            return counted(store.entry(parent, position));
        }

        private int entries(int parent) {
            return counted(store.entries(parent));
        }

        private int parentOf(int item) {
            return counted(store.parentOf(item));
        }

        private int nameOf(int item) {
            return counted(store.nameOf(item));
        }

        private int kindOf(int item) {
            return counted(store.kindOf(item));
        }

        private int items() {
            return counted(store.items());
        }

        private int blocks(int item) {
            return counted(store.blocks(item));
        }

        private int blockAt(int item, int index) {
            return counted(store.blockAt(item, index));
        }

        private int free() {
            return counted(store.free());
        }

        /** All that can be seen, and then the answers of calls that go on from there. */
        private List<String> laterAnswers() {
            List<String> answers = new ArrayList<>();
            List<Integer> files = new ArrayList<>();
            answers.add("items() " + items());
            answers.add("free() " + free());
            for (int item = 0; item <= 62; item++) {
                int kind = kindOf(item);
                answers.add("kindOf(" + item + ") " + kind);
                if (kind != 0) {
                    answers.add("parentOf(" + item + ") " + parentOf(item));
                    answers.add("nameOf(" + item + ") " + nameOf(item));
                }
                if (kind == 1) {
                    files.add(item);
                    lookAtFile(item, answers);
                }
                if (kind == 2) {
                    lookAtFolder(item, answers);
                }
            }
            goOn(files, answers);
            return answers;
        }

        private void lookAtFolder(int folder, List<String> answers) {
            int count = entries(folder);
            answers.add("entries(" + folder + ") " + count);
            for (int position = 0; position < count; position++) {
                answers.add("entry(" + folder + ", " + position + ") " + entry(folder, position));
            }
        }

        private void lookAtFile(int file, List<String> answers) {
            int count = blocks(file);
            answers.add("blocks(" + file + ") " + count);
            for (int index = 0; index < count; index++) {
                answers.add("blockAt(" + file + ", " + index + ") " + blockAt(file, index));
            }
        }

        private void goOn(List<Integer> files, List<String> answers) {
            answers.add("make(1, 200, false) " + make(1, 200, false));
            for (int file : files) {
                answers.add("shrink(" + file + ") " + shrink(file));
                answers.add("extend(" + file + ", 3) " + extend(file, 3));
            }
            answers.add("free() " + free());
            // Emptied from the front, so that the next identifier shows even if there was no room.
            for (int count = entries(1); count > 0; count--) {
                int item = entry(1, 0);
                answers.add("entry(1, 0) " + item);
                answers.add("removeAll(" + item + ") " + removeAll(item));
            }
            answers.add("make(1, 201, true) " + make(1, 201, true));
            answers.add("items() " + items());
            answers.add("free() " + free());
        }
    }
}
