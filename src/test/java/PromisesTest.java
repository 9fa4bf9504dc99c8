/** One method for each promise of the document: ordinary calls, the named edges, wrong inputs. */
public final class PromisesTest {
    private static final int LEAST = Integer.MIN_VALUE;
    private static final int MOST = Integer.MAX_VALUE;
    // Identifiers that name no item in any test here; 62 is the first that is never given.
    private static final int[] NEVER_THERE = {LEAST, -1, 0, 50, 61, 62, 63, 256, MOST};

    private static final int NO_ITEM = -1;
    private static final int NOT_FOLDER = -2;
    private static final int BAD_NAME = -3;
    private static final int NAME_TAKEN = -4;
    private static final int NO_ROOM = -5;
    private static final int IS_ROOT = -6;
    private static final int WOULD_LOOP = -7;
    private static final int NOT_EMPTY = -8;
    private static final int NOT_FILE = -9;
    private static final int BAD_LENGTH = -10;
    private static final int NO_SPACE = -11;
    private static final int NONE = -12;

    private static String where = "";
    private static int wrong = 0;

    public static void main(String[] args) {
        constants();
        newObject();
        make();
        makeNoRoom();
        makeIdentifiersRunOut();
        move();
        moveRefusals();
        moveLoops();
        remove();
        removeAll();
        removeAllAgainstTheOrderOfIdentifiers();
        extend();
        extendFindsLeastGap();
        extendRefusals();
        shrink();
        find();
        entry();
        entries();
        parentOf();
        nameOf();
        kindOf();
        items();
        blocks();
        blockAt();
        free();
        fullFilesDoNotTouchTheirNeighbours();
        objectsAreApart();
        System.out.println(wrong == 0 ? "all answers are as due" : wrong + " answers are not as due");
        if (wrong != 0) {
            System.exit(1);
        }
    }

    private static void due(String call, int got, int want) {
        if (got != want) {
            wrong++;
            System.out.println(where + ": " + call + " answered " + got + ", due is " + want);
        }
    }

    /** Root 1; folder 2 "10" with file 3 "11" and folder 4 "12"; file 5 "13" in the root. */
    private static CatalogStore small() {
        CatalogStore x = new CatalogStore();
        x.make(1, 10, true);
        x.make(2, 11, false);
        x.make(2, 12, true);
        x.make(1, 13, false);
        return x;
    }

    private static void smallIsUnchanged(CatalogStore x) {
        due("items()", x.items(), 4);
        due("kindOf(2)", x.kindOf(2), 2);
        due("kindOf(3)", x.kindOf(3), 1);
        due("kindOf(4)", x.kindOf(4), 2);
        due("kindOf(5)", x.kindOf(5), 1);
        due("kindOf(6)", x.kindOf(6), 0);
        due("entries(1)", x.entries(1), 2);
        due("entries(2)", x.entries(2), 2);
        due("entries(4)", x.entries(4), 0);
        due("find(1, 10)", x.find(1, 10), 2);
        due("find(2, 11)", x.find(2, 11), 3);
        due("find(2, 12)", x.find(2, 12), 4);
        due("find(1, 13)", x.find(1, 13), 5);
        due("free()", x.free(), 96);
    }

    private static void constants() {
        where = "constants";
        due("NO_ITEM", CatalogStore.NO_ITEM, NO_ITEM);
        due("NOT_FOLDER", CatalogStore.NOT_FOLDER, NOT_FOLDER);
        due("BAD_NAME", CatalogStore.BAD_NAME, BAD_NAME);
        due("NAME_TAKEN", CatalogStore.NAME_TAKEN, NAME_TAKEN);
        due("NO_ROOM", CatalogStore.NO_ROOM, NO_ROOM);
        due("IS_ROOT", CatalogStore.IS_ROOT, IS_ROOT);
        due("WOULD_LOOP", CatalogStore.WOULD_LOOP, WOULD_LOOP);
        due("NOT_EMPTY", CatalogStore.NOT_EMPTY, NOT_EMPTY);
        due("NOT_FILE", CatalogStore.NOT_FILE, NOT_FILE);
        due("BAD_LENGTH", CatalogStore.BAD_LENGTH, BAD_LENGTH);
        due("NO_SPACE", CatalogStore.NO_SPACE, NO_SPACE);
        due("NONE", CatalogStore.NONE, NONE);
    }

    private static void newObject() {
        where = "promise 1";
        CatalogStore x = new CatalogStore();
        due("items()", x.items(), 0);
        due("free()", x.free(), 96);
        due("kindOf(1)", x.kindOf(1), 2);
        due("entries(1)", x.entries(1), 0);
        due("entry(1, 0)", x.entry(1, 0), NONE);
        for (int item = -2; item <= 63; item++) {
            if (item != 1) {
                due("kindOf(" + item + ")", x.kindOf(item), 0);
            }
        }
        for (int name = 0; name <= 255; name++) {
            due("find(1, " + name + ")", x.find(1, name), NONE);
        }
    }

    private static void make() {
        where = "promise 2";
        CatalogStore x = small();
        smallIsUnchanged(x);
        for (int parent : NEVER_THERE) {
            due("make(" + parent + ", 0, true)", x.make(parent, 0, true), NO_ITEM);
        }
        due("make(6, -1, true)", x.make(6, -1, true), NO_ITEM);
        due("make(3, 0, false)", x.make(3, 0, false), NOT_FOLDER);
        due("make(3, 256, false)", x.make(3, 256, false), NOT_FOLDER);
        due("make(1, -1, false)", x.make(1, -1, false), BAD_NAME);
        due("make(1, 256, true)", x.make(1, 256, true), BAD_NAME);
        due("make(1, LEAST, true)", x.make(1, LEAST, true), BAD_NAME);
        due("make(1, MOST, false)", x.make(1, MOST, false), BAD_NAME);
        due("make(1, 10, false)", x.make(1, 10, false), NAME_TAKEN);
        due("make(1, 13, true)", x.make(1, 13, true), NAME_TAKEN);
        smallIsUnchanged(x);
        due("make(1, 0, true)", x.make(1, 0, true), 6);
        due("make(1, 255, false)", x.make(1, 255, false), 7);
        due("make(2, 10, false)", x.make(2, 10, false), 8);
        due("make(4, 10, true)", x.make(4, 10, true), 9);
        due("kindOf(6)", x.kindOf(6), 2);
        due("kindOf(7)", x.kindOf(7), 1);
        due("parentOf(8)", x.parentOf(8), 2);
        due("nameOf(8)", x.nameOf(8), 10);
        due("blocks(7)", x.blocks(7), 0);
        due("blocks(8)", x.blocks(8), 0);
        due("remove(9)", x.remove(9), 0);
        due("make(9, 0, true)", x.make(9, 0, true), NO_ITEM);
        due("make(4, 10, true)", x.make(4, 10, true), 10);
    }

    private static void makeNoRoom() {
        where = "promise 2, 24 items";
        CatalogStore x = new CatalogStore();
        for (int n = 0; n < 24; n++) {
            due("make " + n, x.make(1, n, n == 0), n + 2);
        }
        due("items()", x.items(), 24);
        due("make(1, 24, false)", x.make(1, 24, false), NO_ROOM);
        due("make(2, 0, true)", x.make(2, 0, true), NO_ROOM);
        due("make(1, 23, false)", x.make(1, 23, false), NAME_TAKEN);
        due("make(1, 256, false)", x.make(1, 256, false), BAD_NAME);
        due("make(3, 24, false)", x.make(3, 24, false), NOT_FOLDER);
        due("make(26, 24, false)", x.make(26, 24, false), NO_ITEM);
        due("items()", x.items(), 24);
        due("kindOf(26)", x.kindOf(26), 0);
        due("remove(25)", x.remove(25), 0);
        due("make(2, 0, true)", x.make(2, 0, true), 26);
        due("make(1, 24, false)", x.make(1, 24, false), NO_ROOM);
        due("removeAll(2)", x.removeAll(2), 2);
        due("make(1, 24, false)", x.make(1, 24, false), 27);
        due("make(1, 25, false)", x.make(1, 25, false), 28);
        due("make(1, 26, false)", x.make(1, 26, false), NO_ROOM);
    }

    private static void makeIdentifiersRunOut() {
        where = "promise 2, 60 identifiers";
        CatalogStore x = new CatalogStore();
        for (int item = 2; item <= 60; item++) {
            due("make " + item, x.make(1, 7, false), item);
            due("remove " + item, x.remove(item), 0);
        }
        due("make(1, 7, true)", x.make(1, 7, true), 61);
        due("extend(61, 1)", x.extend(61, 1), NOT_FILE);
        due("find(1, 7)", x.find(1, 7), 61);
        due("entry(1, 0)", x.entry(1, 0), 61);
        due("entries(1)", x.entries(1), 1);
        due("make(1, 8, false)", x.make(1, 8, false), NO_ROOM);
        due("make(1, 7, false)", x.make(1, 7, false), NAME_TAKEN);
        due("make(61, 7, false)", x.make(61, 7, false), NO_ROOM);
        due("items()", x.items(), 1);
        due("remove(61)", x.remove(61), 0);
        due("make(1, 7, false)", x.make(1, 7, false), NO_ROOM);
        due("kindOf(61)", x.kindOf(61), 0);
        due("kindOf(62)", x.kindOf(62), 0);
        due("items()", x.items(), 0);

        CatalogStore y = new CatalogStore();
        for (int item = 2; item <= 60; item++) {
            y.make(1, 7, false);
            y.remove(item);
        }
        due("make(1, 7, false)", y.make(1, 7, false), 61);
        for (int number = 0; number < 6; number++) {
            due("extend(61, 2)", y.extend(61, 2), 2 * number);
        }
        due("blockAt(61, 11)", y.blockAt(61, 11), 11);
        due("removeAll(61)", y.removeAll(61), 1);
        due("free()", y.free(), 96);
    }

    private static void move() {
        where = "promise 3";
        CatalogStore x = small();
        due("extend(3, 5)", x.extend(3, 5), 0);
        due("move(3, 2, 11)", x.move(3, 2, 11), 0);
        due("find(2, 11)", x.find(2, 11), 3);
        due("move(3, 2, 0)", x.move(3, 2, 0), 0);
        due("find(2, 11)", x.find(2, 11), NONE);
        due("find(2, 0)", x.find(2, 0), 3);
        due("move(3, 1, 255)", x.move(3, 1, 255), 0);
        due("parentOf(3)", x.parentOf(3), 1);
        due("nameOf(3)", x.nameOf(3), 255);
        due("find(2, 0)", x.find(2, 0), NONE);
        due("entries(2)", x.entries(2), 1);
        due("entries(1)", x.entries(1), 3);
        due("blocks(3)", x.blocks(3), 5);
        due("blockAt(3, 4)", x.blockAt(3, 4), 4);
        due("make(4, 1, false)", x.make(4, 1, false), 6);
        due("move(4, 1, 12)", x.move(4, 1, 12), 0);
        due("parentOf(6)", x.parentOf(6), 4);
        due("find(4, 1)", x.find(4, 1), 6);
        due("move(2, 4, 1)", x.move(2, 4, 1), NAME_TAKEN);
        due("move(2, 4, 2)", x.move(2, 4, 2), 0);
        due("parentOf(2)", x.parentOf(2), 4);
        due("items()", x.items(), 5);
        due("free()", x.free(), 91);
        due("make(1, 10, false)", x.make(1, 10, false), 7);
    }

    private static void moveRefusals() {
        where = "promise 3, refusals";
        CatalogStore x = small();
        for (int item : NEVER_THERE) {
            due("move(" + item + ", 1, 0)", x.move(item, 1, 0), NO_ITEM);
            due("move(3, " + item + ", 0)", x.move(3, item, 0), NO_ITEM);
            due("move(1, " + item + ", 0)", x.move(1, item, 0), IS_ROOT);
        }
        due("move(1, 1, 0)", x.move(1, 1, 0), IS_ROOT);
        due("move(1, 3, 256)", x.move(1, 3, 256), IS_ROOT);
        due("move(3, 6, 256)", x.move(3, 6, 256), NO_ITEM);
        due("move(3, 5, 256)", x.move(3, 5, 256), NOT_FOLDER);
        due("move(3, 3, 11)", x.move(3, 3, 11), NOT_FOLDER);
        due("move(2, 3, 0)", x.move(2, 3, 0), NOT_FOLDER);
        due("move(2, 4, -1)", x.move(2, 4, -1), BAD_NAME);
        due("move(2, 2, 256)", x.move(2, 2, 256), BAD_NAME);
        due("move(3, 1, LEAST)", x.move(3, 1, LEAST), BAD_NAME);
        due("move(3, 1, MOST)", x.move(3, 1, MOST), BAD_NAME);
        due("move(2, 2, 11)", x.move(2, 2, 11), WOULD_LOOP);
        due("move(3, 2, 12)", x.move(3, 2, 12), NAME_TAKEN);
        due("move(3, 1, 10)", x.move(3, 1, 10), NAME_TAKEN);
        due("move(5, 1, 10)", x.move(5, 1, 10), NAME_TAKEN);
        smallIsUnchanged(x);
    }

    private static void moveLoops() {
        where = "promise 3, loops";
        CatalogStore x = new CatalogStore();
        for (int item = 2; item <= 25; item++) {
            due("make " + item, x.make(item - 1, 0, true), item);
        }
        for (int item = 2; item <= 25; item++) {
            due("move(2, " + item + ", 9)", x.move(2, item, 9), WOULD_LOOP);
        }
        due("move(13, 25, 0)", x.move(13, 25, 0), WOULD_LOOP);
        due("move(13, 13, 0)", x.move(13, 13, 0), WOULD_LOOP);
        due("move(13, 12, 0)", x.move(13, 12, 0), 0);
        due("move(13, 11, 0)", x.move(13, 11, 0), NAME_TAKEN);
        due("move(13, 11, 1)", x.move(13, 11, 1), 0);
        due("move(12, 25, 1)", x.move(12, 25, 1), 0);
        due("move(13, 12, 1)", x.move(13, 12, 1), WOULD_LOOP);
        due("move(12, 1, 0)", x.move(12, 1, 0), NAME_TAKEN);
        due("move(12, 1, 1)", x.move(12, 1, 1), 0);
        due("move(2, 12, 1)", x.move(2, 12, 1), 0);
        due("move(12, 25, 1)", x.move(12, 25, 1), WOULD_LOOP);
    }

    private static void remove() {
        where = "promise 4";
        CatalogStore x = small();
        for (int item : NEVER_THERE) {
            due("remove(" + item + ")", x.remove(item), NO_ITEM);
        }
        due("remove(1)", x.remove(1), IS_ROOT);
        due("remove(2)", x.remove(2), NOT_EMPTY);
        smallIsUnchanged(x);
        due("extend(3, 7)", x.extend(3, 7), 0);
        due("extend(5, 8)", x.extend(5, 8), 7);
        due("extend(3, 9)", x.extend(3, 9), 15);
        due("remove(3)", x.remove(3), 0);
        due("free()", x.free(), 88);
        due("blocks(5)", x.blocks(5), 8);
        due("blockAt(5, 0)", x.blockAt(5, 0), 7);
        due("kindOf(3)", x.kindOf(3), 0);
        due("remove(3)", x.remove(3), NO_ITEM);
        due("find(2, 11)", x.find(2, 11), NONE);
        due("remove(2)", x.remove(2), NOT_EMPTY);
        due("remove(4)", x.remove(4), 0);
        due("remove(2)", x.remove(2), 0);
        due("items()", x.items(), 1);
        due("make(1, 10, false)", x.make(1, 10, false), 6);
        due("blocks(6)", x.blocks(6), 0);
        due("remove(6)", x.remove(6), 0);
        due("remove(5)", x.remove(5), 0);
        due("remove(1)", x.remove(1), IS_ROOT);
        due("free()", x.free(), 96);
    }

    private static void removeAll() {
        where = "promise 5";
        CatalogStore x = small();
        for (int item : NEVER_THERE) {
            due("removeAll(" + item + ")", x.removeAll(item), NO_ITEM);
        }
        due("removeAll(1)", x.removeAll(1), IS_ROOT);
        smallIsUnchanged(x);
        due("make(4, 0, false)", x.make(4, 0, false), 6);
        due("extend(3, 1)", x.extend(3, 1), 0);
        due("extend(5, 2)", x.extend(5, 2), 1);
        due("extend(6, 3)", x.extend(6, 3), 3);
        due("extend(6, 4)", x.extend(6, 4), 6);
        due("removeAll(4)", x.removeAll(4), 2);
        due("free()", x.free(), 93);
        due("items()", x.items(), 3);
        due("kindOf(6)", x.kindOf(6), 0);
        due("removeAll(4)", x.removeAll(4), NO_ITEM);
        due("removeAll(2)", x.removeAll(2), 2);
        due("free()", x.free(), 94);
        due("removeAll(5)", x.removeAll(5), 1);
        due("free()", x.free(), 96);
        due("items()", x.items(), 0);
        due("entries(1)", x.entries(1), 0);
        due("make(1, 10, true)", x.make(1, 10, true), 7);
        due("removeAll(7)", x.removeAll(7), 1);
        due("removeAll(1)", x.removeAll(1), IS_ROOT);
    }

    private static void removeAllAgainstTheOrderOfIdentifiers() {
        where = "promise 5, moved items";
        CatalogStore x = new CatalogStore();
        for (int item = 2; item <= 25; item++) {
            x.make(1, item, item != 2);
        }
        due("extend(2, 32)", x.extend(2, 32), 0);
        for (int item = 2; item < 20; item++) {
            due("move " + item, x.move(item, item + 1, 0), 0);
        }
        due("removeAll(20)", x.removeAll(20), 19);
        due("items()", x.items(), 5);
        due("entries(1)", x.entries(1), 5);
        due("entry(1, 0)", x.entry(1, 0), 21);
        due("free()", x.free(), 96);
        for (int item = 2; item <= 20; item++) {
            due("kindOf(" + item + ")", x.kindOf(item), 0);
        }
    }

    private static void extend() {
        where = "promise 6";
        CatalogStore x = small();
        due("extend(3, 32)", x.extend(3, 32), 0);
        due("extend(5, 1)", x.extend(5, 1), 32);
        due("extend(3, 31)", x.extend(3, 31), 33);
        due("extend(3, 32)", x.extend(3, 32), 64);
        due("free()", x.free(), 0);
        due("extend(5, 1)", x.extend(5, 1), NO_SPACE);
        due("blocks(3)", x.blocks(3), 95);
        due("blocks(5)", x.blocks(5), 1);
    }

    private static void extendFindsLeastGap() {
        where = "promise 6, gaps";
        CatalogStore x = new CatalogStore();
        // Files 2 to 9 have 12 blocks each and fill the disk.
        for (int item = 2; item <= 9; item++) {
            x.make(1, item, false);
            due("extend(" + item + ", 12)", x.extend(item, 12), (item - 2) * 12);
        }
        x.shrink(3);
        x.shrink(6);
        x.shrink(7);
        due("extend(3, 13)", x.extend(3, 13), 48);
        due("extend(3, 12)", x.extend(3, 12), 12);
        due("extend(3, 12)", x.extend(3, 12), NO_SPACE);
        due("extend(3, 11)", x.extend(3, 11), 61);
        due("extend(3, 1)", x.extend(3, 1), NO_SPACE);
        due("blockAt(3, 0)", x.blockAt(3, 0), 48);
        due("blockAt(3, 13)", x.blockAt(3, 13), 12);
        due("blockAt(3, 25)", x.blockAt(3, 25), 61);
        x.shrink(9);
        due("extend(9, 13)", x.extend(9, 13), NO_SPACE);
        due("extend(9, 12)", x.extend(9, 12), 84);
        x.shrink(9);
        x.shrink(2);
        // Twelve free blocks at either end are not one run.
        due("extend(9, 13)", x.extend(9, 13), NO_SPACE);
        due("free()", x.free(), 24);
    }

    private static void extendRefusals() {
        where = "promise 6, refusals";
        CatalogStore x = small();
        for (int item : NEVER_THERE) {
            due("extend(" + item + ", 1)", x.extend(item, 1), NO_ITEM);
        }
        due("extend(6, 0)", x.extend(6, 0), NO_ITEM);
        due("extend(1, 1)", x.extend(1, 1), NOT_FILE);
        due("extend(2, 0)", x.extend(2, 0), NOT_FILE);
        due("extend(3, 0)", x.extend(3, 0), BAD_LENGTH);
        due("extend(3, -1)", x.extend(3, -1), BAD_LENGTH);
        due("extend(3, 33)", x.extend(3, 33), BAD_LENGTH);
        due("extend(3, LEAST)", x.extend(3, LEAST), BAD_LENGTH);
        due("extend(3, MOST)", x.extend(3, MOST), BAD_LENGTH);
        smallIsUnchanged(x);
        for (int number = 0; number < 6; number++) {
            due("extend(3, 16)", x.extend(3, 16), 16 * number);
        }
        due("extend(3, 33)", x.extend(3, 33), BAD_LENGTH);
        due("extend(3, 0)", x.extend(3, 0), BAD_LENGTH);
        due("extend(3, 1)", x.extend(3, 1), NO_ROOM);
        due("extend(5, 1)", x.extend(5, 1), NO_SPACE);
        due("blocks(3)", x.blocks(3), 96);
        due("blocks(5)", x.blocks(5), 0);
        due("shrink(3)", x.shrink(3), 16);
        due("extend(3, 17)", x.extend(3, 17), NO_SPACE);
        due("extend(3, 16)", x.extend(3, 16), 80);
        due("extend(3, 16)", x.extend(3, 16), NO_ROOM);
    }

    private static void shrink() {
        where = "promise 7";
        CatalogStore x = small();
        for (int item : NEVER_THERE) {
            due("shrink(" + item + ")", x.shrink(item), NO_ITEM);
        }
        due("shrink(1)", x.shrink(1), NOT_FILE);
        due("shrink(4)", x.shrink(4), NOT_FILE);
        due("shrink(3)", x.shrink(3), NONE);
        smallIsUnchanged(x);
        due("extend(3, 4)", x.extend(3, 4), 0);
        due("extend(5, 5)", x.extend(5, 5), 4);
        due("extend(3, 6)", x.extend(3, 6), 9);
        due("shrink(5)", x.shrink(5), 5);
        due("shrink(5)", x.shrink(5), NONE);
        // The last extent is the one added last, here one with lesser blocks.
        due("extend(3, 3)", x.extend(3, 3), 4);
        due("shrink(3)", x.shrink(3), 3);
        due("blocks(3)", x.blocks(3), 10);
        due("blockAt(3, 4)", x.blockAt(3, 4), 9);
        due("shrink(3)", x.shrink(3), 6);
        due("free()", x.free(), 92);
        due("shrink(3)", x.shrink(3), 4);
        due("shrink(3)", x.shrink(3), NONE);
        due("free()", x.free(), 96);
        due("extend(5, 32)", x.extend(5, 32), 0);
        due("remove(5)", x.remove(5), 0);
        due("shrink(5)", x.shrink(5), NO_ITEM);
    }

    private static void find() {
        where = "promise 8";
        CatalogStore x = small();
        smallIsUnchanged(x);
        for (int parent : NEVER_THERE) {
            due("find(" + parent + ", 10)", x.find(parent, 10), NO_ITEM);
        }
        due("find(6, 256)", x.find(6, 256), NO_ITEM);
        due("find(3, 256)", x.find(3, 256), NOT_FOLDER);
        due("find(5, 13)", x.find(5, 13), NOT_FOLDER);
        due("find(1, -1)", x.find(1, -1), BAD_NAME);
        due("find(1, 256)", x.find(1, 256), BAD_NAME);
        due("find(1, LEAST)", x.find(1, LEAST), BAD_NAME);
        due("find(1, MOST)", x.find(1, MOST), BAD_NAME);
        due("find(1, 0)", x.find(1, 0), NONE);
        due("find(1, 255)", x.find(1, 255), NONE);
        due("find(1, 11)", x.find(1, 11), NONE);
        due("find(2, 10)", x.find(2, 10), NONE);
        due("find(4, 12)", x.find(4, 12), NONE);
        x.make(1, 0, false);
        x.make(1, 255, false);
        due("find(1, 0)", x.find(1, 0), 6);
        due("find(1, 255)", x.find(1, 255), 7);
        x.remove(6);
        due("find(1, 0)", x.find(1, 0), NONE);
    }

    private static void entry() {
        where = "promise 9";
        CatalogStore x = small();
        for (int parent : NEVER_THERE) {
            due("entry(" + parent + ", 0)", x.entry(parent, 0), NO_ITEM);
        }
        due("entry(6, -1)", x.entry(6, -1), NO_ITEM);
        due("entry(3, 0)", x.entry(3, 0), NOT_FOLDER);
        due("entry(3, -1)", x.entry(3, -1), NOT_FOLDER);
        due("entry(1, -1)", x.entry(1, -1), NONE);
        due("entry(1, LEAST)", x.entry(1, LEAST), NONE);
        due("entry(1, MOST)", x.entry(1, MOST), NONE);
        due("entry(1, 0)", x.entry(1, 0), 2);
        due("entry(1, 1)", x.entry(1, 1), 5);
        due("entry(1, 2)", x.entry(1, 2), NONE);
        due("entry(4, 0)", x.entry(4, 0), NONE);
        x.make(1, 255, false);
        x.make(1, 0, true);
        x.make(1, 12, false);
        due("entry(1, 0)", x.entry(1, 0), 7);
        due("entry(1, 1)", x.entry(1, 1), 2);
        due("entry(1, 2)", x.entry(1, 2), 8);
        due("entry(1, 3)", x.entry(1, 3), 5);
        due("entry(1, 4)", x.entry(1, 4), 6);
        due("entry(1, 5)", x.entry(1, 5), NONE);
        x.move(7, 1, 254);
        due("entry(1, 0)", x.entry(1, 0), 2);
        due("entry(1, 3)", x.entry(1, 3), 7);
        due("entry(1, 4)", x.entry(1, 4), 6);
        x.remove(8);
        due("entry(1, 1)", x.entry(1, 1), 5);
        due("entry(1, 4)", x.entry(1, 4), NONE);
    }

    private static void entries() {
        where = "promise 10";
        CatalogStore x = small();
        for (int parent : NEVER_THERE) {
            due("entries(" + parent + ")", x.entries(parent), NO_ITEM);
        }
        due("entries(1)", x.entries(1), 2);
        due("entries(2)", x.entries(2), 2);
        due("entries(3)", x.entries(3), NOT_FOLDER);
        due("entries(4)", x.entries(4), 0);
        x.make(4, 255, false);
        x.make(4, 0, false);
        due("entries(4)", x.entries(4), 2);
        due("entries(2)", x.entries(2), 2);
        x.move(6, 2, 0);
        due("entries(4)", x.entries(4), 1);
        due("entries(2)", x.entries(2), 3);
        x.removeAll(2);
        due("entries(2)", x.entries(2), NO_ITEM);
        due("entries(1)", x.entries(1), 1);
    }

    private static void parentOf() {
        where = "promise 11";
        CatalogStore x = small();
        for (int item : NEVER_THERE) {
            due("parentOf(" + item + ")", x.parentOf(item), NO_ITEM);
        }
        due("parentOf(1)", x.parentOf(1), IS_ROOT);
        due("parentOf(2)", x.parentOf(2), 1);
        due("parentOf(3)", x.parentOf(3), 2);
        due("parentOf(4)", x.parentOf(4), 2);
        due("parentOf(5)", x.parentOf(5), 1);
        x.move(5, 4, 0);
        due("parentOf(5)", x.parentOf(5), 4);
        x.remove(5);
        due("parentOf(5)", x.parentOf(5), NO_ITEM);
    }

    private static void nameOf() {
        where = "promise 12";
        CatalogStore x = small();
        for (int item : NEVER_THERE) {
            due("nameOf(" + item + ")", x.nameOf(item), NO_ITEM);
        }
        due("nameOf(1)", x.nameOf(1), IS_ROOT);
        due("nameOf(2)", x.nameOf(2), 10);
        due("nameOf(3)", x.nameOf(3), 11);
        x.move(3, 2, 0);
        due("nameOf(3)", x.nameOf(3), 0);
        x.move(3, 1, 255);
        due("nameOf(3)", x.nameOf(3), 255);
        x.remove(3);
        due("nameOf(3)", x.nameOf(3), NO_ITEM);
    }

    private static void kindOf() {
        where = "promise 13";
        CatalogStore x = small();
        for (int item : NEVER_THERE) {
            due("kindOf(" + item + ")", x.kindOf(item), 0);
        }
        due("kindOf(1)", x.kindOf(1), 2);
        due("kindOf(2)", x.kindOf(2), 2);
        due("kindOf(3)", x.kindOf(3), 1);
        due("kindOf(6)", x.kindOf(6), 0);
        x.remove(3);
        due("kindOf(3)", x.kindOf(3), 0);
        x.removeAll(2);
        due("kindOf(2)", x.kindOf(2), 0);
        due("kindOf(4)", x.kindOf(4), 0);
        due("kindOf(5)", x.kindOf(5), 1);
    }

    private static void items() {
        where = "promise 14";
        CatalogStore x = new CatalogStore();
        due("items()", x.items(), 0);
        x.make(1, 0, true);
        due("items()", x.items(), 1);
        x.make(2, 0, false);
        due("items()", x.items(), 2);
        x.make(2, 0, false);
        due("items()", x.items(), 2);
        x.move(3, 1, 1);
        due("items()", x.items(), 2);
        x.remove(2);
        due("items()", x.items(), 1);
        x.remove(2);
        due("items()", x.items(), 1);
        x.removeAll(3);
        due("items()", x.items(), 0);
    }

    private static void blocks() {
        where = "promise 15";
        CatalogStore x = small();
        for (int item : NEVER_THERE) {
            due("blocks(" + item + ")", x.blocks(item), NO_ITEM);
        }
        due("blocks(1)", x.blocks(1), NOT_FILE);
        due("blocks(2)", x.blocks(2), NOT_FILE);
        due("blocks(3)", x.blocks(3), 0);
        x.extend(3, 32);
        x.extend(5, 3);
        x.extend(3, 7);
        due("blocks(3)", x.blocks(3), 39);
        due("blocks(5)", x.blocks(5), 3);
        x.shrink(3);
        due("blocks(3)", x.blocks(3), 32);
        x.move(3, 4, 9);
        due("blocks(3)", x.blocks(3), 32);
        x.removeAll(4);
        due("blocks(3)", x.blocks(3), NO_ITEM);
    }

    private static void blockAt() {
        where = "promise 16";
        CatalogStore x = small();
        for (int item : NEVER_THERE) {
            due("blockAt(" + item + ", 0)", x.blockAt(item, 0), NO_ITEM);
        }
        due("blockAt(6, -1)", x.blockAt(6, -1), NO_ITEM);
        due("blockAt(1, 0)", x.blockAt(1, 0), NOT_FILE);
        due("blockAt(2, -1)", x.blockAt(2, -1), NOT_FILE);
        due("blockAt(3, 0)", x.blockAt(3, 0), NONE);
        x.extend(5, 3);
        x.extend(3, 2);
        x.extend(5, 1);
        x.extend(3, 4);
        x.shrink(5);
        x.shrink(5);
        x.extend(3, 3);
        // The extents of file 3: blocks 3 and 4, then 6 to 9, then 0 to 2.
        int[] want = {3, 4, 6, 7, 8, 9, 0, 1, 2};
        for (int index = 0; index < want.length; index++) {
            due("blockAt(3, " + index + ")", x.blockAt(3, index), want[index]);
        }
        due("blockAt(3, 9)", x.blockAt(3, 9), NONE);
        due("blockAt(3, -1)", x.blockAt(3, -1), NONE);
        due("blockAt(3, LEAST)", x.blockAt(3, LEAST), NONE);
        due("blockAt(3, MOST)", x.blockAt(3, MOST), NONE);
        x.shrink(3);
        due("blockAt(3, 5)", x.blockAt(3, 5), 9);
        due("blockAt(3, 6)", x.blockAt(3, 6), NONE);
        x.remove(3);
        due("blockAt(3, 0)", x.blockAt(3, 0), NO_ITEM);
    }

    private static void free() {
        where = "promise 17";
        CatalogStore x = small();
        due("free()", x.free(), 96);
        x.extend(3, 32);
        due("free()", x.free(), 64);
        x.extend(5, 32);
        x.extend(5, 31);
        due("free()", x.free(), 1);
        x.extend(3, 2);
        due("free()", x.free(), 1);
        x.extend(3, 1);
        due("free()", x.free(), 0);
        x.shrink(5);
        due("free()", x.free(), 31);
        x.remove(5);
        due("free()", x.free(), 63);
        x.removeAll(2);
        due("free()", x.free(), 96);
    }

    private static void fullFilesDoNotTouchTheirNeighbours() {
        where = "files with 6 extents side by side";
        CatalogStore x = new CatalogStore();
        for (int item = 2; item <= 5; item++) {
            due("make " + item, x.make(1, item, false), item);
        }
        for (int number = 0; number < 6; number++) {
            due("extend(2, 3)", x.extend(2, 3), 6 * number);
            due("extend(4, 3)", x.extend(4, 3), 6 * number + 3);
        }
        due("blocks(3)", x.blocks(3), 0);
        due("blockAt(3, 0)", x.blockAt(3, 0), NONE);
        due("shrink(3)", x.shrink(3), NONE);
        due("remove(3)", x.remove(3), 0);
        due("removeAll(5)", x.removeAll(5), 1);
        due("free()", x.free(), 60);
        due("blocks(2)", x.blocks(2), 18);
        due("blocks(4)", x.blocks(4), 18);
        due("blockAt(2, 17)", x.blockAt(2, 17), 32);
        due("blockAt(4, 0)", x.blockAt(4, 0), 3);
        due("remove(2)", x.remove(2), 0);
        due("extend(4, 1)", x.extend(4, 1), NO_ROOM);
        due("blocks(4)", x.blocks(4), 18);
        due("blockAt(4, 17)", x.blockAt(4, 17), 35);
        due("free()", x.free(), 78);
    }

    private static void objectsAreApart() {
        where = "two objects";
        CatalogStore x = new CatalogStore();
        CatalogStore y = new CatalogStore();
        due("x.make(1, 0, false)", x.make(1, 0, false), 2);
        due("x.extend(2, 9)", x.extend(2, 9), 0);
        due("y.items()", y.items(), 0);
        due("y.free()", y.free(), 96);
        due("y.make(1, 0, true)", y.make(1, 0, true), 2);
        due("x.kindOf(2)", x.kindOf(2), 1);
        due("y.kindOf(2)", y.kindOf(2), 2);
    }
}
