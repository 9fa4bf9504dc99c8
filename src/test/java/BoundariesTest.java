import java.util.TreeMap;

/**
 * One test for each sentence of the document that names a boundary case: the last value that is
 * accepted and the first that is refused on each side, the ends of int, the empty and the full state.
 */
public final class BoundariesTest {
    private static final int LEAST = Integer.MIN_VALUE;
    private static final int GREATEST = Integer.MAX_VALUE;
    private static final int PROMISED_CALLS = 512;

    private static final int NO_ITEM = -1;
    private static final int NOT_FOLDER = -2;
    private static final int BAD_NAME = -3;
    private static final int NAME_TAKEN = -4;
    private static final int NO_ROOM = -5;
    private static final int IS_ROOT = -6;
    private static final int WOULD_LOOP = -7;
    private static final int NOT_EMPTY = -8;
    private static final int NOT_FILE = -9;
    private static final int BAD_LENGTH = -10;
    private static final int NO_SPACE = -11;
    private static final int NONE = -12;

    // Never identifiers: the neighbours of 1 to 61, the ends of int, and numbers that a mask, a
    // narrower type or a product with the 6 extents of a file would take for 1, 2 or 3.
    private static final int[] NEVER_IDENTIFIERS = {
        LEAST, LEAST + 1, LEAST + 2, LEAST + 3, -65533, -255, -62, -61, -3, -2, -1, 0,
        62, 63, 64, 65, 66, 67, 129, 130, 131, 257, 258, 259, 65537, 65538, 65539,
        715827883, 1431655766, GREATEST - 1, GREATEST};
    // The neighbours of 0 to 255, the ends of int, and what a narrower type would take for 0, 7 or 255.
    private static final int[] BAD_NAMES = {
        LEAST, LEAST + 7, -65529, -256, -249, -2, -1, 256, 257, 263, 511, 512, 65536, 65543, 65791, GREATEST};
    // The neighbours of 1 to 32, the ends of int, and what a narrower type would take for 1 or 32.
    private static final int[] BAD_LENGTHS = {
        LEAST, LEAST + 1, -65535, -255, -32, -1, 0, 33, 34, 64, 96, 97, 257, 288, 65537, GREATEST - 1, GREATEST};

    private static String sentence = "";
    private static CatalogStore store;
    private static int calls = 0;
    private static int wrong = 0;

    public static void main(String[] args) {
        whatItIs();
        terms();
        promises1To5();
        promises6And7();
        promises8To17();
        System.out.println(wrong == 0 ? "all answers are as due" : wrong + " answers are not as due");
        if (wrong != 0) {
            System.exit(1);
        }
    }

    private static void whatItIs() {
        the512thCallIsAnsweredAsTheFirst();
    }

    private static void terms() {
        namesGoFrom0To255();
        namesOutside0To255AreRefused();
        rootHasIdentifier1();
        rootIsAlwaysThere();
        rootCannotBeMovedOrRemoved();
        namesDifferOnlyWithinOneParent();
        atMost24Items();
        itemsAtAnyDepthCountToThe24();
        identifiersBeginWith2AndAscend();
        identifiersAreNeverGivenTwice();
        sixtyIdentifiersAreGiven();
        identifiersOutside1To61AreNeverThere();
        identifier61IsOneLikeAnyOther();
        extentsAreAtFirstNone();
        blocksAreNumbered0To95();
        blockIsFreeIfItsFileIsNotThere();
        atMost6Extents();
        extentsAreNumberedInTheOrderOfAdding();
        belowReachesThroughAllDepths();
    }

    private static void promises1To5() {
        newObjectIsEmpty();
        makeNeedsAParentThatIsThere();
        makeNeedsAFolder();
        makeRefusesATakenName();
        makeRefusesThe25thItem();
        makeRefusesThe61stIdentifier();
        makeWithBothLimitsReached();
        moveAnswers0IfNothingIsDifferent();
        moveKeepsIdentifierExtentsAndAllBelow();
        moveNeedsBothItems();
        moveRefusesLoops();
        moveRefusesNamesOfOthersOnly();
        moveIsNotHinderedByFullness();
        removeRefusesAFolderWithOneItem();
        removeFreesAllBlocksOfAFile();
        removeFreesNoBlocksOfOthers();
        removeAllCountsTheItemItself();
        removeAllTakesWhatLiesBelowAndNothingElse();
        removeAllFreesTheBlocksOfAll();
    }

    private static void promises6And7() {
        extendTakesLengths1To32();
        extendRefusesOtherLengths();
        extendTakesTheLeastFirstBlock();
        extendTakesAGapOfJustTheLength();
        extendStaysWithinTheBlocks();
        extendDoesNotJoinTheEndsOfTheDisk();
        extendNeedsOneRunOfFreeBlocks();
        extendJoinsRunsThatBecameFree();
        extendFillsTheDiskWithEveryLength();
        extendRefusesTheSeventhExtent();
        extendRefusesAFullDisk();
        extendNeedsAFile();
        shrinkTakesTheExtentAddedLast();
        shrinkRefusesAFileWithoutExtents();
        shrinkNeedsAFile();
    }

    private static void promises8To17() {
        findAnswersNoneForANameNotThere();
        findNeedsAFolder();
        entryPositionsOfAnEmptyFolder();
        entryPositionsOfAFullFolder();
        entryFollowsNamesNotIdentifiers();
        entryNeedsAFolder();
        entriesFrom0To24();
        entriesNeedsAFolder();
        parentOfRefusesTheRoot();
        nameOfRefusesTheRoot();
        kindOfAnswers0IfNotThere();
        itemsFrom0To24();
        blocksFrom0To96();
        blocksNeedsAFile();
        blockAtIndexesOfAFileWithoutExtents();
        blockAtIndexesAtTheEdgesOfExtents();
        blockAtRefusesIndexesOutside();
        blockAtNeedsAFile();
        freeFrom0To96();
    }

    // The calls, each with the answer that is due.

    private static void begin(String text) {
        sentence = text;
        fresh();
    }

    private static void fresh() {
        store = new CatalogStore();
        calls = 0;
    }

    private static void due(String call, int got, int want) {
        calls++;
        if (got != want) {
            fault(call + " answered " + got + ", due is " + want);
        }
        if (calls > PROMISED_CALLS) {
            fault(call + " is call " + calls + " of its object");
        }
    }

    private static void fault(String text) {
        wrong++;
        System.out.println(sentence + ": " + text);
    }

    private static void make(int parent, int name, boolean folder, int want) {
        due("make(" + parent + ", " + name + ", " + folder + ")", store.make(parent, name, folder), want);
    }

    private static void folder(int parent, int name, int want) {
        make(parent, name, true, want);
    }

    private static void file(int parent, int name, int want) {
        make(parent, name, false, want);
    }

    private static void move(int item, int newParent, int newName, int want) {
        due("move(" + item + ", " + newParent + ", " + newName + ")", store.move(item, newParent, newName), want);
    }

    private static void remove(int item, int want) {
        due("remove(" + item + ")", store.remove(item), want);
    }

    private static void removeAll(int item, int want) {
        due("removeAll(" + item + ")", store.removeAll(item), want);
    }

    private static void extend(int item, int length, int want) {
        due("extend(" + item + ", " + length + ")", store.extend(item, length), want);
    }

    private static void shrink(int item, int want) {
        due("shrink(" + item + ")", store.shrink(item), want);
    }

    private static void find(int parent, int name, int want) {
        due("find(" + parent + ", " + name + ")", store.find(parent, name), want);
    }

    private static void entry(int parent, int position, int want) {
        due("entry(" + parent + ", " + position + ")", store.entry(parent, position), want);
    }

    private static void entries(int parent, int want) {
        due("entries(" + parent + ")", store.entries(parent), want);
    }

    private static void parentOf(int item, int want) {
        due("parentOf(" + item + ")", store.parentOf(item), want);
    }

    private static void nameOf(int item, int want) {
        due("nameOf(" + item + ")", store.nameOf(item), want);
    }

    private static void kindOf(int item, int want) {
        due("kindOf(" + item + ")", store.kindOf(item), want);
    }

    private static void items(int want) {
        due("items()", store.items(), want);
    }

    private static void blocks(int item, int want) {
        due("blocks(" + item + ")", store.blocks(item), want);
    }

    private static void blockAt(int item, int index, int want) {
        due("blockAt(" + item + ", " + index + ")", store.blockAt(item, index), want);
    }

    private static void free(int want) {
        due("free()", store.free(), want);
    }

    // States that several tests begin with.

    /** Files 2, 3, .. in the root, named 0, 1, .. */
    private static void makeFiles(int count) {
        for (int n = 0; n < count; n++) {
            file(1, n, n + 2);
        }
    }

    /** Files in the root that get the identifiers first, first + 1, .. and have them as names too. */
    private static void makeFilesFrom(int first, int count) {
        for (int item = first; item < first + count; item++) {
            file(1, item, item);
        }
    }

    /** Folders 2, 3, .., each in the one before it, all named 0. */
    private static void makeChain(int count) {
        for (int item = 2; item < count + 2; item++) {
            folder(item - 1, 0, item);
        }
    }

    /** Gives the identifiers 2 to last and leaves no item. */
    private static void useUp(int last) {
        useUpFrom(2, last);
    }

    private static void useUpFrom(int first, int last) {
        for (int item = first; item <= last; item++) {
            file(1, 0, item);
            remove(item, 0);
        }
    }

    /** Files 2, 3 and 4 in the root; 3 has blocks 0 to 31, 4 has 32 to 63 and 64 to 95. */
    private static void fillDisk() {
        makeFiles(3);
        extend(3, 32, 0);
        extend(4, 32, 32);
        extend(4, 32, 64);
    }

    /** Eight files, 2 to 9, with twelve blocks each, in the order of the blocks. */
    private static void fillDiskInTwelves() {
        makeFiles(8);
        for (int item = 2; item <= 9; item++) {
            extend(item, 12, (item - 2) * 12);
        }
    }

    // What it is.

    private static void the512thCallIsAnsweredAsTheFirst() {
        begin("An object is used for at most 512 calls");
        for (int last = 0; last < 16; last++) {
            call511Times(true);
            call512(last);
            call511Times(false);
            call512(last);
        }
    }

    /** Leaves folder 2 "7" in the root and in it file 3 "8" with four blocks. */
    private static void call511Times(boolean refused) {
        fresh();
        folder(1, 7, 2);
        file(2, 8, 3);
        extend(3, 4, 0);
        while (calls < PROMISED_CALLS - 2) {
            int name = calls % 200;
            move(3, 2, refused ? 256 + name : name, refused ? BAD_NAME : 0);
        }
        move(3, 2, 8, 0);
    }

    private static void call512(int which) {
        switch (which) {
            case 0 -> file(2, 9, 4);
            case 1 -> move(3, 1, 8, 0);
            case 2 -> remove(3, 0);
            case 3 -> removeAll(2, 2);
            case 4 -> extend(3, 5, 4);
            case 5 -> shrink(3, 4);
            case 6 -> find(2, 8, 3);
            case 7 -> entry(2, 0, 3);
            case 8 -> entries(2, 1);
            case 9 -> parentOf(3, 2);
            case 10 -> nameOf(3, 8);
            case 11 -> kindOf(3, 1);
            case 12 -> items(2);
            case 13 -> blocks(3, 4);
            case 14 -> blockAt(3, 3, 3);
            default -> free(92);
        }
        if (calls != PROMISED_CALLS) {
            fault("the last call is number " + calls);
        }
    }

    // Terms.

    private static void namesGoFrom0To255() {
        begin("a NAME (a whole number from 0 to 255)");
        int item = 2;
        for (int name = 0; name <= 255; name++) {
            if (name % 50 == 0) {
                fresh();
                item = 2;
            }
            make(1, name, name % 2 == 0, item);
            nameOf(item, name);
            find(1, name, item);
            remove(item, 0);
            find(1, name, NONE);
            item++;
        }
        for (int name = 0; name <= 255; name++) {
            if (name % 100 == 0) {
                fresh();
                file(1, 128, 2);
            }
            move(2, 1, name, 0);
            nameOf(2, name);
            find(1, name, 2);
        }
    }

    private static void namesOutside0To255AreRefused() {
        begin("BAD_NAME if name is not from 0 to 255");
        folder(1, 0, 2);
        file(1, 7, 3);
        file(1, 255, 4);
        for (int name : BAD_NAMES) {
            make(1, name, false, BAD_NAME);
            make(2, name, true, BAD_NAME);
            move(3, 1, name, BAD_NAME);
            move(4, 2, name, BAD_NAME);
            find(1, name, BAD_NAME);
            find(2, name, BAD_NAME);
        }
        nameOf(2, 0);
        nameOf(3, 7);
        nameOf(4, 255);
        entries(1, 3);
        entries(2, 0);
    }

    private static void rootHasIdentifier1() {
        begin("The ROOT is a folder with identifier 1; it has no parent and no name");
        kindOf(1, 2);
        parentOf(1, IS_ROOT);
        nameOf(1, IS_ROOT);
        kindOf(0, 0);
        kindOf(2, 0);
        items(0);
        // The root is in no folder, not even in itself, under whatever name.
        entries(1, 0);
        entry(1, 0, NONE);
        for (int name = 0; name <= 255; name++) {
            find(1, name, NONE);
        }
    }

    private static void rootIsAlwaysThere() {
        begin("the root is always there");
        folder(1, 0, 2);
        removeAll(2, 1);
        kindOf(1, 2);
        useUpFrom(3, 61);
        kindOf(1, 2);
        entries(1, 0);
        find(1, 0, NONE);
        file(1, 0, NO_ROOM);
        parentOf(1, IS_ROOT);
    }

    private static void rootCannotBeMovedOrRemoved() {
        begin("the root can't be moved or removed");
        remove(1, IS_ROOT);
        removeAll(1, IS_ROOT);
        move(1, 1, 0, IS_ROOT);
        kindOf(1, 2);
        folder(1, 0, 2);
        remove(1, IS_ROOT);
        removeAll(1, IS_ROOT);
        move(1, 2, 0, IS_ROOT);
        move(1, 1, 0, IS_ROOT);
        kindOf(1, 2);
        items(1);
        parentOf(2, 1);
        entries(2, 0);
    }

    private static void namesDifferOnlyWithinOneParent() {
        begin("No two items with the same parent have the same name");
        for (int name = 0; name <= 255; name += 255) {
            fresh();
            folder(1, name, 2);
            file(1, name, NAME_TAKEN);
            folder(1, name, NAME_TAKEN);
            folder(2, name, 3);
            file(3, name, 4);
            folder(3, name, NAME_TAKEN);
            file(3, name, NAME_TAKEN);
            find(1, name, 2);
            find(2, name, 3);
            find(3, name, 4);
            // A name is free again as soon as no item has it.
            move(4, 3, 128, 0);
            file(3, name, 5);
            remove(5, 0);
            folder(3, name, 6);
            removeAll(3, 3);
            file(2, name, 7);
            move(7, 1, 128, 0);
            file(2, name, 8);
        }
    }

    private static void atMost24Items() {
        begin("At most 24 items besides the root are held");
        makeFiles(23);
        items(23);
        folder(1, 23, 25);
        items(24);
        file(1, 24, NO_ROOM);
        folder(25, 0, NO_ROOM);
        items(24);
        kindOf(25, 2);
        kindOf(26, 0);
        remove(2, 0);
        items(23);
        file(25, 0, 26);
        items(24);
        file(25, 1, NO_ROOM);
    }

    private static void itemsAtAnyDepthCountToThe24() {
        begin("At most 24 items besides the root are held (at any depth)");
        makeChain(24);
        items(24);
        folder(25, 0, NO_ROOM);
        folder(1, 1, NO_ROOM);
        file(12, 1, NO_ROOM);
        removeAll(25, 1);
        file(24, 5, 26);
        file(24, 6, NO_ROOM);
        removeAll(2, 24);
        items(0);
        makeFilesFrom(27, 24);
        file(1, 255, NO_ROOM);
    }

    private static void identifiersBeginWith2AndAscend() {
        begin("the first new item gets 2, each later one the next greater number");
        for (int n = 0; n < 24; n++) {
            make(1, 255 - n, n % 2 == 0, n + 2);
        }
        fresh();
        // Folders and files, and all parents, draw from one row of identifiers.
        file(1, 0, 2);
        folder(1, 1, 3);
        file(3, 0, 4);
        folder(3, 1, 5);
        file(5, 0, 6);
        fresh();
        // A refused call uses up no identifier.
        file(2, 0, NO_ITEM);
        file(1, 256, BAD_NAME);
        file(1, 0, 2);
        file(2, 0, NOT_FOLDER);
        file(1, 0, NAME_TAKEN);
        file(1, 1, 3);
        makeFilesFrom(4, 22);
        file(1, 255, NO_ROOM);
        file(1, 255, NO_ROOM);
        remove(2, 0);
        file(1, 255, 26);
    }

    private static void identifiersAreNeverGivenTwice() {
        begin("no identifier is ever given twice");
        file(1, 0, 2);
        remove(2, 0);
        file(1, 0, 3);
        remove(3, 0);
        folder(1, 0, 4);
        file(4, 0, 5);
        removeAll(4, 2);
        file(1, 0, 6);
        file(1, 1, 7);
        remove(6, 0);
        file(1, 2, 8);
        for (int item = 2; item <= 6; item++) {
            kindOf(item, 0);
        }
        kindOf(7, 1);
        kindOf(8, 1);
    }

    private static void sixtyIdentifiersAreGiven() {
        begin("when 60 identifiers have been given (2 to 61), no item can be made any more");
        useUp(60);
        file(1, 0, 61);
        kindOf(61, 1);
        for (int name = 1; name <= 5; name++) {
            file(1, name, NO_ROOM);
            folder(1, name, NO_ROOM);
        }
        remove(61, 0);
        items(0);
        for (int name = 0; name <= 5; name++) {
            file(1, name, NO_ROOM);
            folder(1, name, NO_ROOM);
        }
        items(0);
        entries(1, 0);
        for (int item = 2; item <= 64; item++) {
            kindOf(item, 0);
        }
    }

    private static void identifiersOutside1To61AreNeverThere() {
        begin("60 identifiers have been given (2 to 61): no other number is there");
        useUp(59);
        folder(1, 7, 60);
        file(60, 7, 61);
        extend(61, 3, 0);
        for (int item : NEVER_IDENTIFIERS) {
            kindOf(item, 0);
            parentOf(item, NO_ITEM);
            nameOf(item, NO_ITEM);
            remove(item, NO_ITEM);
            removeAll(item, NO_ITEM);
        }
        items(2);
        free(93);
        useIdentifiersThatAreNotThere(NEVER_IDENTIFIERS);
    }

    /** One more object, so that no object sees more calls than are promised. */
    private static void useIdentifiersThatAreNotThere(int[] identifiers) {
        fresh();
        file(1, 7, 2);
        extend(2, 3, 0);
        folder(1, 8, 3);
        for (int item : identifiers) {
            file(item, 9, NO_ITEM);
            move(item, 1, 9, NO_ITEM);
            move(2, item, 9, NO_ITEM);
            extend(item, 1, NO_ITEM);
            shrink(item, NO_ITEM);
            find(item, 7, NO_ITEM);
            entry(item, 0, NO_ITEM);
            entries(item, NO_ITEM);
            blocks(item, NO_ITEM);
            blockAt(item, 0, NO_ITEM);
        }
        items(2);
        free(93);
        parentOf(2, 1);
        nameOf(2, 7);
    }

    private static void identifier61IsOneLikeAnyOther() {
        begin("60 identifiers (2 to 61): the last is an item like any other");
        useUp(58);
        folder(1, 1, 59);
        folder(59, 2, 60);
        folder(60, 3, 61);
        find(60, 3, 61);
        entry(60, 0, 61);
        entries(61, 0);
        file(61, 0, NO_ROOM);
        extend(61, 1, NOT_FILE);
        move(59, 61, 0, WOULD_LOOP);
        move(61, 59, 2, NAME_TAKEN);
        move(61, 1, 0, 0);
        move(60, 61, 255, 0);
        find(61, 255, 60);
        entry(61, 0, 60);
        parentOf(60, 61);
        remove(61, NOT_EMPTY);
        move(59, 60, 0, 0);
        move(61, 59, 0, WOULD_LOOP);
        removeAll(61, 3);
        kindOf(61, 0);

        fresh();
        useUp(60);
        file(1, 1, 61);
        for (int number = 0; number < 6; number++) {
            extend(61, 16, 16 * number);
        }
        extend(61, 1, NO_ROOM);
        blocks(61, 96);
        blockAt(61, 95, 95);
        shrink(61, 16);
        entries(61, NOT_FOLDER);
        nameOf(61, 1);
        parentOf(61, 1);
        remove(61, 0);
        free(96);
    }

    private static void extentsAreAtFirstNone() {
        begin("A file owns a list of extents, at first empty");
        file(1, 0, 2);
        blocks(2, 0);
        blockAt(2, 0, NONE);
        shrink(2, NONE);
        free(96);
        extend(2, 32, 0);
        extend(2, 32, 32);
        remove(2, 0);
        // The place of a removed file hands nothing on.
        file(1, 0, 3);
        blocks(3, 0);
        blockAt(3, 0, NONE);
        shrink(3, NONE);
        free(96);
    }

    private static void blocksAreNumbered0To95() {
        begin("Blocks are numbered 0 to 95");
        makeFiles(16);
        for (int block = 0; block <= 95; block++) {
            extend(2 + block / 6, 1, block);
        }
        free(0);
        file(1, 100, 18);
        extend(18, 1, NO_SPACE);
        for (int block = 0; block <= 95; block++) {
            blockAt(2 + block / 6, block % 6, block);
        }
        // The last block and the first are given again like any other.
        shrink(17, 1);
        extend(18, 1, 95);
        removeAll(2, 1);
        extend(18, 1, 0);
        blockAt(18, 0, 95);
        blockAt(18, 1, 0);
        free(5);
    }

    private static void blockIsFreeIfItsFileIsNotThere() {
        begin("A block is FREE if it belongs to no extent of a file that is there");
        fillDisk();
        free(0);
        remove(3, 0);
        free(32);
        extend(2, 32, 0);
        free(0);
        removeAll(4, 1);
        free(64);
        shrink(2, 32);
        free(96);
        remove(2, 0);
        free(96);
    }

    private static void atMost6Extents() {
        begin("A file holds at most 6 extents");
        makeFiles(2);
        for (int number = 0; number < 6; number++) {
            extend(2, 1, number);
            blocks(2, number + 1);
        }
        extend(2, 1, NO_ROOM);
        blocks(2, 6);
        free(90);
        // The limit is one of each file, and of extents, not of blocks.
        for (int number = 0; number < 6; number++) {
            extend(3, 10, 6 + 10 * number);
        }
        extend(3, 10, NO_ROOM);
        shrink(2, 1);
        extend(2, 30, 66);
        extend(2, 1, NO_ROOM);
        blocks(2, 35);
    }

    private static void extentsAreNumberedInTheOrderOfAdding() {
        begin("they are numbered 0, 1, .. in the order in which they were added to the file");
        fillDiskInTwelves();
        file(1, 100, 10);
        // Freed from the end on, so each later extent has lesser blocks than the one before.
        for (int number = 0; number < 6; number++) {
            int from = 9 - number;
            shrink(from, 12);
            extend(10, 12, (from - 2) * 12);
        }
        for (int number = 0; number < 6; number++) {
            blockAt(10, 12 * number, (7 - number) * 12);
            blockAt(10, 12 * number + 11, (7 - number) * 12 + 11);
        }
        for (int number = 5; number >= 0; number--) {
            shrink(10, 12);
            extend(9 - number, 12, (7 - number) * 12);
        }
        shrink(10, NONE);
    }

    private static void belowReachesThroughAllDepths() {
        begin("An item X lies BELOW a folder F if its parent is F or lies below F");
        makeChain(24);
        for (int item = 2; item <= 25; item++) {
            // 2 is above all of them, 25 is above none but itself.
            move(2, item, 1, WOULD_LOOP);
            move(item, 25, 1, WOULD_LOOP);
        }
        removeAll(2, 24);
        items(0);
    }

    // Promises 1 to 5.

    private static void newObjectIsEmpty() {
        begin("Only the root is there; every block is free");
        items(0);
        free(96);
        entries(1, 0);
        entry(1, 0, NONE);
        kindOf(1, 2);
        for (int item = 2; item <= 62; item++) {
            kindOf(item, 0);
        }
        file(1, 0, 2);
        extend(2, 32, 0);
        extend(2, 32, 32);
        extend(2, 32, 64);
        free(0);
    }

    private static void makeNeedsAParentThatIsThere() {
        begin("make: NO_ITEM if parent is not the identifier of an item that is there");
        file(2, 0, NO_ITEM);
        folder(2, 0, NO_ITEM);
        folder(1, 0, 2);
        file(2, 0, 3);
        file(4, 0, NO_ITEM);
        file(0, 0, NO_ITEM);
        file(LEAST, 0, NO_ITEM);
        file(GREATEST, 0, NO_ITEM);
        removeAll(2, 2);
        file(2, 0, NO_ITEM);
        file(3, 0, NO_ITEM);
        file(1, 0, 4);
    }

    private static void makeNeedsAFolder() {
        begin("make: NOT_FOLDER if it is a file");
        file(1, 0, 2);
        file(2, 0, NOT_FOLDER);
        folder(2, 255, NOT_FOLDER);
        extend(2, 1, 0);
        file(2, 0, NOT_FOLDER);
        items(1);
        remove(2, 0);
        file(2, 0, NO_ITEM);
    }

    private static void makeRefusesATakenName() {
        begin("make: NAME_TAKEN if an item with this parent has the name");
        file(1, 0, 2);
        folder(1, 255, 3);
        file(1, 128, 4);
        int[] taken = {0, 255, 128};
        for (int name : taken) {
            file(1, name, NAME_TAKEN);
            folder(1, name, NAME_TAKEN);
        }
        file(1, 1, 5);
        file(1, 254, 6);
        file(1, 127, 7);
        file(1, 129, 8);
        file(3, 0, 9);
        file(3, 255, 10);
        file(3, 128, 11);
        items(10);
    }

    private static void makeRefusesThe25thItem() {
        begin("make: NO_ROOM if 24 items besides the root are there");
        for (int n = 0; n < 24; n++) {
            items(n);
            file(1, n, n + 2);
        }
        file(1, 24, NO_ROOM);
        folder(1, 24, NO_ROOM);
        items(24);
        find(1, 24, NONE);
        remove(13, 0);
        folder(1, 24, 26);
        file(26, 24, NO_ROOM);
    }

    private static void makeRefusesThe61stIdentifier() {
        begin("make: NO_ROOM if 60 identifiers have been given");
        for (int item = 2; item <= 61; item++) {
            folder(1, item, item);
            removeAll(item, 1);
        }
        folder(1, 0, NO_ROOM);
        file(1, 255, NO_ROOM);
        items(0);
        entries(1, 0);
    }

    private static void makeWithBothLimitsReached() {
        begin("make: NO_ROOM if 24 items are there or 60 identifiers have been given");
        useUp(36);
        makeFilesFrom(37, 24);
        // 59 identifiers are given and 24 items there: one place is needed for the last identifier.
        file(1, 100, NO_ROOM);
        remove(37, 0);
        file(1, 100, 61);
        // Now 60 are given and 24 there: places do not help any more.
        file(1, 101, NO_ROOM);
        remove(61, 0);
        file(1, 101, NO_ROOM);
        remove(38, 0);
        file(1, 101, NO_ROOM);
        items(22);
    }

    private static void moveAnswers0IfNothingIsDifferent() {
        begin("move: answers 0 (also if nothing is different afterwards)");
        folder(1, 0, 2);
        file(2, 255, 3);
        folder(2, 0, 4);
        extend(3, 3, 0);
        move(2, 1, 0, 0);
        move(3, 2, 255, 0);
        move(4, 2, 0, 0);
        move(2, 1, 0, 0);
        find(1, 0, 2);
        find(2, 255, 3);
        find(2, 0, 4);
        entries(1, 1);
        entries(2, 2);
        blocks(3, 3);
        items(3);
    }

    private static void moveKeepsIdentifierExtentsAndAllBelow() {
        begin("move: its identifier, its extents and all below it stay");
        folder(1, 0, 2);
        folder(2, 1, 3);
        file(3, 2, 4);
        folder(1, 9, 5);
        for (int number = 0; number < 6; number++) {
            extend(4, 16, 16 * number);
        }
        move(2, 5, 255, 0);
        find(5, 255, 2);
        find(1, 0, NONE);
        parentOf(3, 2);
        nameOf(3, 1);
        parentOf(4, 3);
        nameOf(4, 2);
        move(4, 1, 0, 0);
        blocks(4, 96);
        blockAt(4, 0, 0);
        blockAt(4, 95, 95);
        extend(4, 1, NO_ROOM);
        shrink(4, 16);
        free(16);
        entries(3, 0);
        items(4);
        file(1, 100, 6);
    }

    private static void moveNeedsBothItems() {
        begin("move: NO_ITEM if item is not there; NO_ITEM if newParent is not there");
        file(1, 0, 2);
        folder(1, 1, 3);
        file(1, 2, 4);
        remove(4, 0);
        int[] absent = {LEAST, -1, 0, 4, 5, 61, 62, GREATEST};
        for (int item : absent) {
            move(item, 3, 0, NO_ITEM);
            move(item, item, 0, NO_ITEM);
            move(2, item, 0, NO_ITEM);
            move(3, item, 0, NO_ITEM);
        }
        move(2, 2, 0, NOT_FOLDER);
        move(3, 2, 0, NOT_FOLDER);
        move(2, 3, 0, 0);
        parentOf(2, 3);
    }

    private static void moveRefusesLoops() {
        begin("move: WOULD_LOOP if newParent is the item itself or lies below it");
        folder(1, 0, 2);
        folder(2, 1, 3);
        folder(3, 2, 4);
        folder(1, 3, 5);
        folder(5, 4, 6);
        move(2, 2, 0, WOULD_LOOP);
        move(2, 3, 0, WOULD_LOOP);
        move(2, 4, 0, WOULD_LOOP);
        move(4, 4, 2, WOULD_LOOP);
        // What lies beside or above is no loop, nor is the old parent.
        move(4, 3, 9, 0);
        move(4, 2, 9, 0);
        move(4, 1, 9, 0);
        move(4, 6, 9, 0);
        move(2, 4, 9, 0);
        move(5, 3, 9, WOULD_LOOP);
        move(6, 2, 9, WOULD_LOOP);
        move(6, 1, 9, 0);
        move(5, 3, 9, 0);
        parentOf(5, 3);
        removeAll(6, 5);
    }

    private static void moveRefusesNamesOfOthersOnly() {
        begin("move: NAME_TAKEN if an item other than this one has the parent newParent and the name newName");
        folder(1, 0, 2);
        file(1, 255, 3);
        file(2, 7, 4);
        move(3, 1, 0, NAME_TAKEN);
        move(2, 1, 255, NAME_TAKEN);
        move(4, 1, 0, NAME_TAKEN);
        move(4, 1, 255, NAME_TAKEN);
        move(3, 2, 7, NAME_TAKEN);
        move(3, 1, 255, 0);
        move(3, 1, 254, 0);
        move(2, 1, 255, 0);
        move(3, 2, 255, 0);
        move(4, 2, 255, NAME_TAKEN);
        move(4, 1, 255, NAME_TAKEN);
        move(4, 1, 254, 0);
        // The item's own old name is no hindrance in the new parent, nor its new name in the old one.
        move(3, 1, 0, 0);
        nameOf(2, 255);
        nameOf(3, 0);
        nameOf(4, 254);
        entries(1, 3);
        entries(2, 0);
    }

    private static void moveIsNotHinderedByFullness() {
        begin("move: no refusal for want of room");
        folder(1, 255, 2);
        makeFilesFrom(3, 23);
        items(24);
        move(3, 2, 0, 0);
        move(4, 1, 254, 0);
        items(24);
        fresh();
        useUp(59);
        folder(1, 0, 60);
        file(1, 1, 61);
        move(61, 60, 0, 0);
        parentOf(61, 60);
        file(1, 1, NO_ROOM);
    }

    private static void removeRefusesAFolderWithOneItem() {
        begin("remove: NOT_EMPTY if some item has it as parent");
        folder(1, 0, 2);
        remove(2, 0);
        folder(1, 0, 3);
        file(3, 0, 4);
        remove(3, NOT_EMPTY);
        kindOf(3, 2);
        kindOf(4, 1);
        remove(4, 0);
        remove(3, 0);
        folder(1, 0, 5);
        folder(5, 255, 6);
        remove(5, NOT_EMPTY);
        move(6, 1, 255, 0);
        remove(5, 0);
        folder(6, 0, 7);
        folder(7, 0, 8);
        remove(6, NOT_EMPTY);
        removeAll(7, 2);
        remove(6, 0);
        items(0);
        fresh();
        folder(1, 255, 2);
        makeFilesFrom(3, 23);
        for (int n = 0; n < 23; n++) {
            move(n + 3, 2, n, 0);
        }
        for (int n = 0; n < 23; n++) {
            remove(2, NOT_EMPTY);
            remove(n + 3, 0);
        }
        remove(2, 0);
    }

    private static void removeFreesAllBlocksOfAFile() {
        begin("remove: the blocks of a file become free");
        makeFiles(3);
        for (int number = 0; number < 6; number++) {
            extend(2, 8, 16 * number);
            extend(3, 8, 16 * number + 8);
        }
        free(0);
        remove(2, 0);
        free(48);
        blocks(3, 48);
        extend(4, 9, NO_SPACE);
        for (int number = 0; number < 6; number++) {
            extend(4, 8, 16 * number);
        }
        remove(4, 0);
        remove(3, 0);
        free(96);
        file(1, 0, 5);
        remove(5, 0);
        free(96);
    }

    private static void removeFreesNoBlocksOfOthers() {
        begin("remove, removeAll, shrink: only the blocks of the items removed become free");
        // Files with six extents and items without any take turns.
        for (int item = 2; item <= 9; item++) {
            make(1, item, item == 5, item);
        }
        for (int item = 2; item <= 8; item += 2) {
            for (int number = 0; number < 6; number++) {
                extend(item, 4, 12 * (item - 2) + 4 * number);
            }
        }
        free(0);
        remove(3, 0);
        removeAll(5, 1);
        shrink(7, NONE);
        remove(7, 0);
        removeAll(9, 1);
        free(0);
        remove(4, 0);
        free(24);
        for (int index = 0; index < 24; index++) {
            blockAt(2, index, index);
            blockAt(6, index, index + 48);
            blockAt(8, index, index + 72);
        }
    }

    private static void removeAllCountsTheItemItself() {
        begin("removeAll: answers how many items were removed (the item itself counts)");
        file(1, 0, 2);
        removeAll(2, 1);
        folder(1, 0, 3);
        removeAll(3, 1);
        folder(1, 0, 4);
        file(4, 0, 5);
        removeAll(4, 2);
        removeAll(4, NO_ITEM);
        removeAll(5, NO_ITEM);
        fresh();
        makeChain(24);
        removeAll(25, 1);
        removeAll(2, 23);
        items(0);
        fresh();
        folder(1, 255, 2);
        for (int n = 0; n < 23; n++) {
            file(2, n, n + 3);
        }
        removeAll(2, 24);
        items(0);
        for (int item = 2; item <= 25; item++) {
            kindOf(item, 0);
        }
        entries(1, 0);
    }

    private static void removeAllTakesWhatLiesBelowAndNothingElse() {
        begin("removeAll: removes a folder or file and everything below it");
        folder(1, 0, 2);
        folder(1, 1, 3);
        file(2, 0, 4);
        file(3, 0, 5);
        folder(3, 1, 6);
        file(6, 0, 7);
        // Below 6 there are now also items that were made before it.
        move(2, 6, 1, 0);
        removeAll(6, 4);
        kindOf(2, 0);
        kindOf(4, 0);
        kindOf(6, 0);
        kindOf(7, 0);
        kindOf(3, 2);
        kindOf(5, 1);
        find(3, 0, 5);
        find(3, 1, NONE);
        entries(3, 1);
        items(2);
        removeAll(5, 1);
        kindOf(3, 2);
        removeAll(3, 1);
        items(0);
    }

    private static void removeAllFreesTheBlocksOfAll() {
        begin("removeAll: their blocks become free");
        folder(1, 255, 2);
        folder(2, 255, 3);
        for (int n = 0; n < 8; n++) {
            file(n % 2 == 0 ? 2 : 3, n, n + 4);
            extend(n + 4, 10, 10 * n);
        }
        file(1, 0, 12);
        extend(12, 16, 80);
        free(0);
        removeAll(3, 5);
        free(40);
        removeAll(2, 5);
        free(80);
        blocks(12, 16);
        blockAt(12, 15, 95);
        extend(12, 32, 0);
        removeAll(12, 1);
        free(96);
    }

    // Promises 6 and 7.

    private static void extendTakesLengths1To32() {
        begin("extend: a length from 1 to 32 is accepted");
        for (int length = 1; length <= 32; length++) {
            fresh();
            makeFiles(1);
            extend(2, length, 0);
            blocks(2, length);
            blockAt(2, length - 1, length - 1);
            blockAt(2, length, NONE);
            free(96 - length);
            extend(2, length, length);
            shrink(2, length);
            shrink(2, length);
            free(96);
        }
    }

    private static void extendRefusesOtherLengths() {
        begin("extend: BAD_LENGTH if length is not from 1 to 32");
        makeFiles(1);
        for (int length : BAD_LENGTHS) {
            extend(2, length, BAD_LENGTH);
        }
        blocks(2, 0);
        free(96);
        shrink(2, NONE);
        extend(2, 32, 0);
        for (int length : BAD_LENGTHS) {
            extend(2, length, BAD_LENGTH);
        }
        blocks(2, 32);
        free(64);
    }

    private static void extendTakesTheLeastFirstBlock() {
        begin("extend: it gets the least first block b such that .. all free");
        fillDiskInTwelves();
        shrink(8, 12);
        shrink(6, 12);
        shrink(3, 12);
        shrink(2, 12);
        // Free are 0 to 23, 48 to 59 and 72 to 83.
        extend(2, 1, 0);
        extend(3, 12, 1);
        extend(2, 12, 48);
        extend(3, 11, 13);
        extend(2, 11, 72);
        extend(3, 1, 83);
        extend(2, 1, NO_SPACE);
        free(0);
    }

    private static void extendTakesAGapOfJustTheLength() {
        begin("extend: the blocks b to b + length - 1 are all free");
        for (int item = 2; item <= 9; item++) {
            fresh();
            fillDiskInTwelves();
            file(1, 100, 10);
            shrink(item, 12);
            extend(10, 13, NO_SPACE);
            extend(10, 12, (item - 2) * 12);
            extend(10, 1, NO_SPACE);
            shrink(10, 12);
            extend(10, 11, (item - 2) * 12);
            extend(10, 2, NO_SPACE);
            extend(10, 1, (item - 2) * 12 + 11);
            free(0);
        }
    }

    private static void extendStaysWithinTheBlocks() {
        begin("extend: the blocks b to b + length - 1 are all blocks");
        for (int rest = 1; rest < 32; rest++) {
            fresh();
            makeFiles(2);
            extend(2, 32, 0);
            extend(2, 32, 32);
            extend(2, 32 - rest, 64);
            free(rest);
            extend(3, rest + 1, NO_SPACE);
            extend(3, 32, NO_SPACE);
            extend(3, rest, 96 - rest);
            blockAt(3, rest - 1, 95);
            free(0);
        }
    }

    private static void extendDoesNotJoinTheEndsOfTheDisk() {
        begin("extend: block 0 does not follow block 95");
        makeFiles(5);
        extend(2, 1, 0);
        extend(3, 32, 1);
        extend(3, 32, 33);
        extend(3, 30, 65);
        extend(4, 1, 95);
        shrink(2, 1);
        shrink(4, 1);
        free(2);
        extend(5, 2, NO_SPACE);
        extend(5, 1, 0);
        extend(5, 1, 95);
        blocks(5, 2);
        blockAt(5, 0, 0);
        blockAt(5, 1, 95);
        free(0);
    }

    private static void extendNeedsOneRunOfFreeBlocks() {
        begin("extend: NO_SPACE if there is no such b");
        makeFiles(17);
        // Files 2 to 9 get the even blocks, files 10 to 17 the odd ones.
        for (int pair = 0; pair < 48; pair++) {
            extend(2 + pair / 6, 1, 2 * pair);
            extend(10 + pair / 6, 1, 2 * pair + 1);
        }
        for (int item = 10; item <= 17; item++) {
            remove(item, 0);
        }
        free(48);
        for (int length = 2; length <= 32; length++) {
            extend(18, length, NO_SPACE);
        }
        free(48);
        blocks(18, 0);
        extend(18, 1, 1);
        remove(9, 0);
        // The blocks 84, 86, .. 94 of file 9 joined their neighbours: 83 to 95 is one run.
        extend(18, 14, NO_SPACE);
        extend(18, 13, 83);
        extend(18, 2, NO_SPACE);
        free(40);
    }

    private static void extendJoinsRunsThatBecameFree() {
        begin("extend: free blocks of different files make one run");
        fillDiskInTwelves();
        file(1, 100, 10);
        shrink(4, 12);
        remove(6, 0);
        extend(10, 13, NO_SPACE);
        removeAll(5, 1);
        extend(10, 32, 24);
        extend(10, 5, NO_SPACE);
        extend(10, 4, 56);
        free(0);
    }

    private static void extendFillsTheDiskWithEveryLength() {
        begin("extend: every length fills the disk from block 0 on");
        for (int length = 1; length <= 32; length++) {
            fresh();
            makeFiles(17);
            int count = 96 / length;
            for (int number = 0; number < count; number++) {
                extend(2 + number / 6, length, number * length);
            }
            extend(18, length, NO_SPACE);
            free(96 - count * length);
        }
    }

    private static void extendRefusesTheSeventhExtent() {
        begin("extend: NO_ROOM if the file has 6 extents");
        makeFiles(2);
        for (int number = 0; number < 6; number++) {
            extend(2, 1, number);
        }
        extend(2, 1, NO_ROOM);
        extend(2, 32, NO_ROOM);
        extend(3, 32, 6);
        free(58);
        shrink(2, 1);
        shrink(2, 1);
        extend(2, 2, 4);
        extend(2, 1, 38);
        extend(2, 1, NO_ROOM);
    }

    private static void extendRefusesAFullDisk() {
        begin("extend: NO_SPACE on a full disk");
        fillDisk();
        for (int length = 1; length <= 32; length++) {
            extend(2, length, NO_SPACE);
        }
        blocks(2, 0);
        blocks(3, 32);
        blocks(4, 64);
        free(0);
        shrink(4, 32);
        extend(2, 32, 64);
        extend(2, 1, NO_SPACE);
    }

    private static void extendNeedsAFile() {
        begin("extend: NO_ITEM; NOT_FILE if item is a folder");
        extend(2, 1, NO_ITEM);
        extend(1, 1, NOT_FILE);
        folder(1, 0, 2);
        extend(2, 1, NOT_FILE);
        extend(2, 32, NOT_FILE);
        file(2, 0, 3);
        extend(2, 1, NOT_FILE);
        free(96);
        extend(3, 1, 0);
        remove(3, 0);
        extend(3, 1, NO_ITEM);
        free(96);
    }

    private static void shrinkTakesTheExtentAddedLast() {
        begin("shrink: removes the last extent (the one with the greatest number); its blocks become free");
        makeFiles(2);
        extend(2, 1, 0);
        extend(3, 32, 1);
        extend(2, 32, 33);
        extend(2, 31, 65);
        shrink(3, 32);
        // The greatest number is not the greatest block.
        extend(2, 30, 1);
        shrink(2, 30);
        free(32);
        shrink(2, 31);
        free(63);
        shrink(2, 32);
        free(95);
        blocks(2, 1);
        shrink(2, 1);
        free(96);
        // Extents side by side stay apart.
        for (int length = 1; length <= 6; length++) {
            extend(2, length, length * (length - 1) / 2);
        }
        for (int length = 6; length >= 1; length--) {
            shrink(2, length);
            free(96 - length * (length - 1) / 2);
        }
    }

    private static void shrinkRefusesAFileWithoutExtents() {
        begin("shrink: NONE if the file has no extent");
        makeFiles(2);
        shrink(2, NONE);
        extend(2, 1, 0);
        extend(3, 1, 1);
        shrink(2, 1);
        shrink(2, NONE);
        shrink(2, NONE);
        blocks(3, 1);
        free(95);
        extend(2, 1, 0);
    }

    private static void shrinkNeedsAFile() {
        begin("shrink: NO_ITEM; NOT_FILE");
        shrink(1, NOT_FILE);
        shrink(2, NO_ITEM);
        folder(1, 0, 2);
        shrink(2, NOT_FILE);
        file(2, 0, 3);
        extend(3, 1, 0);
        shrink(2, NOT_FILE);
        remove(3, 0);
        shrink(3, NO_ITEM);
        free(96);
    }

    // Promises 8 to 17.

    private static void findAnswersNoneForANameNotThere() {
        begin("find: NONE if there is no such item");
        find(1, 0, NONE);
        find(1, 255, NONE);
        folder(1, 0, 2);
        file(1, 255, 3);
        file(2, 128, 4);
        find(1, 0, 2);
        find(1, 1, NONE);
        find(1, 254, NONE);
        find(1, 255, 3);
        find(1, 128, NONE);
        find(2, 128, 4);
        find(2, 0, NONE);
        find(2, 255, NONE);
        remove(3, 0);
        find(1, 255, NONE);
        fresh();
        makeFiles(24);
        for (int name = 0; name <= 255; name++) {
            find(1, name, name < 24 ? name + 2 : NONE);
        }
    }

    private static void findNeedsAFolder() {
        begin("find: NO_ITEM if parent is not there; NOT_FOLDER");
        find(2, 0, NO_ITEM);
        file(1, 0, 2);
        find(2, 0, NOT_FOLDER);
        find(2, 255, NOT_FOLDER);
        remove(2, 0);
        find(2, 0, NO_ITEM);
        find(0, 0, NO_ITEM);
        find(LEAST, 0, NO_ITEM);
        find(GREATEST, 0, NO_ITEM);
    }

    private static void entryPositionsOfAnEmptyFolder() {
        begin("entry: NONE if position is negative or there are not so many (an empty folder)");
        int[] positions = {LEAST, LEAST + 1, -1, 0, 1, 24, 256, GREATEST};
        for (int position : positions) {
            entry(1, position, NONE);
        }
        folder(1, 0, 2);
        for (int position : positions) {
            entry(2, position, NONE);
        }
        file(2, 0, 3);
        entry(2, -1, NONE);
        entry(2, 0, 3);
        entry(2, 1, NONE);
        remove(3, 0);
        entry(2, 0, NONE);
    }

    private static void entryPositionsOfAFullFolder() {
        begin("entry: NONE if position is negative or there are not so many (a full folder)");
        makeFiles(24);
        for (int position = 0; position < 24; position++) {
            entry(1, position, position + 2);
        }
        int[] outside = {LEAST, LEAST + 1, -24, -2, -1, 24, 25, 26, 61, 255, 256, 257, 65536, GREATEST - 1, GREATEST};
        for (int position : outside) {
            entry(1, position, NONE);
        }
        remove(25, 0);
        entry(1, 22, 24);
        entry(1, 23, NONE);
        remove(2, 0);
        entry(1, 0, 3);
        entry(1, 21, 24);
        entry(1, 22, NONE);
    }

    private static void entryFollowsNamesNotIdentifiers() {
        begin("entry: position 0 is the item with the least name, 1 the next, and so on");
        TreeMap<Integer, Integer> byName = new TreeMap<>();
        for (int n = 0; n < 24; n++) {
            int name = n == 0 ? 255 : n == 23 ? 0 : n * 67 % 255;
            make(1, name, n % 3 == 0, n + 2);
            byName.put(name, n + 2);
        }
        int position = 0;
        for (int item : byName.values()) {
            entry(1, position, item);
            position++;
        }
        entry(1, 24, NONE);
        // Renamed from the least to the greatest but one.
        move(25, 1, 254, 0);
        entry(1, 22, 25);
        entry(1, 23, 2);
        entry(1, 0, byName.get(byName.higherKey(0)));
    }

    private static void entryNeedsAFolder() {
        begin("entry: NO_ITEM; NOT_FOLDER");
        entry(2, 0, NO_ITEM);
        file(1, 0, 2);
        entry(2, 0, NOT_FOLDER);
        entry(2, GREATEST, NOT_FOLDER);
        remove(2, 0);
        entry(2, 0, NO_ITEM);
        entry(0, 0, NO_ITEM);
        entry(LEAST, 0, NO_ITEM);
        entry(GREATEST, 0, NO_ITEM);
    }

    private static void entriesFrom0To24() {
        begin("entries: how many items have the folder as parent");
        for (int n = 0; n < 24; n++) {
            entries(1, n);
            file(1, n == 0 ? 255 : n - 1, n + 2);
        }
        entries(1, 24);
        file(1, 100, NO_ROOM);
        entries(1, 24);
        for (int n = 23; n >= 0; n--) {
            remove(n + 2, 0);
            entries(1, n);
        }
        fresh();
        // What lies deeper does not count.
        makeChain(24);
        for (int item = 1; item <= 24; item++) {
            entries(item, 1);
        }
        entries(25, 0);
    }

    private static void entriesNeedsAFolder() {
        begin("entries: NO_ITEM; NOT_FOLDER");
        entries(2, NO_ITEM);
        file(1, 0, 2);
        entries(2, NOT_FOLDER);
        remove(2, 0);
        entries(2, NO_ITEM);
        entries(0, NO_ITEM);
        entries(LEAST, NO_ITEM);
        entries(GREATEST, NO_ITEM);
    }

    private static void parentOfRefusesTheRoot() {
        begin("parentOf: NO_ITEM; IS_ROOT");
        parentOf(0, NO_ITEM);
        parentOf(1, IS_ROOT);
        parentOf(2, NO_ITEM);
        makeChain(24);
        parentOf(1, IS_ROOT);
        for (int item = 2; item <= 25; item++) {
            parentOf(item, item - 1);
        }
        parentOf(26, NO_ITEM);
        parentOf(LEAST, NO_ITEM);
        parentOf(GREATEST, NO_ITEM);
        remove(25, 0);
        parentOf(25, NO_ITEM);
    }

    private static void nameOfRefusesTheRoot() {
        begin("nameOf: NO_ITEM; IS_ROOT");
        nameOf(0, NO_ITEM);
        nameOf(1, IS_ROOT);
        nameOf(2, NO_ITEM);
        folder(1, 0, 2);
        file(1, 255, 3);
        nameOf(1, IS_ROOT);
        nameOf(2, 0);
        nameOf(3, 255);
        nameOf(4, NO_ITEM);
        nameOf(LEAST, NO_ITEM);
        nameOf(GREATEST, NO_ITEM);
        remove(3, 0);
        nameOf(3, NO_ITEM);
    }

    private static void kindOfAnswers0IfNotThere() {
        begin("kindOf: 2 for a folder, 1 for a file, 0 if item is not there");
        for (int item : NEVER_IDENTIFIERS) {
            kindOf(item, 0);
        }
        kindOf(1, 2);
        kindOf(2, 0);
        folder(1, 0, 2);
        file(1, 1, 3);
        kindOf(2, 2);
        kindOf(3, 1);
        kindOf(4, 0);
        remove(2, 0);
        kindOf(2, 0);
        kindOf(3, 1);
        removeAll(3, 1);
        kindOf(3, 0);
        for (int item : NEVER_IDENTIFIERS) {
            kindOf(item, 0);
        }
    }

    private static void itemsFrom0To24() {
        begin("items: how many items are there besides the root");
        for (int n = 0; n < 24; n++) {
            items(n);
            make(1, n, n % 2 == 0, n + 2);
        }
        items(24);
        file(1, 24, NO_ROOM);
        items(24);
        move(3, 2, 0, 0);
        items(24);
        remove(2, NOT_EMPTY);
        items(24);
        removeAll(2, 2);
        items(22);
        for (int n = 21; n >= 0; n--) {
            remove(25 - n, 0);
            items(n);
        }
        remove(25, NO_ITEM);
        items(0);
    }

    private static void blocksFrom0To96() {
        begin("blocks: the sum of the lengths of its extents");
        makeFiles(2);
        blocks(2, 0);
        extend(2, 32, 0);
        blocks(2, 32);
        extend(2, 32, 32);
        blocks(2, 64);
        extend(2, 31, 64);
        blocks(2, 95);
        extend(2, 1, 95);
        blocks(2, 96);
        extend(2, 1, NO_SPACE);
        blocks(2, 96);
        blocks(3, 0);
        shrink(2, 1);
        blocks(2, 95);
        extend(3, 1, 95);
        blocks(3, 1);
        shrink(2, 31);
        shrink(2, 32);
        shrink(2, 32);
        blocks(2, 0);
        blocks(3, 1);
    }

    private static void blocksNeedsAFile() {
        begin("blocks: NO_ITEM; NOT_FILE");
        blocks(1, NOT_FILE);
        blocks(2, NO_ITEM);
        folder(1, 0, 2);
        blocks(2, NOT_FILE);
        file(2, 0, 3);
        extend(3, 1, 0);
        blocks(2, NOT_FILE);
        remove(3, 0);
        blocks(3, NO_ITEM);
        blocks(0, NO_ITEM);
        blocks(LEAST, NO_ITEM);
        blocks(GREATEST, NO_ITEM);
    }

    private static void blockAtIndexesOfAFileWithoutExtents() {
        begin("blockAt: NONE if index is .. not below blocks(item) (a file without extents)");
        makeFiles(3);
        extend(2, 6, 0);
        extend(4, 6, 6);
        int[] indexes = {LEAST, -1, 0, 1, 6, 96, GREATEST};
        for (int index : indexes) {
            blockAt(3, index, NONE);
        }
        extend(3, 1, 12);
        blockAt(3, 0, 12);
        shrink(3, 1);
        for (int index : indexes) {
            blockAt(3, index, NONE);
        }
    }

    private static void blockAtIndexesAtTheEdgesOfExtents() {
        begin("blockAt: the blocks of extent 0 come first, in ascending order, then those of extent 1");
        makeFiles(3);
        // The file has 95, then 0 to 31, then 64 to 93: from the last block to the first and on.
        extend(3, 32, 0);
        extend(4, 32, 32);
        extend(4, 31, 64);
        extend(2, 1, 95);
        shrink(3, 32);
        extend(2, 32, 0);
        shrink(4, 31);
        extend(2, 30, 64);
        blocks(2, 63);
        blockAt(2, -1, NONE);
        blockAt(2, 0, 95);
        for (int index = 1; index <= 32; index++) {
            blockAt(2, index, index - 1);
        }
        for (int index = 33; index <= 62; index++) {
            blockAt(2, index, index + 31);
        }
        blockAt(2, 63, NONE);
        // All six extents, each of another length.
        extend(2, 1, 94);
        shrink(4, 32);
        extend(2, 32, 32);
        shrink(2, 32);
        extend(2, 5, 32);
        extend(2, 4, 37);
        blockAt(2, 63, 94);
        blockAt(2, 64, 32);
        blockAt(2, 68, 36);
        blockAt(2, 69, 37);
        blockAt(2, 72, 40);
        blockAt(2, 73, NONE);
    }

    private static void blockAtRefusesIndexesOutside() {
        begin("blockAt: NONE if index is negative or not below blocks(item)");
        makeFiles(1);
        for (int number = 0; number < 6; number++) {
            extend(2, 16, 16 * number);
        }
        for (int index = 0; index < 96; index++) {
            blockAt(2, index, index);
        }
        int[] outside = {LEAST, LEAST + 1, LEAST + 96, -96, -16, -2, -1, 96, 97, 112, 256, 65536,
            GREATEST - 1, GREATEST};
        for (int index : outside) {
            blockAt(2, index, NONE);
        }
        shrink(2, 16);
        blockAt(2, 79, 79);
        blockAt(2, 80, NONE);
        blockAt(2, 95, NONE);
    }

    private static void blockAtNeedsAFile() {
        begin("blockAt: NO_ITEM; NOT_FILE");
        blockAt(1, 0, NOT_FILE);
        blockAt(2, 0, NO_ITEM);
        folder(1, 0, 2);
        blockAt(2, 0, NOT_FILE);
        file(2, 0, 3);
        extend(3, 1, 0);
        blockAt(2, 0, NOT_FILE);
        blockAt(3, 0, 0);
        remove(3, 0);
        blockAt(3, 0, NO_ITEM);
        blockAt(0, 0, NO_ITEM);
        blockAt(LEAST, 0, NO_ITEM);
        blockAt(GREATEST, 0, NO_ITEM);
    }

    private static void freeFrom0To96() {
        begin("free: how many blocks are free");
        free(96);
        makeFiles(16);
        free(96);
        for (int block = 0; block < 96; block++) {
            extend(2 + block / 6, 1, block);
            free(95 - block);
        }
        extend(17, 1, NO_ROOM);
        free(0);
        for (int block = 95; block >= 48; block--) {
            shrink(2 + block / 6, 1);
            free(96 - block);
        }
        for (int item = 2; item <= 9; item++) {
            remove(item, 0);
            free(48 + 6 * (item - 1));
        }
        free(96);
    }
}
