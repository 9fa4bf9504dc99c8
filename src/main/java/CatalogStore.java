/**
 * The names of a small file system: folders and files with identifiers, parents and names, and
 * files that own runs of blocks.
 */
public final class CatalogStore {
    public static final int NO_ITEM = -1;
    public static final int NOT_FOLDER = -2;
    public static final int BAD_NAME = -3;
    public static final int NAME_TAKEN = -4;
    public static final int NO_ROOM = -5;
    public static final int IS_ROOT = -6;
    public static final int WOULD_LOOP = -7;
    public static final int NOT_EMPTY = -8;
    public static final int NOT_FILE = -9;
    public static final int BAD_LENGTH = -10;
    public static final int NO_SPACE = -11;
    public static final int NONE = -12;

    private static final int ACCEPTED = 0;

    private static final int ABSENT = 0;
    private static final int FILE = 1;
    private static final int FOLDER = 2;

    private static final int NOBODY = 0;
    private static final int ROOT = 1;
    private static final int FIRST_NEW = 2;
    private static final int LAST_NEW = 61;
    private static final int MOST_ITEMS = 24;
    private static final int GREATEST_NAME = 255;

    private static final int BLOCK_COUNT = 96;
    private static final int MOST_EXTENTS = 6;
    private static final int GREATEST_LENGTH = 32;

    private static final int ITEM_SLOTS = 62;
    private static final int EXTENT_SLOTS = 372;

    // An identifier is never given twice and there are few, so it is itself the index of its item.
    private final int[] kinds = new int[ITEM_SLOTS];
    private final int[] parents = new int[ITEM_SLOTS];
    private final int[] names = new int[ITEM_SLOTS];
    private final int[] extentCounts = new int[ITEM_SLOTS];

    // The extents of an item stand from item * MOST_EXTENTS on.
    private final int[] extentFirsts = new int[EXTENT_SLOTS];
    private final int[] extentLengths = new int[EXTENT_SLOTS];

    private final boolean[] usedBlocks = new boolean[BLOCK_COUNT];
    private final boolean[] doomed = new boolean[ITEM_SLOTS];

    private int nextIdentifier = FIRST_NEW;
    private int itemCount = 0;

    public CatalogStore() {
        kinds[ROOT] = FOLDER;
    }

    public int make(int parent, int name, boolean folder) {
        int refusal = refusalOfPlace(parent, name);
        if (refusal != ACCEPTED) {
            return refusal;
        }
        if (childNamed(parent, name) != NOBODY) {
            return NAME_TAKEN;
        }
        if (itemCount >= MOST_ITEMS || nextIdentifier > LAST_NEW) {
            return NO_ROOM;
        }
        int item = nextIdentifier;
        nextIdentifier++;
        itemCount++;
        kinds[item] = folder ? FOLDER : FILE;
        parents[item] = parent;
        names[item] = name;
        return item;
    }

    public int move(int item, int newParent, int newName) {
        int refusal = refusalAsNonRoot(item);
        if (refusal != ACCEPTED) {
            return refusal;
        }
        refusal = refusalOfPlace(newParent, newName);
        if (refusal != ACCEPTED) {
            return refusal;
        }
        if (isWithin(newParent, item)) {
            return WOULD_LOOP;
        }
        int holder = childNamed(newParent, newName);
        if (holder != NOBODY && holder != item) {
            return NAME_TAKEN;
        }
        parents[item] = newParent;
        names[item] = newName;
        return 0;
    }

    public int remove(int item) {
        int refusal = refusalAsNonRoot(item);
        if (refusal != ACCEPTED) {
            return refusal;
        }
        if (childCount(item) > 0) {
            return NOT_EMPTY;
        }
        discard(item);
        return 0;
    }

    public int removeAll(int item) {
        int refusal = refusalAsNonRoot(item);
        if (refusal != ACCEPTED) {
            return refusal;
        }
        markAllWithin(item);
        return discardMarked();
    }

    public int extend(int item, int length) {
        int refusal = refusalAsFile(item);
        if (refusal != ACCEPTED) {
            return refusal;
        }
        if (length < 1 || length > GREATEST_LENGTH) {
            return BAD_LENGTH;
        }
        if (extentCounts[item] >= MOST_EXTENTS) {
            return NO_ROOM;
        }
        int first = firstFreeRun(length);
        if (first == NO_SPACE) {
            return NO_SPACE;
        }
        addExtent(item, first, length);
        return first;
    }

    public int shrink(int item) {
        int refusal = refusalAsFile(item);
        if (refusal != ACCEPTED) {
            return refusal;
        }
        if (extentCounts[item] == 0) {
            return NONE;
        }
        return dropLastExtent(item);
    }

    public int find(int parent, int name) {
        int refusal = refusalOfPlace(parent, name);
        if (refusal != ACCEPTED) {
            return refusal;
        }
        int item = childNamed(parent, name);
        return item == NOBODY ? NONE : item;
    }

    public int entry(int parent, int position) {
        int refusal = refusalAsFolder(parent);
        if (refusal != ACCEPTED) {
            return refusal;
        }
        for (int item = FIRST_NEW; item <= LAST_NEW; item++) {
            if (isChild(item, parent)) {
                int before = childrenNamedBelow(parent, names[item]);
                if (before == position) {
                    return item;
                }
            }
        }
        return NONE;
    }

    public int entries(int parent) {
        int refusal = refusalAsFolder(parent);
        return refusal != ACCEPTED ? refusal : childCount(parent);
    }

    public int parentOf(int item) {
        int refusal = refusalAsNonRoot(item);
        return refusal != ACCEPTED ? refusal : parents[item];
    }

    public int nameOf(int item) {
        int refusal = refusalAsNonRoot(item);
        return refusal != ACCEPTED ? refusal : names[item];
    }

    public int kindOf(int item) {
        return isThere(item) ? kinds[item] : ABSENT;
    }

    public int items() {
        return itemCount;
    }

    public int blocks(int item) {
        int refusal = refusalAsFile(item);
        if (refusal != ACCEPTED) {
            return refusal;
        }
        int sum = 0;
        for (int number = 0; number < extentCounts[item]; number++) {
            sum += extentLengths[item * MOST_EXTENTS + number];
        }
        return sum;
    }

    public int blockAt(int item, int index) {
        int refusal = refusalAsFile(item);
        if (refusal != ACCEPTED) {
            return refusal;
        }
        if (index < 0) {
            return NONE;
        }
        int rest = index;
        for (int number = 0; number < extentCounts[item]; number++) {
            int slot = item * MOST_EXTENTS + number;
            if (rest < extentLengths[slot]) {
                return extentFirsts[slot] + rest;
            }
            rest -= extentLengths[slot];
        }
        return NONE;
    }

    public int free() {
        int count = 0;
        for (int block = 0; block < BLOCK_COUNT; block++) {
            if (!usedBlocks[block]) {
                count++;
            }
        }
        return count;
    }

    private boolean isThere(int item) {
        return item >= ROOT && item <= LAST_NEW && kinds[item] != ABSENT;
    }

    private int refusalAsFolder(int item) {
        if (!isThere(item)) {
            return NO_ITEM;
        }
        return kinds[item] == FOLDER ? ACCEPTED : NOT_FOLDER;
    }

    private int refusalAsFile(int item) {
        if (!isThere(item)) {
            return NO_ITEM;
        }
        return kinds[item] == FILE ? ACCEPTED : NOT_FILE;
    }

    private int refusalAsNonRoot(int item) {
        if (!isThere(item)) {
            return NO_ITEM;
        }
        return item == ROOT ? IS_ROOT : ACCEPTED;
    }

    private int refusalOfPlace(int parent, int name) {
        int refusal = refusalAsFolder(parent);
        if (refusal != ACCEPTED) {
            return refusal;
        }
        return name >= 0 && name <= GREATEST_NAME ? ACCEPTED : BAD_NAME;
    }

    private boolean isChild(int item, int folder) {
        return kinds[item] != ABSENT && parents[item] == folder;
    }

    private int childNamed(int folder, int name) {
        for (int item = FIRST_NEW; item <= LAST_NEW; item++) {
            if (isChild(item, folder) && names[item] == name) {
                return item;
            }
        }
        return NOBODY;
    }

    private int childrenNamedBelow(int folder, int name) {
        int count = 0;
        for (int item = FIRST_NEW; item <= LAST_NEW; item++) {
            if (isChild(item, folder) && names[item] < name) {
                count++;
            }
        }
        return count;
    }

    private int childCount(int folder) {
        // Every name is below this one, so every child counts.
        return childrenNamedBelow(folder, GREATEST_NAME + 1);
    }

    /** Whether the item is the top itself or lies below it. */
    private boolean isWithin(int item, int top) {
        int at = item;
        // A way up meets no item twice, so it is never longer than the number of slots.
        for (int step = 0; step < ITEM_SLOTS && at != NOBODY; step++) {
            if (at == top) {
                return true;
            }
            at = parents[at];
        }
        return false;
    }

    // All marks are set before anything is discarded: discarding cuts the ways up to the top.
    private void markAllWithin(int top) {
        for (int item = FIRST_NEW; item <= LAST_NEW; item++) {
            doomed[item] = kinds[item] != ABSENT && isWithin(item, top);
        }
    }

    private int discardMarked() {
        int count = 0;
        for (int item = FIRST_NEW; item <= LAST_NEW; item++) {
            if (doomed[item]) {
                discard(item);
                count++;
            }
        }
        return count;
    }

    private void discard(int item) {
        for (int number = 0; number < MOST_EXTENTS; number++) {
            if (extentCounts[item] > 0) {
                dropLastExtent(item);
            }
        }
        kinds[item] = ABSENT;
        parents[item] = NOBODY;
        names[item] = 0;
        itemCount--;
    }

    private int firstFreeRun(int length) {
        int run = 0;
        for (int block = 0; block < BLOCK_COUNT; block++) {
            run = usedBlocks[block] ? 0 : run + 1;
            if (run == length) {
                return block - length + 1;
            }
        }
        return NO_SPACE;
    }

    private void addExtent(int item, int first, int length) {
        int slot = item * MOST_EXTENTS + extentCounts[item];
        extentFirsts[slot] = first;
        extentLengths[slot] = length;
        extentCounts[item]++;
        setUsed(first, length, true);
    }

    private int dropLastExtent(int item) {
        extentCounts[item]--;
        int slot = item * MOST_EXTENTS + extentCounts[item];
        setUsed(extentFirsts[slot], extentLengths[slot], false);
        return extentLengths[slot];
    }

    private void setUsed(int first, int length, boolean used) {
        for (int offset = 0; offset < length; offset++) {
            usedBlocks[first + offset] = used;
        }
    }
}
