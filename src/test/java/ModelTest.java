import java.util.ArrayList;
import java.util.List;
import java.util.Map;
import java.util.TreeMap;

/** Runs of mixed calls, the same on every start, answered by the class and by a plain model. */
public final class ModelTest {
    private static final int OBJECTS = 6000;
    // What is left of the 512 promised calls goes into looking at the whole state at the end.
    private static final int MIXED_CALLS = 210;
    private static final int PROMISED_CALLS = 512;
    private static final int REPORTS = 20;

    private static int wrong = 0;

    private long state;
    private final int run;
    private final int reach;
    private int calls = 0;
    private final CatalogStore real = new CatalogStore();
    private final Model model = new Model();

    private ModelTest(int run) {
        this.run = run;
        this.state = run * 7919L + 17;
        // A small reach makes names collide, a great one lets folders fill up.
        this.reach = run % 3 == 0 ? 3 : run % 3 == 1 ? 20 : 256;
    }

    public static void main(String[] args) {
        for (int run = 0; run < OBJECTS; run++) {
            ModelTest test = new ModelTest(run);
            for (int call = 0; call < MIXED_CALLS; call++) {
                test.mixedCall();
            }
            test.lookAtAll();
            if (test.calls > PROMISED_CALLS) {
                wrong++;
                System.out.println("run " + run + " made " + test.calls + " calls, more than are promised");
            }
        }
        System.out.println(wrong == 0 ? "all answers are as due" : wrong + " answers are not as due");
        if (wrong != 0) {
            System.exit(1);
        }
    }

    private void due(String call, int got, int want) {
        calls++;
        if (got != want) {
            wrong++;
            if (wrong <= REPORTS) {
                System.out.println("run " + run + ", call " + calls + ": " + call + " answered " + got
                        + ", due is " + want);
            }
        }
    }

    private int below(int bound) {
        state = state * 6364136223846793005L + 1442695040888963407L;
        return (int) ((state >>> 33) % bound);
    }

    private int anyItem() {
        int choice = below(40);
        if (choice == 0) {
            return below(70) - 4;
        }
        if (choice == 1) {
            return below(2) == 0 ? Integer.MIN_VALUE : Integer.MAX_VALUE;
        }
        List<Integer> there = new ArrayList<>(model.nodes.keySet());
        return there.get(below(there.size()));
    }

    private int itemOfKind(int kind) {
        int item = anyItem();
        for (int attempt = 0; attempt < 3 && model.kindOf(item) != kind; attempt++) {
            item = anyItem();
        }
        return item;
    }

    private int anyName() {
        int choice = below(40);
        return choice == 0 ? -1 : choice == 1 ? 256 : choice == 2 ? Integer.MIN_VALUE : below(reach);
    }

    private int anyLength() {
        int choice = below(30);
        return choice == 0 ? 0 : choice == 1 ? 33 : choice == 2 ? 32 : 1 + below(run % 2 == 0 ? 6 : 32);
    }

    private void mixedCall() {
        int choice = below(100);
        if (choice < 25) {
            int parent = itemOfKind(2);
            int name = anyName();
            boolean folder = below(2) == 0;
            due("make(" + parent + ", " + name + ", " + folder + ")",
                    real.make(parent, name, folder), model.make(parent, name, folder));
        } else if (choice < 38) {
            int item = anyItem();
            int parent = itemOfKind(2);
            int name = anyName();
            due("move(" + item + ", " + parent + ", " + name + ")",
                    real.move(item, parent, name), model.move(item, parent, name));
        } else if (choice < 46) {
            int item = anyItem();
            due("remove(" + item + ")", real.remove(item), model.remove(item));
        } else if (choice < 48) {
            int item = anyItem();
            due("removeAll(" + item + ")", real.removeAll(item), model.removeAll(item));
        } else if (choice < 68) {
            int item = itemOfKind(1);
            int length = anyLength();
            due("extend(" + item + ", " + length + ")", real.extend(item, length), model.extend(item, length));
        } else if (choice < 76) {
            int item = itemOfKind(1);
            due("shrink(" + item + ")", real.shrink(item), model.shrink(item));
        } else {
            look(choice);
        }
    }

    private void look(int choice) {
        int item = anyItem();
        int number = below(30) - 2;
        switch (choice % 10) {
            case 0 -> due("find(" + item + ", " + number + ")", real.find(item, number), model.find(item, number));
            case 1 -> due("entry(" + item + ", " + number + ")", real.entry(item, number), model.entry(item, number));
            case 2 -> due("entries(" + item + ")", real.entries(item), model.entries(item));
            case 3 -> due("parentOf(" + item + ")", real.parentOf(item), model.parentOf(item));
            case 4 -> due("nameOf(" + item + ")", real.nameOf(item), model.nameOf(item));
            case 5 -> due("kindOf(" + item + ")", real.kindOf(item), model.kindOf(item));
            case 6 -> due("items()", real.items(), model.items());
            case 7 -> due("blocks(" + item + ")", real.blocks(item), model.blocks(item));
            case 8 -> due("blockAt(" + item + ", " + number + ")",
                    real.blockAt(item, number), model.blockAt(item, number));
            default -> due("free()", real.free(), model.free());
        }
    }

    private void lookAtAll() {
        due("items()", real.items(), model.items());
        due("free()", real.free(), model.free());
        for (int item = 0; item <= 62; item++) {
            due("kindOf(" + item + ")", real.kindOf(item), model.kindOf(item));
        }
        for (int item : model.nodes.keySet()) {
            due("parentOf(" + item + ")", real.parentOf(item), model.parentOf(item));
            due("nameOf(" + item + ")", real.nameOf(item), model.nameOf(item));
            due("entries(" + item + ")", real.entries(item), model.entries(item));
            due("blocks(" + item + ")", real.blocks(item), model.blocks(item));
            for (int position = 0; position < model.entries(item); position++) {
                due("entry(" + item + ", " + position + ")",
                        real.entry(item, position), model.entry(item, position));
            }
            for (int index = 0; index < model.blocks(item); index++) {
                due("blockAt(" + item + ", " + index + ")",
                        real.blockAt(item, index), model.blockAt(item, index));
            }
        }
    }

    private static final class Node {
        private final boolean folder;
        private Node parent;
        private int name;
        private final int identifier;
        private final TreeMap<Integer, Node> children = new TreeMap<>();
        private final List<List<Integer>> extents = new ArrayList<>();

        private Node(int identifier, boolean folder) {
            this.identifier = identifier;
            this.folder = folder;
        }
    }

    /** The document's promises over linked nodes and lists of blocks. */
    private static final class Model {
        private final Map<Integer, Node> nodes = new TreeMap<>();
        private int given = 0;

        private Model() {
            nodes.put(1, new Node(1, true));
        }

        private int make(int parent, int name, boolean folder) {
            Node at = nodes.get(parent);
            if (at == null) return -1;
            if (!at.folder) return -2;
            if (name < 0 || name > 255) return -3;
            if (at.children.containsKey(name)) return -4;
            if (nodes.size() - 1 == 24 || given == 60) return -5;
            given++;
            Node made = new Node(given + 1, folder);
            nodes.put(made.identifier, made);
            hang(made, at, name);
            return made.identifier;
        }

        private void hang(Node node, Node parent, int name) {
            node.parent = parent;
            node.name = name;
            parent.children.put(name, node);
        }

        private int move(int item, int newParent, int newName) {
            Node node = nodes.get(item);
            if (node == null) return -1;
            if (node.parent == null) return -6;
            Node to = nodes.get(newParent);
            if (to == null) return -1;
            if (!to.folder) return -2;
            if (newName < 0 || newName > 255) return -3;
            if (subtree(node).contains(to)) return -7;
            Node holder = to.children.get(newName);
            if (holder != null && holder != node) return -4;
            node.parent.children.remove(node.name);
            hang(node, to, newName);
            return 0;
        }

        private List<Node> subtree(Node top) {
            List<Node> all = new ArrayList<>();
            all.add(top);
            for (int at = 0; at < all.size(); at++) {
                all.addAll(all.get(at).children.values());
            }
            return all;
        }

        private int remove(int item) {
            Node node = nodes.get(item);
            if (node == null) return -1;
            if (node.parent == null) return -6;
            if (!node.children.isEmpty()) return -8;
            removeAll(item);
            return 0;
        }

        private int removeAll(int item) {
            Node node = nodes.get(item);
            if (node == null) return -1;
            if (node.parent == null) return -6;
            node.parent.children.remove(node.name);
            List<Node> gone = subtree(node);
            for (Node each : gone) {
                nodes.remove(each.identifier);
            }
            return gone.size();
        }

        private List<Integer> used() {
            List<Integer> all = new ArrayList<>();
            for (Node node : nodes.values()) {
                all.addAll(flat(node));
            }
            return all;
        }

        private static List<Integer> flat(Node node) {
            List<Integer> all = new ArrayList<>();
            for (List<Integer> extent : node.extents) {
                all.addAll(extent);
            }
            return all;
        }

        private int extend(int item, int length) {
            Node node = nodes.get(item);
            if (node == null) return -1;
            if (node.folder) return -9;
            if (length < 1 || length > 32) return -10;
            if (node.extents.size() == 6) return -5;
            List<Integer> used = used();
            for (int first = 0; first + length <= 96; first++) {
                List<Integer> run = new ArrayList<>();
                for (int block = first; block < first + length && !used.contains(block); block++) {
                    run.add(block);
                }
                if (run.size() == length) {
                    node.extents.add(run);
                    return first;
                }
            }
            return -11;
        }

        private int shrink(int item) {
            Node node = nodes.get(item);
            if (node == null) return -1;
            if (node.folder) return -9;
            if (node.extents.isEmpty()) return -12;
            return node.extents.remove(node.extents.size() - 1).size();
        }

        private int find(int parent, int name) {
            Node at = nodes.get(parent);
            if (at == null) return -1;
            if (!at.folder) return -2;
            if (name < 0 || name > 255) return -3;
            Node found = at.children.get(name);
            return found == null ? -12 : found.identifier;
        }

        private int entry(int parent, int position) {
            Node at = nodes.get(parent);
            if (at == null) return -1;
            if (!at.folder) return -2;
            List<Node> inOrder = new ArrayList<>(at.children.values());
            return position < 0 || position >= inOrder.size() ? -12 : inOrder.get(position).identifier;
        }

        private int entries(int parent) {
            Node at = nodes.get(parent);
            return at == null ? -1 : at.folder ? at.children.size() : -2;
        }

        private int parentOf(int item) {
            Node node = nodes.get(item);
            return node == null ? -1 : node.parent == null ? -6 : node.parent.identifier;
        }

        private int nameOf(int item) {
            Node node = nodes.get(item);
            return node == null ? -1 : node.parent == null ? -6 : node.name;
        }

        private int kindOf(int item) {
            Node node = nodes.get(item);
            return node == null ? 0 : node.folder ? 2 : 1;
        }

        private int items() {
            return nodes.size() - 1;
        }

        private int blocks(int item) {
            Node node = nodes.get(item);
            return node == null ? -1 : node.folder ? -9 : flat(node).size();
        }

        private int blockAt(int item, int index) {
            Node node = nodes.get(item);
            if (node == null) return -1;
            if (node.folder) return -9;
            List<Integer> all = flat(node);
            return index < 0 || index >= all.size() ? -12 : all.get(index);
        }

        private int free() {
            return 96 - used().size();
        }
    }
}
