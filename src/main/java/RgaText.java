public final class RgaText {
    public static final int BAD_REPLICA = -1;
    public static final int BAD_PLACE = -2;
    public static final int FULL = -3;
    public static final int SAME = -4;
    public static final int NONE = -5;

    private static final int REPLICAS = 3;
    private static final int CAPACITY = 40;
    private static final int CELLS = 120; // one for each replica and element

    private final int[] characters = new int[CAPACITY];
    private final int[] stamps = new int[CAPACITY];
    private final int[] origins = new int[CAPACITY];

    // All elements in document order. One order serves every replica: a replica
    // never knows an element without its parent, so its own document order is
    // this one with the elements that it doesn't know left out.
    private final int[] order = new int[CAPACITY];

    private final boolean[] knownElements = new boolean[CELLS];
    private final boolean[] knownDeletions = new boolean[CELLS];
    private final int[] clocks = new int[REPLICAS];
    private int elements = 0;

    public RgaText() {
    }

    public int insert(int replica, int place, int c) {
        if (!isReplica(replica)) {
            return BAD_REPLICA;
        }
        if (place < 0 || place > textLength(replica)) {
            return BAD_PLACE;
        }
        if (elements >= CAPACITY) {
            return FULL;
        }
        // For place 0 this finds NONE, which stands for the beginning.
        int parentPosition = textPosition(replica, place - 1);
        return addElement(replica, parentPosition, c & 255);
    }

    public int delete(int replica, int place) {
        if (!isReplica(replica)) {
            return BAD_REPLICA;
        }
        int element = textElement(replica, place);
        if (element == NONE) {
            return BAD_PLACE;
        }
        knownDeletions[cell(replica, element)] = true;
        return element;
    }

    public int learn(int to, int from) {
        if (!isReplica(to) || !isReplica(from)) {
            return BAD_REPLICA;
        }
        if (to == from) {
            return SAME;
        }
        int learned = 0;
        for (int element = 0; element < elements; element++) {
            if (learnElement(to, from, element)) {
                learned++;
            }
            if (learnDeletion(to, from, element)) {
                learned++;
            }
        }
        return learned;
    }

    public int length(int replica) {
        if (!isReplica(replica)) {
            return BAD_REPLICA;
        }
        return textLength(replica);
    }

    public int charAt(int replica, int place) {
        if (!isReplica(replica)) {
            return BAD_REPLICA;
        }
        return textCharacter(replica, place);
    }

    public int elementAt(int replica, int place) {
        if (!isReplica(replica)) {
            return BAD_REPLICA;
        }
        return textElement(replica, place);
    }

    public int placeOf(int replica, int element) {
        if (!isReplica(replica)) {
            return BAD_REPLICA;
        }
        int place = 0;
        for (int position = 0; position < elements; position++) {
            if (inText(replica, order[position])) {
                if (order[position] == element) {
                    return place;
                }
                place++;
            }
        }
        return NONE;
    }

    public int known(int replica) {
        if (!isReplica(replica)) {
            return BAD_REPLICA;
        }
        int count = 0;
        for (int element = 0; element < elements; element++) {
            if (knowsElement(replica, element)) {
                count++;
            }
        }
        return count;
    }

    public int rank(int replica, int element) {
        if (!isReplica(replica)) {
            return BAD_REPLICA;
        }
        int before = 0;
        for (int position = 0; position < elements; position++) {
            if (knowsElement(replica, order[position])) {
                if (order[position] == element) {
                    return before;
                }
                before++;
            }
        }
        return NONE;
    }

    public boolean sameText(int a, int b) {
        if (!isReplica(a) || !isReplica(b)) {
            return false;
        }
        // Past its end a text answers NONE, which is no character, so texts of
        // different lengths differ here too.
        for (int place = 0; place < elements; place++) {
            if (textCharacter(a, place) != textCharacter(b, place)) {
                return false;
            }
        }
        return true;
    }

    private boolean isReplica(int replica) {
        return replica >= 0 && replica < REPLICAS;
    }

    private int cell(int replica, int element) {
        return replica * CAPACITY + element;
    }

    private boolean knowsElement(int replica, int element) {
        return knownElements[cell(replica, element)];
    }

    private boolean knowsDeletion(int replica, int element) {
        return knownDeletions[cell(replica, element)];
    }

    private boolean inText(int replica, int element) {
        int at = cell(replica, element);
        return knownElements[at] && !knownDeletions[at];
    }

    private int textLength(int replica) {
        int length = 0;
        for (int element = 0; element < elements; element++) {
            if (inText(replica, element)) {
                length++;
            }
        }
        return length;
    }

    /** Where the order has the element that the text has at this place, or NONE. */
    private int textPosition(int replica, int place) {
        int next = 0;
        for (int position = 0; position < elements; position++) {
            if (inText(replica, order[position])) {
                if (next == place) {
                    return position;
                }
                next++;
            }
        }
        return NONE;
    }

    private int textElement(int replica, int place) {
        int position = textPosition(replica, place);
        return position == NONE ? NONE : order[position];
    }

    private int textCharacter(int replica, int place) {
        int element = textElement(replica, place);
        return element == NONE ? NONE : characters[element];
    }

    private int addElement(int replica, int parentPosition, int character) {
        int element = elements;
        clocks[replica]++;
        characters[element] = character;
        stamps[element] = clocks[replica];
        origins[element] = replica;
        int start = parentPosition == NONE ? 0 : parentPosition + 1;
        int position = positionFrom(start, element);
        openOrderAt(position);
        order[position] = element;
        elements++;
        knownElements[cell(replica, element)] = true;
        return element;
    }

    // What stands behind the parent is first its greater children, each with all
    // below it, which has greater stamps still; then its lesser children, or
    // elements outside the parent's tree. Those follow the parent or one above
    // it as lesser siblings, so their stamps are at most the parent's, and the
    // new stamp is greater than that. So the first lesser element is the place.
    private int positionFrom(int start, int element) {
        for (int position = start; position < elements; position++) {
            if (!goesFirst(order[position], element)) {
                return position;
            }
        }
        return elements;
    }

    private boolean goesFirst(int one, int other) {
        if (stamps[one] != stamps[other]) {
            return stamps[one] > stamps[other];
        }
        return origins[one] > origins[other];
    }

    private void openOrderAt(int position) {
        for (int i = elements; i > position; i--) {
            order[i] = order[i - 1];
        }
    }

    private boolean learnElement(int to, int from, int element) {
        if (!knowsElement(from, element) || knowsElement(to, element)) {
            return false;
        }
        knownElements[cell(to, element)] = true;
        if (clocks[to] < stamps[element]) {
            clocks[to] = stamps[element];
        }
        return true;
    }

    private boolean learnDeletion(int to, int from, int element) {
        if (!knowsDeletion(from, element) || knowsDeletion(to, element)) {
            return false;
        }
        knownDeletions[cell(to, element)] = true;
        return true;
    }
}
