/** Objects with links to each other, kept in a file with revisions. */
public final class ObjectFile {
    public static final int BAD = -1;
    public static final int NONE = -2;
    public static final int FULL = -3;

    private static final int OBJECTS = 8;
    private static final int REVISIONS = 5;

    private static final int ABSENT = 0;
    private static final int NUMBER = 1;
    private static final int TEXT = 2;
    private static final int LIST = 3;
    private static final int TABLE = 4;
    private static final int LINK = 5;

    private static final int NUMBER_ITEM = 0;
    private static final int NAME_ITEM = 1;
    private static final int LINK_ITEM = 2;
    private static final int BYTE_ITEM = 3;

    private static final int TEXT_ROOM = 6;
    private static final int LIST_ROOM = 4;
    private static final int TABLE_ROOM = 3;

    private static final int GREATEST_BYTE = 255;
    private static final int GREATEST_NAME = 63;
    private static final int GREATEST_KEY = 31;
    private static final int CODES_PER_OBJECT = 64;

    private static final int APPENDED = 0;
    private static final int PACKED = 2;

    // An object's record: its kind, its size, and six slots for each of its
    // values, their kinds and their keys. Object 1's record is the first.
    private static final int KIND_AT = 0;
    private static final int SIZE_AT = 1;
    private static final int VALUES_AT = 2;
    private static final int VALUE_KINDS_AT = 8;
    private static final int KEYS_AT = 14;
    private static final int RECORD = 20;
    private static final int IMAGE = 160;
    private static final int FILE = 800;

    // Every slot that holds no value is 0, so that two images are equal
    // exactly when the objects in them are.
    private final int[] live = new int[IMAGE];
    private final int[] file = new int[FILE];
    private int saved = 0;

    public ObjectFile() {
    }

    public int setNumber(int o, int n) {
        if (!isGood(o)) {
            return BAD;
        }
        int before = kindOf(o);
        renew(o, NUMBER);
        addValue(o, NUMBER_ITEM, n);
        return before;
    }

    public int setLink(int o, int to) {
        if (!isGood(o) || !isGood(to)) {
            return BAD;
        }
        int before = kindOf(o);
        renew(o, LINK);
        addValue(o, LINK_ITEM, to);
        return before;
    }

    public int begin(int o, int kind) {
        if (!isGood(o) || kind < TEXT || kind > TABLE) {
            return BAD;
        }
        int before = kindOf(o);
        renew(o, kind);
        return before;
    }

    public int append(int o, int b) {
        if (!isGood(o) || b < 0 || b > GREATEST_BYTE) {
            return BAD;
        }
        if (kindOf(o) != TEXT) {
            return NONE;
        }
        if (sizeOf(o) >= TEXT_ROOM) {
            return FULL;
        }
        addValue(o, BYTE_ITEM, b);
        return sizeOf(o);
    }

    public int push(int o, int kind, int value) {
        if (!isGood(o) || !isItem(kind, value)) {
            return BAD;
        }
        if (kindOf(o) != LIST) {
            return NONE;
        }
        if (sizeOf(o) >= LIST_ROOM) {
            return FULL;
        }
        addValue(o, kind, value);
        return sizeOf(o);
    }

    public int put(int code, int value) {
        if (code < CODES_PER_OBJECT || code >= CODES_PER_OBJECT * (OBJECTS + 1)) {
            return BAD;
        }
        int o = code / CODES_PER_OBJECT;
        int key = code / 2 & GREATEST_KEY;
        int itemKind = (code & 1) == 1 ? LINK_ITEM : NUMBER_ITEM;
        if (!isItem(itemKind, value)) {
            return BAD;
        }
        if (kindOf(o) != TABLE) {
            return NONE;
        }
        int i = placeOfKey(o, key);
        if (!hasKeyAt(o, i, key)) {
            if (sizeOf(o) >= TABLE_ROOM) {
                return FULL;
            }
            makeRoom(o, i);
        }
        setEntry(o, i, key, itemKind, value);
        return sizeOf(o);
    }

    public int pop(int o) {
        if (!isGood(o)) {
            return BAD;
        }
        int kind = kindOf(o);
        if (kind < TEXT || kind > TABLE || sizeOf(o) == 0) {
            return NONE;
        }
        dropLast(o);
        return sizeOf(o);
    }

    public int remove(int o) {
        if (!isGood(o)) {
            return BAD;
        }
        int before = kindOf(o);
        renew(o, ABSENT);
        return before;
    }

    public int sweep() {
        int reached = reachedFromFirst();
        int swept = 0;
        for (int o = 1; o <= OBJECTS; o++) {
            if (!isIn(reached, o) && kindOf(o) != ABSENT) {
                renew(o, ABSENT);
                swept++;
            }
        }
        return swept;
    }

    public int kind(int o) {
        return isGood(o) ? kindOf(o) : BAD;
    }

    public int size(int o) {
        return isGood(o) ? sizeOf(o) : BAD;
    }

    public int value(int o, int i) {
        if (!isGood(o) || !hasValue(o, i)) {
            return 0;
        }
        return valueAt(o, i);
    }

    public int valueKind(int o, int i) {
        if (!isGood(o)) {
            return BAD;
        }
        return hasValue(o, i) ? valueKindAt(o, i) : NONE;
    }

    public int key(int o, int i) {
        if (!isGood(o)) {
            return BAD;
        }
        if (kindOf(o) != TABLE || !hasValue(o, i)) {
            return NONE;
        }
        return keyAt(o, i);
    }

    public int resolve(int o) {
        if (!isGood(o)) {
            return BAD;
        }
        int at = o;
        // A way without a circle sees no object twice, so it ends within OBJECTS steps.
        for (int step = 0; step < OBJECTS; step++) {
            int kind = kindOf(at);
            if (kind == ABSENT) {
                return NONE;
            }
            if (kind != LINK) {
                return at;
            }
            at = valueAt(at, 0);
        }
        return NONE;
    }

    public int links(int o) {
        if (!isGood(o)) {
            return BAD;
        }
        int count = 0;
        for (int from = 1; from <= OBJECTS; from++) {
            count += linksBetween(from, o);
        }
        return count;
    }

    public int save(int way) {
        if (!isWay(way)) {
            return BAD;
        }
        if (way == APPENDED && saved >= REVISIONS) {
            return FULL;
        }
        int r = way == APPENDED ? saved : 0;
        writeRevision(r);
        saved = r + 1;
        return saved;
    }

    public int open(int r) {
        if (r < 0 || r >= saved) {
            return BAD;
        }
        readRevision(r);
        return countPresent();
    }

    public int revisions() {
        return saved;
    }

    public int breakOff(int way, int steps) {
        if (!isWay(way)) {
            return BAD;
        }
        if (saved > 0) {
            readRevision(saved - 1);
        } else {
            clearObjects();
        }
        return saved;
    }

    public int changed() {
        if (saved == 0) {
            return countPresent() > 0 ? 1 : 0;
        }
        return isRevision(saved - 1) ? 0 : 1;
    }

    public int digest() {
        int sum = 0;
        for (int o = 1; o <= OBJECTS; o++) {
            sum += 1000 * o * kindOf(o);
            int size = sizeOf(o);
            for (int i = 0; i < size; i++) {
                sum += (8 * o + i + 1) * valueAt(o, i);
            }
        }
        return sum;
    }

    private static boolean isGood(int o) {
        return o >= 1 && o <= OBJECTS;
    }

    private static boolean isWay(int way) {
        return way >= APPENDED && way <= PACKED;
    }

    private static boolean isItem(int kind, int value) {
        switch (kind) {
            case NUMBER_ITEM:
                return true;
            case NAME_ITEM:
                return value >= 0 && value <= GREATEST_NAME;
            case LINK_ITEM:
                return isGood(value);
            default:
                return false;
        }
    }

    private static boolean isIn(int set, int o) {
        return (set >> o & 1) == 1;
    }

    private static int recordOf(int o) {
        return (o - 1) * RECORD;
    }

    private int kindOf(int o) {
        return live[recordOf(o) + KIND_AT];
    }

    private int sizeOf(int o) {
        return live[recordOf(o) + SIZE_AT];
    }

    private boolean hasValue(int o, int i) {
        return i >= 0 && i < sizeOf(o);
    }

    private int valueAt(int o, int i) {
        return live[recordOf(o) + VALUES_AT + i];
    }

    private int valueKindAt(int o, int i) {
        return live[recordOf(o) + VALUE_KINDS_AT + i];
    }

    private int keyAt(int o, int i) {
        return live[recordOf(o) + KEYS_AT + i];
    }

    private void renew(int o, int kind) {
        int record = recordOf(o);
        for (int w = 0; w < RECORD; w++) {
            live[record + w] = 0;
        }
        live[record + KIND_AT] = kind;
    }

    private void setEntry(int o, int i, int key, int itemKind, int value) {
        int record = recordOf(o);
        live[record + VALUES_AT + i] = value;
        live[record + VALUE_KINDS_AT + i] = itemKind;
        live[record + KEYS_AT + i] = key;
    }

    private void addValue(int o, int itemKind, int value) {
        int i = sizeOf(o);
        // Only tables have keys: everywhere else the key's slot stays 0.
        setEntry(o, i, 0, itemKind, value);
        live[recordOf(o) + SIZE_AT] = i + 1;
    }

    private void dropLast(int o) {
        int last = sizeOf(o) - 1;
        setEntry(o, last, 0, 0, 0);
        live[recordOf(o) + SIZE_AT] = last;
    }

    /** Where the key's entry is, or would come, by rising keys. */
    private int placeOfKey(int o, int key) {
        int size = sizeOf(o);
        int i = 0;
        while (i < size && keyAt(o, i) < key) {
            i++;
        }
        return i;
    }

    private boolean hasKeyAt(int o, int i, int key) {
        return hasValue(o, i) && keyAt(o, i) == key;
    }

    private void makeRoom(int o, int place) {
        int size = sizeOf(o);
        for (int i = size; i > place; i--) {
            int key = keyAt(o, i - 1);
            int itemKind = valueKindAt(o, i - 1);
            int value = valueAt(o, i - 1);
            setEntry(o, i, key, itemKind, value);
        }
        live[recordOf(o) + SIZE_AT] = size + 1;
    }

    /** The set (bit o for object o) of object 1 and all to which its links lead. */
    private int reachedFromFirst() {
        int reached = 1 << 1;
        // Each round goes at least one link further, and no shortest way has OBJECTS links.
        for (int round = 1; round < OBJECTS; round++) {
            for (int o = 1; o <= OBJECTS; o++) {
                if (isIn(reached, o)) {
                    reached |= linkedFrom(o);
                }
            }
        }
        return reached;
    }

    private int linkedFrom(int o) {
        int set = 0;
        int size = sizeOf(o);
        for (int i = 0; i < size; i++) {
            if (valueKindAt(o, i) == LINK_ITEM) {
                set |= 1 << valueAt(o, i);
            }
        }
        return set;
    }

    private int linksBetween(int from, int to) {
        int count = 0;
        int size = sizeOf(from);
        for (int i = 0; i < size; i++) {
            if (valueKindAt(from, i) == LINK_ITEM && valueAt(from, i) == to) {
                count++;
            }
        }
        return count;
    }

    private int countPresent() {
        int count = 0;
        for (int o = 1; o <= OBJECTS; o++) {
            if (kindOf(o) != ABSENT) {
                count++;
            }
        }
        return count;
    }

    private void clearObjects() {
        for (int o = 1; o <= OBJECTS; o++) {
            renew(o, ABSENT);
        }
    }

    private void writeRevision(int r) {
        int start = r * IMAGE;
        for (int w = 0; w < IMAGE; w++) {
            file[start + w] = live[w];
        }
    }

    private void readRevision(int r) {
        int start = r * IMAGE;
        for (int w = 0; w < IMAGE; w++) {
            live[w] = file[start + w];
        }
    }

    private boolean isRevision(int r) {
        int start = r * IMAGE;
        for (int w = 0; w < IMAGE; w++) {
            if (file[start + w] != live[w]) {
                return false;
            }
        }
        return true;
    }
}
