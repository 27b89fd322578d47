/** Numbers and filled objects that several tests start from, and the state as a text. */
final class Samples {
    static final int BAD = -1;
    static final int NONE = -2;
    static final int FULL = -3;
    static final int MIN = Integer.MIN_VALUE;
    static final int MAX = Integer.MAX_VALUE;

    /**
     * Beside the nearest ones and the furthest: those that are 1 or 8 in fewer bits, and those
     * that come to object 1 or 8 again if something is made of them by a product that wraps.
     */
    static final int[] NOT_GOOD = {
        0, 9, -1, -8, 10, 257, 264, 65537, 1 + (1 << 28), 1 + (1 << 29), 1 + (1 << 30),
        8 + (1 << 30), MIN + 1, MIN + 8, MIN, MAX};

    /** No object has a value there; some would be another object's if indexes ran on. */
    static final int[] NO_PLACES = {-1, -2, -6, -18, -20, -160, 6, 7, 18, 20, 159, 160, 800, MIN, MAX};

    private Samples() {
    }

    static int code(int o, int key, int link) {
        return 64 * o + 2 * key + link;
    }

    /** One object of each kind: a number, a text, a list, a table, a link; 6 .. 8 are absent. */
    static ObjectFile everyKind() {
        ObjectFile x = new ObjectFile();
        x.setNumber(1, -7);
        x.begin(2, 2);
        x.append(2, 0);
        x.append(2, 255);
        x.begin(3, 3);
        x.push(3, 0, MIN);
        x.push(3, 1, 63);
        x.push(3, 2, 8);
        x.begin(4, 4);
        x.put(code(4, 31, 0), MAX);
        x.put(code(4, 0, 1), 3);
        x.setLink(5, 4);
        return x;
    }

    /** An object o of the kind, 0 .. 5, with one value if its kind has values. */
    static ObjectFile ofKind(int o, int kind) {
        ObjectFile x = new ObjectFile();
        switch (kind) {
            case 0: break;
            case 1: x.setNumber(o, 77); break;
            case 5: x.setLink(o, 7); break;
            default: x.begin(o, kind); fill(x, o, kind, 11); break;
        }
        return x;
    }

    static int room(int kind) {
        return new int[] {6, 4, 3}[kind - 2];
    }

    /** Adds the number to a text, a list or a table; in a table, with the number mod 32 as key. */
    static int fill(ObjectFile x, int o, int kind, int n) {
        switch (kind) {
            case 2: return x.append(o, n);
            case 3: return x.push(o, 0, n);
            default: return x.put(code(o, n % 32, 0), n);
        }
    }

    /** Object o, a text, list or table that is full, with the values from, from + 1, .. */
    static void makeFull(ObjectFile x, int o, int kind, int from) {
        x.begin(o, kind);
        for (int n = 0; n < room(kind); n++) {
            fill(x, o, kind, from + n);
        }
    }

    /** Full and empty objects of all kinds, a link to an absent one, and five revisions of which none is as now. */
    static ObjectFile crowded() {
        ObjectFile x = new ObjectFile();
        for (int r = 0; r < 5; r++) {
            x.setNumber(r + 1, 100 + r);
            x.save(0);
        }
        makeFull(x, 1, 2, 1);
        makeFull(x, 2, 3, 20);
        makeFull(x, 3, 4, 5);
        x.setNumber(4, -1);
        x.setLink(5, 6);
        x.begin(7, 3);
        x.begin(8, 2);
        return x;
    }

    /** All that the questions about objects tell, as one text. */
    static String objectsOf(ObjectFile x) {
        StringBuilder s = new StringBuilder();
        for (int o = 1; o <= 8; o++) {
            int size = x.size(o);
            s.append(o).append(':').append(x.kind(o)).append('/').append(size);
            for (int i = 0; i < size; i++) {
                s.append(' ').append(x.valueKind(o, i)).append(',').append(x.value(o, i))
                    .append(',').append(x.key(o, i));
            }
            s.append('\n');
        }
        return s.toString();
    }

    static String stateOf(ObjectFile x) {
        return objectsOf(x) + x.revisions() + ' ' + x.changed() + ' ' + x.digest() + '\n';
    }

    /** The state and then what each revision holds; the last of them stays opened. */
    static String allOf(ObjectFile x) {
        StringBuilder s = new StringBuilder(stateOf(x));
        int revisions = x.revisions();
        for (int r = 0; r < revisions; r++) {
            s.append("revision ").append(r).append(", ").append(x.open(r)).append('\n');
            s.append(objectsOf(x));
        }
        return s.toString();
    }
}
