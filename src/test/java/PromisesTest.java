/** For each promise of the document: ordinary inputs, the edges it names, wrong inputs. */
public final class PromisesTest {
    private static final int BAD = Samples.BAD;
    private static final int NONE = Samples.NONE;
    private static final int FULL = Samples.FULL;
    private static final int MIN = Samples.MIN;
    private static final int MAX = Samples.MAX;
    private static final int[] NOT_GOOD = Samples.NOT_GOOD;
    private static final Checks CHECKS = new Checks();

    public static void main(String[] args) {
        newObject();
        setNumber();
        setLink();
        begin();
        append();
        push();
        pushWrongItems();
        putInOrder();
        putInPlace();
        putWrongInputs();
        pop();
        remove();
        sweep();
        sweepLongWays();
        kind();
        size();
        value();
        valueKind();
        key();
        resolve();
        links();
        save();
        saveKeepsEverything();
        open();
        revisions();
        breakOff();
        changed();
        changedInEveryPart();
        digest();
        orderAndLimits();
        fullObjects();
        refusedCallsChangeNothing();
        questionsChangeNothing();
        CHECKS.end();
    }

    private static void due(String call, long got, long want) {
        CHECKS.due(call, got, want);
    }

    private static int code(int o, int key, int link) {
        return Samples.code(o, key, link);
    }

    private static ObjectFile withText(int o, int... bytes) {
        ObjectFile x = new ObjectFile();
        x.begin(o, 2);
        for (int b : bytes) {
            x.append(o, b);
        }
        return x;
    }

    private static void newObject() {
        CHECKS.part("promise 1");
        ObjectFile x = new ObjectFile();
        for (int o = 1; o <= 8; o++) {
            due("kind of a new object's " + o, x.kind(o), 0);
            due("size of a new object's " + o, x.size(o), 0);
            due("links of a new object's " + o, x.links(o), 0);
        }
        due("revisions()", x.revisions(), 0);
        due("changed()", x.changed(), 0);
        due("digest()", x.digest(), 0);
        due("open(0)", x.open(0), BAD);
        due("BAD", ObjectFile.BAD, -1);
        due("NONE", ObjectFile.NONE, -2);
        due("FULL", ObjectFile.FULL, -3);
        x.setNumber(1, 5);
        x.save(0);
        ObjectFile y = new ObjectFile();
        due("kind(1) of another object", y.kind(1), 0);
        due("revisions() of another object", y.revisions(), 0);
    }

    private static void setNumber() {
        CHECKS.part("promise 2");
        ObjectFile x = Samples.everyKind();
        for (int o : NOT_GOOD) {
            due("setNumber(" + o + ", 1)", x.setNumber(o, 1), BAD);
        }
        for (int o = 1; o <= 8; o++) {
            due("setNumber(" + o + ", 3)", x.setNumber(o, 3), o <= 5 ? o : 0);
            due("kind(" + o + ")", x.kind(o), 1);
            due("size(" + o + ")", x.size(o), 1);
            due("value(" + o + ", 0)", x.value(o, 0), 3);
            due("value(" + o + ", 1)", x.value(o, 1), 0);
        }
        for (int n : new int[] {0, -1, MIN, MAX}) {
            due("setNumber(8, " + n + ")", x.setNumber(8, n), 1);
            due("value(8, 0)", x.value(8, 0), n);
        }
    }

    private static void setLink() {
        CHECKS.part("promise 3");
        ObjectFile x = Samples.everyKind();
        for (int o : NOT_GOOD) {
            due("setLink(" + o + ", 1)", x.setLink(o, 1), BAD);
            due("setLink(1, " + o + ")", x.setLink(1, o), BAD);
            due("setLink(" + o + ", " + o + ")", x.setLink(o, o), BAD);
        }
        due("kind(1) after refusals", x.kind(1), 1);
        for (int o = 1; o <= 8; o++) {
            due("setLink(" + o + ", " + (9 - o) + ")", x.setLink(o, 9 - o), o <= 5 ? o : 0);
            due("kind(" + o + ")", x.kind(o), 5);
            due("size(" + o + ")", x.size(o), 1);
            due("value(" + o + ", 0)", x.value(o, 0), 9 - o);
            due("value(" + o + ", 1)", x.value(o, 1), 0);
        }
        due("setLink(2, 2)", x.setLink(2, 2), 5);
        due("value(2, 0)", x.value(2, 0), 2);
    }

    private static void begin() {
        CHECKS.part("promise 4");
        for (int kind = 2; kind <= 4; kind++) {
            ObjectFile x = Samples.everyKind();
            for (int o : NOT_GOOD) {
                due("begin(" + o + ", " + kind + ")", x.begin(o, kind), BAD);
            }
            for (int o = 1; o <= 8; o++) {
                due("begin(" + o + ", " + kind + ")", x.begin(o, kind), o <= 5 ? o : 0);
                due("kind(" + o + ")", x.kind(o), kind);
                due("size(" + o + ")", x.size(o), 0);
                due("value(" + o + ", 0)", x.value(o, 0), 0);
                due("valueKind(" + o + ", 0)", x.valueKind(o, 0), NONE);
            }
        }
        ObjectFile x = Samples.everyKind();
        for (int kind : new int[] {0, 1, 5, 6, -1, MIN, MAX}) {
            due("begin(1, " + kind + ")", x.begin(1, kind), BAD);
            due("begin(6, " + kind + ")", x.begin(6, kind), BAD);
        }
        due("kind(1)", x.kind(1), 1);
        due("kind(6)", x.kind(6), 0);
    }

    private static void append() {
        CHECKS.part("promise 5");
        ObjectFile x = Samples.everyKind();
        for (int o : NOT_GOOD) {
            due("append(" + o + ", 1)", x.append(o, 1), BAD);
        }
        for (int b : new int[] {-1, 256, MIN, MAX}) {
            due("append(2, " + b + ")", x.append(2, b), BAD);
            due("append(1, " + b + ")", x.append(1, b), BAD);
        }
        for (int o : new int[] {1, 3, 4, 5, 6}) {
            due("append(" + o + ", 1)", x.append(o, 1), NONE);
        }
        x.begin(8, 2);
        int[] bytes = {255, 0, 7, 0, 128, 1};
        for (int i = 0; i < 6; i++) {
            due("append(8, " + bytes[i] + ")", x.append(8, bytes[i]), i + 1);
        }
        due("append(8, 9), the seventh", x.append(8, 9), FULL);
        due("append(8, 256), the seventh", x.append(8, 256), BAD);
        due("size(8)", x.size(8), 6);
        for (int i = 0; i < 6; i++) {
            due("value(8, " + i + ")", x.value(8, i), bytes[i]);
            due("valueKind(8, " + i + ")", x.valueKind(8, i), 3);
        }
    }

    private static void push() {
        CHECKS.part("promise 6");
        ObjectFile x = Samples.everyKind();
        for (int o : new int[] {1, 2, 4, 5, 6}) {
            due("push(" + o + ", 0, 1)", x.push(o, 0, 1), NONE);
        }
        x.begin(8, 3);
        due("push(8, 0, MIN)", x.push(8, 0, MIN), 1);
        due("push(8, 1, 0)", x.push(8, 1, 0), 2);
        due("push(8, 2, 1)", x.push(8, 2, 1), 3);
        due("push(8, 0, MAX)", x.push(8, 0, MAX), 4);
        due("push(8, 0, 1), the fifth", x.push(8, 0, 1), FULL);
        due("push(8, 1, 64), the fifth", x.push(8, 1, 64), BAD);
        due("size(8)", x.size(8), 4);
        due("value(8, 0)", x.value(8, 0), MIN);
        due("value(8, 1)", x.value(8, 1), 0);
        due("value(8, 2)", x.value(8, 2), 1);
        due("value(8, 3)", x.value(8, 3), MAX);
        due("valueKind(8, 0)", x.valueKind(8, 0), 0);
        due("valueKind(8, 1)", x.valueKind(8, 1), 1);
        due("valueKind(8, 2)", x.valueKind(8, 2), 2);
        due("valueKind(8, 3)", x.valueKind(8, 3), 0);
        x.begin(7, 3);
        due("push(7, 1, 63)", x.push(7, 1, 63), 1);
        due("push(7, 2, 8)", x.push(7, 2, 8), 2);
        due("push(7, 2, 7)", x.push(7, 2, 7), 3);
    }

    private static void pushWrongItems() {
        CHECKS.part("promise 6");
        ObjectFile x = Samples.everyKind();
        for (int o : NOT_GOOD) {
            due("push(" + o + ", 0, 1)", x.push(o, 0, 1), BAD);
            due("push(3, 2, " + o + ")", x.push(3, 2, o), BAD);
            due("push(1, 2, " + o + ")", x.push(1, 2, o), BAD);
        }
        for (int kind : new int[] {-1, 3, 4, MIN, MAX}) {
            due("push(3, " + kind + ", 1)", x.push(3, kind, 1), BAD);
            due("push(1, " + kind + ", 1)", x.push(1, kind, 1), BAD);
        }
        for (int name : new int[] {-1, 64, MIN, MAX}) {
            due("push(3, 1, " + name + ")", x.push(3, 1, name), BAD);
        }
        due("size(3)", x.size(3), 3);
    }

    private static void dueEntry(ObjectFile x, int o, int i, int key, int valueKind, int value) {
        due("key(" + o + ", " + i + ")", x.key(o, i), key);
        due("valueKind(" + o + ", " + i + ")", x.valueKind(o, i), valueKind);
        due("value(" + o + ", " + i + ")", x.value(o, i), value);
    }

    private static void putInOrder() {
        CHECKS.part("promise 7");
        int[][] orders = {{0, 1, 2}, {0, 2, 1}, {1, 0, 2}, {1, 2, 0}, {2, 0, 1}, {2, 1, 0}};
        int[] keys = {0, 15, 31};
        int[] links = {0, 1, 0};
        int[] values = {-5, 8, MAX};
        for (int[] order : orders) {
            ObjectFile x = new ObjectFile();
            x.begin(8, 4);
            for (int n = 0; n < 3; n++) {
                int e = order[n];
                due("put of key " + keys[e], x.put(code(8, keys[e], links[e]), values[e]), n + 1);
            }
            for (int i = 0; i < 3; i++) {
                dueEntry(x, 8, i, keys[i], 2 * links[i], values[i]);
            }
            due("put of a fourth key", x.put(code(8, 7, 0), 1), FULL);
            due("put of a wrong link to a full table", x.put(code(8, 7, 1), 0), BAD);
            due("size(8)", x.size(8), 3);
        }
    }

    private static void putInPlace() {
        CHECKS.part("promise 7");
        ObjectFile x = new ObjectFile();
        x.begin(1, 4);
        due("put(64, 10)", x.put(64, 10), 1);
        due("put(64, 11)", x.put(64, 11), 1);
        dueEntry(x, 1, 0, 0, 0, 11);
        x.put(code(1, 4, 0), 40);
        x.put(code(1, 9, 1), 2);
        due("put in place of the first, full", x.put(code(1, 0, 1), 5), 3);
        due("put in place of the second, full", x.put(code(1, 4, 0), MIN), 3);
        due("put in place of the third, full", x.put(code(1, 9, 0), 90), 3);
        dueEntry(x, 1, 0, 0, 2, 5);
        dueEntry(x, 1, 1, 4, 0, MIN);
        dueEntry(x, 1, 2, 9, 0, 90);
        due("links(2) after its link was replaced", x.links(2), 0);
        due("links(5)", x.links(5), 1);
    }

    private static void putWrongInputs() {
        CHECKS.part("promise 7");
        ObjectFile x = new ObjectFile();
        x.begin(1, 4);
        x.begin(8, 4);
        for (int code : new int[] {63, 62, 0, 1, -1, -64, 576, 577, 640, MIN, MAX, MIN + 64}) {
            due("put(" + code + ", 1)", x.put(code, 1), BAD);
        }
        for (int to : NOT_GOOD) {
            due("put(65, " + to + ")", x.put(65, to), BAD);
            due("put(575, " + to + ")", x.put(575, to), BAD);
            due("put(129, " + to + ")", x.put(129, to), BAD);
        }
        due("put(575, 8)", x.put(575, 8), 1);
        dueEntry(x, 8, 0, 31, 2, 8);
        due("put(64, 0)", x.put(64, 0), 1);
        dueEntry(x, 1, 0, 0, 0, 0);
        ObjectFile y = Samples.everyKind();
        for (int o : new int[] {1, 2, 3, 5, 6}) {
            due("put to object " + o, y.put(code(o, 3, 0), 1), NONE);
        }
    }

    private static void pop() {
        CHECKS.part("promise 8");
        ObjectFile x = Samples.everyKind();
        for (int o : NOT_GOOD) {
            due("pop(" + o + ")", x.pop(o), BAD);
        }
        for (int o : new int[] {1, 5, 6}) {
            due("pop(" + o + ")", x.pop(o), NONE);
        }
        due("pop(2)", x.pop(2), 1);
        due("value(2, 0)", x.value(2, 0), 0);
        due("valueKind(2, 1)", x.valueKind(2, 1), NONE);
        due("pop(2)", x.pop(2), 0);
        due("pop(2) without bytes", x.pop(2), NONE);
        due("kind(2)", x.kind(2), 2);
        due("pop(3)", x.pop(3), 2);
        due("links(8) after its link was popped", x.links(8), 0);
        due("value(3, 1)", x.value(3, 1), 63);
        due("value(3, 2)", x.value(3, 2), 0);
        due("pop(3)", x.pop(3), 1);
        due("pop(3)", x.pop(3), 0);
        due("pop(3) without items", x.pop(3), NONE);
        due("kind(3)", x.kind(3), 3);
        due("pop(4)", x.pop(4), 1);
        dueEntry(x, 4, 0, 0, 2, 3);
        due("key(4, 1)", x.key(4, 1), NONE);
        due("pop(4)", x.pop(4), 0);
        due("pop(4) without entries", x.pop(4), NONE);
        due("kind(4)", x.kind(4), 4);
        due("put after pop", x.put(code(4, 31, 0), 6), 1);
        due("append after pop", x.append(2, 77), 1);
        due("value(2, 0)", x.value(2, 0), 77);
    }

    private static void remove() {
        CHECKS.part("promise 9");
        ObjectFile x = Samples.everyKind();
        for (int o : NOT_GOOD) {
            due("remove(" + o + ")", x.remove(o), BAD);
        }
        for (int o = 1; o <= 8; o++) {
            due("remove(" + o + ")", x.remove(o), o <= 5 ? o : 0);
            due("kind(" + o + ")", x.kind(o), 0);
            due("size(" + o + ")", x.size(o), 0);
            due("remove(" + o + ") again", x.remove(o), 0);
        }
        ObjectFile y = new ObjectFile();
        y.setLink(1, 2);
        y.setNumber(2, 4);
        y.remove(2);
        due("links(2), to an object that was removed", y.links(2), 1);
    }

    private static void sweep() {
        CHECKS.part("promise 10");
        ObjectFile x = Samples.everyKind();
        due("sweep() from a number", x.sweep(), 4);
        due("kind(1)", x.kind(1), 1);
        due("sweep() again", x.sweep(), 0);
        ObjectFile y = Samples.everyKind();
        y.remove(1);
        due("sweep() with object 1 absent", y.sweep(), 4);
        for (int o = 1; o <= 8; o++) {
            due("kind(" + o + ")", y.kind(o), 0);
        }
        due("sweep() with nothing", y.sweep(), 0);
        ObjectFile z = Samples.everyKind();
        z.setNumber(7, 1);
        z.setNumber(8, 2);
        z.setLink(1, 5);
        due("sweep() by link, entry and item", z.sweep(), 2);
        for (int o = 1; o <= 8; o++) {
            due("kind(" + o + ")", z.kind(o), new int[] {5, 0, 3, 4, 5, 0, 0, 1}[o - 1]);
        }
        ObjectFile w = new ObjectFile();
        w.begin(1, 3);
        w.push(1, 0, 2);
        w.push(1, 1, 3);
        w.push(1, 2, 5);
        w.setNumber(2, 4);
        w.setNumber(3, 6);
        w.setNumber(4, 6);
        w.setLink(6, 1);
        due("sweep() by links alone", w.sweep(), 4);
        due("links(5), to an absent one", w.links(5), 1);
    }

    private static void sweepLongWays() {
        CHECKS.part("promise 10");
        ObjectFile x = new ObjectFile();
        int[] way = {1, 8, 7, 6, 5, 4, 3, 2};
        for (int n = 0; n < 8; n++) {
            x.setLink(way[n], way[(n + 1) % 8]);
        }
        due("sweep() of a circle of all", x.sweep(), 0);
        x.setNumber(5, 0);
        due("sweep() of a broken circle", x.sweep(), 3);
        for (int o = 1; o <= 8; o++) {
            due("kind(" + o + ") is 0", x.kind(o) == 0 ? 1 : 0, o >= 2 && o <= 4 ? 1 : 0);
        }
        ObjectFile y = new ObjectFile();
        y.setLink(1, 2);
        y.setLink(3, 4);
        y.setLink(4, 3);
        due("sweep() past an absent one and of a circle apart", y.sweep(), 2);
        ObjectFile z = new ObjectFile();
        z.begin(1, 2);
        z.append(1, 2);
        z.setNumber(2, 2);
        due("sweep(), a byte is no link", z.sweep(), 1);
        for (int o = 2; o <= 8; o++) {
            z.setLink(o, 1);
        }
        due("sweep() of all but object 1", z.sweep(), 7);
        for (int o = 2; o <= 8; o++) {
            due("kind(" + o + ")", z.kind(o), 0);
        }
    }

    private static void kind() {
        CHECKS.part("promise 11");
        ObjectFile x = Samples.everyKind();
        for (int o = 1; o <= 8; o++) {
            due("kind(" + o + ")", x.kind(o), o <= 5 ? o : 0);
        }
        for (int o : NOT_GOOD) {
            due("kind(" + o + ")", x.kind(o), BAD);
        }
    }

    private static void size() {
        CHECKS.part("promise 12");
        ObjectFile x = Samples.everyKind();
        int[] sizes = {1, 2, 3, 2, 1, 0, 0, 0};
        for (int o = 1; o <= 8; o++) {
            due("size(" + o + ")", x.size(o), sizes[o - 1]);
        }
        for (int o : NOT_GOOD) {
            due("size(" + o + ")", x.size(o), BAD);
        }
    }

    private static void value() {
        CHECKS.part("promise 13");
        ObjectFile x = Samples.everyKind();
        int[][] values = {{-7}, {0, 255}, {MIN, 63, 8}, {3, MAX}, {4}, {}, {}, {}};
        for (int o = 1; o <= 8; o++) {
            int[] of = values[o - 1];
            for (int i = 0; i < 8; i++) {
                due("value(" + o + ", " + i + ")", x.value(o, i), i < of.length ? of[i] : 0);
            }
            for (int i : new int[] {-1, -20, 20, 160, MIN, MAX}) {
                due("value(" + o + ", " + i + ")", x.value(o, i), 0);
            }
        }
        for (int o : NOT_GOOD) {
            due("value(" + o + ", 0)", x.value(o, 0), 0);
            due("value(" + o + ", -1)", x.value(o, -1), 0);
        }
    }

    private static void valueKind() {
        CHECKS.part("promise 14");
        ObjectFile x = Samples.everyKind();
        int[][] kinds = {{0}, {3, 3}, {0, 1, 2}, {2, 0}, {2}, {}, {}, {}};
        for (int o = 1; o <= 8; o++) {
            int[] of = kinds[o - 1];
            for (int i = 0; i < 8; i++) {
                due("valueKind(" + o + ", " + i + ")", x.valueKind(o, i), i < of.length ? of[i] : NONE);
            }
            for (int i : new int[] {-1, -20, 20, 160, MIN, MAX}) {
                due("valueKind(" + o + ", " + i + ")", x.valueKind(o, i), NONE);
            }
        }
        for (int o : NOT_GOOD) {
            due("valueKind(" + o + ", 0)", x.valueKind(o, 0), BAD);
            due("valueKind(" + o + ", -1)", x.valueKind(o, -1), BAD);
        }
    }

    private static void key() {
        CHECKS.part("promise 15");
        ObjectFile x = Samples.everyKind();
        due("key(4, 0)", x.key(4, 0), 0);
        due("key(4, 1)", x.key(4, 1), 31);
        for (int i : new int[] {2, 3, 6, -1, -20, 160, MIN, MAX}) {
            due("key(4, " + i + ")", x.key(4, i), NONE);
        }
        for (int o : new int[] {1, 2, 3, 5, 6}) {
            due("key(" + o + ", 0)", x.key(o, 0), NONE);
        }
        for (int o : NOT_GOOD) {
            due("key(" + o + ", 0)", x.key(o, 0), BAD);
            due("key(" + o + ", -1)", x.key(o, -1), BAD);
        }
    }

    private static void resolve() {
        CHECKS.part("promise 16");
        ObjectFile x = Samples.everyKind();
        for (int o = 1; o <= 4; o++) {
            due("resolve(" + o + ")", x.resolve(o), o);
        }
        due("resolve(5)", x.resolve(5), 4);
        for (int o : NOT_GOOD) {
            due("resolve(" + o + ")", x.resolve(o), BAD);
        }
        x.setLink(6, 7);
        due("resolve(6), a link to an absent one", x.resolve(6), NONE);
        x.setLink(7, 7);
        due("resolve(7), a link to itself", x.resolve(7), NONE);
        due("resolve(6), into a circle", x.resolve(6), NONE);
        x.begin(8, 3);
        x.push(8, 2, 1);
        due("resolve(8), a list of a link", x.resolve(8), 8);
        ObjectFile y = new ObjectFile();
        for (int o = 1; o <= 7; o++) {
            y.setLink(o, o + 1);
        }
        due("resolve(1), seven links to an absent one", y.resolve(1), NONE);
        y.begin(8, 2);
        for (int o = 1; o <= 8; o++) {
            due("resolve(" + o + "), along the way", y.resolve(o), 8);
        }
        y.setLink(8, 1);
        for (int o = 1; o <= 8; o++) {
            due("resolve(" + o + "), in a circle of eight", y.resolve(o), NONE);
        }
    }

    private static void links() {
        CHECKS.part("promise 17");
        ObjectFile x = Samples.everyKind();
        int[] counts = {0, 0, 1, 1, 0, 0, 0, 1};
        for (int o = 1; o <= 8; o++) {
            due("links(" + o + ")", x.links(o), counts[o - 1]);
        }
        for (int o : NOT_GOOD) {
            due("links(" + o + ")", x.links(o), BAD);
        }
        ObjectFile y = new ObjectFile();
        y.setLink(1, 1);
        y.begin(2, 3);
        y.push(2, 2, 1);
        y.push(2, 2, 1);
        y.push(2, 0, 1);
        y.push(2, 1, 1);
        y.begin(3, 4);
        y.put(code(3, 1, 1), 1);
        y.put(code(3, 2, 1), 1);
        y.put(code(3, 3, 0), 1);
        y.setNumber(4, 1);
        y.begin(5, 2);
        y.append(5, 1);
        due("links(1)", y.links(1), 5);
        y.setNumber(1, 1);
        due("links(1) without the link to itself", y.links(1), 4);
        for (int from = 1; from <= 8; from++) {
            ObjectFile z = new ObjectFile();
            z.setLink(from, 6);
            due("links(6), one from " + from, z.links(6), 1);
        }
    }

    private static void save() {
        CHECKS.part("promise 18");
        ObjectFile x = new ObjectFile();
        for (int way : new int[] {-1, 3, 4, MIN, MAX}) {
            due("save(" + way + ")", x.save(way), BAD);
        }
        for (int n = 1; n <= 5; n++) {
            x.setNumber(1, n);
            due("save(0)", x.save(0), n);
        }
        x.setNumber(1, 6);
        due("save(0), the sixth", x.save(0), FULL);
        due("save(3) with five", x.save(3), BAD);
        due("value(1, 0) after refusals", x.value(1, 0), 6);
        for (int r = 0; r < 5; r++) {
            due("open(" + r + ")", x.open(r), 1);
            due("value(1, 0) of revision " + r, x.value(1, 0), r + 1);
        }
        for (int way = 1; way <= 2; way++) {
            x.setNumber(1, 10 * way);
            due("save(" + way + ")", x.save(way), 1);
            due("open(1)", x.open(1), BAD);
            x.setNumber(1, 11 * way);
            due("save(0) after save(" + way + ")", x.save(0), 2);
            due("open(0)", x.open(0), 1);
            due("value(1, 0)", x.value(1, 0), 10 * way);
            due("open(1)", x.open(1), 1);
            due("value(1, 0)", x.value(1, 0), 11 * way);
        }
        ObjectFile y = new ObjectFile();
        due("save(2) of a new object", y.save(2), 1);
        due("open(0), nothing in it", y.open(0), 0);
    }

    private static void saveKeepsEverything() {
        CHECKS.part("promise 18");
        for (int way = 0; way <= 2; way++) {
            ObjectFile x = Samples.everyKind();
            String before = Samples.objectsOf(x);
            x.save(way);
            CHECKS.holds("save(" + way + ") leaves the objects", Samples.objectsOf(x).equals(before));
            x.begin(4, 4);
            x.append(2, 1);
            x.push(3, 0, 1);
            x.setLink(1, 1);
            x.setNumber(8, 1);
            x.remove(5);
            x.open(0);
            CHECKS.holds("open(0) after save(" + way + ") brings all back", Samples.objectsOf(x).equals(before));
        }
    }

    private static void open() {
        CHECKS.part("promise 19");
        ObjectFile x = Samples.everyKind();
        x.save(0);
        x.setNumber(8, 4);
        x.save(0);
        for (int r : new int[] {-1, 2, 3, 5, MIN, MAX}) {
            due("open(" + r + ")", x.open(r), BAD);
        }
        due("kind(8) after refusals", x.kind(8), 1);
        due("open(0)", x.open(0), 5);
        due("kind(8)", x.kind(8), 0);
        due("revisions()", x.revisions(), 2);
        due("open(1)", x.open(1), 6);
        due("value(8, 0)", x.value(8, 0), 4);
        x.setNumber(8, 5);
        x.open(1);
        due("value(8, 0), opened again", x.value(8, 0), 4);
        x.begin(7, 2);
        x.open(0);
        due("kind(7), absent in the revision", x.kind(7), 0);
        x.remove(1);
        x.save(0);
        due("open(2)", x.open(2), 4);
    }

    private static void revisions() {
        CHECKS.part("promise 20");
        ObjectFile x = new ObjectFile();
        due("revisions()", x.revisions(), 0);
        for (int n = 1; n <= 5; n++) {
            x.save(0);
            due("revisions()", x.revisions(), n);
        }
        x.save(0);
        due("revisions() after FULL", x.revisions(), 5);
        x.save(9);
        due("revisions() after BAD", x.revisions(), 5);
        x.open(0);
        due("revisions() after open", x.revisions(), 5);
        x.save(1);
        due("revisions() after save(1)", x.revisions(), 1);
        x.save(0);
        x.save(2);
        due("revisions() after save(2)", x.revisions(), 1);
    }

    private static void breakOff() {
        CHECKS.part("promise 21");
        for (int way = 0; way <= 2; way++) {
            ObjectFile x = Samples.everyKind();
            for (int o = 6; o <= 8; o++) {
                x.setNumber(o, o);
            }
            due("breakOff(" + way + ", 3) without revisions", x.breakOff(way, 3), 0);
            for (int o = 1; o <= 8; o++) {
                due("kind(" + o + ")", x.kind(o), 0);
            }
            for (int n = 1; n <= 5; n++) {
                x.setNumber(1, n);
                x.save(0);
                x.setNumber(1, 100);
                x.setNumber(2, 100);
                due("breakOff(" + way + ", 0)", x.breakOff(way, 0), n);
                due("value(1, 0)", x.value(1, 0), n);
                due("kind(2)", x.kind(2), 0);
            }
            x.open(1);
            due("breakOff(" + way + ", 1) with five", x.breakOff(way, 1), 5);
            due("value(1, 0), of the last revision", x.value(1, 0), 5);
            due("open(0)", x.open(0), 1);
            due("value(1, 0), of the first revision", x.value(1, 0), 1);
        }
        for (int steps : new int[] {-1, 0, 1, 160, 800, MIN, MAX}) {
            ObjectFile x = Samples.everyKind();
            x.save(0);
            String saved = Samples.stateOf(x);
            x.setNumber(2, 6);
            due("breakOff(1, " + steps + ")", x.breakOff(1, steps), 1);
            CHECKS.holds("breakOff(1, " + steps + ") brings the revision back", Samples.stateOf(x).equals(saved));
        }
        ObjectFile x = Samples.everyKind();
        x.save(0);
        x.setNumber(2, 6);
        for (int way : new int[] {-1, 3, MIN, MAX}) {
            due("breakOff(" + way + ", 0)", x.breakOff(way, 0), BAD);
        }
        due("value(2, 0) after refusals", x.value(2, 0), 6);
    }

    private static void changed() {
        CHECKS.part("promise 22");
        ObjectFile x = new ObjectFile();
        due("changed() of a new object", x.changed(), 0);
        x.begin(8, 3);
        due("changed() without revisions", x.changed(), 1);
        x.remove(8);
        due("changed(), all absent again", x.changed(), 0);
        x.setNumber(1, 1);
        x.save(0);
        due("changed() after save(0)", x.changed(), 0);
        x.setNumber(1, 2);
        due("changed()", x.changed(), 1);
        x.setNumber(1, 1);
        due("changed(), set back", x.changed(), 0);
        x.setNumber(1, 2);
        x.save(0);
        x.open(0);
        due("changed(), an older revision opened", x.changed(), 1);
        x.open(1);
        due("changed(), the last one opened", x.changed(), 0);
        x.open(0);
        x.breakOff(0, 7);
        due("changed() after breakOff", x.changed(), 0);
        x.open(0);
        x.save(1);
        due("changed() after save(1)", x.changed(), 0);
        x.remove(1);
        due("changed(), all absent but not in the revision", x.changed(), 1);
        x.save(2);
        due("changed() after save(2)", x.changed(), 0);
    }

    private static void changedInEveryPart() {
        CHECKS.part("promise 22");
        ObjectFile x = Samples.everyKind();
        x.save(0);
        x.setNumber(1, 0);
        due("changed(), another number", x.changed(), 1);
        x.open(0);
        x.pop(2);
        due("changed(), a byte less", x.changed(), 1);
        x.append(2, 255);
        due("changed(), the byte again", x.changed(), 0);
        x.pop(3);
        x.push(3, 0, 8);
        due("changed(), a number for a link in a list", x.changed(), 1);
        x.pop(3);
        x.push(3, 1, 8);
        due("changed(), a name for a link in a list", x.changed(), 1);
        x.open(0);
        x.put(code(4, 0, 0), 3);
        due("changed(), a number for a link in a table", x.changed(), 1);
        x.open(0);
        x.pop(4);
        x.put(code(4, 30, 0), MAX);
        due("changed(), another key", x.changed(), 1);
        x.pop(4);
        x.put(code(4, 31, 0), MAX);
        due("changed(), the key again", x.changed(), 0);
        x.setNumber(5, 4);
        due("changed(), a number for a link", x.changed(), 1);
        x.open(0);
        x.begin(8, 2);
        due("changed(), a text without bytes for an absent one", x.changed(), 1);
        x.save(0);
        x.begin(8, 4);
        due("changed(), a table for a text, both with nothing", x.changed(), 1);
        x.put(code(8, 9, 1), 5);
        x.begin(8, 2);
        due("changed(), a text without bytes that was a table", x.changed(), 0);
        x.append(8, 200);
        x.pop(8);
        due("changed(), the byte popped again", x.changed(), 0);
        ObjectFile y = new ObjectFile();
        for (int o = 1; o <= 8; o++) {
            y.begin(o, 3);
            due("changed() of object " + o + " without revisions", y.changed(), 1);
            y.remove(o);
        }
        y.save(0);
        for (int o = 1; o <= 8; o++) {
            y.begin(o, 3);
            due("changed() of object " + o, y.changed(), 1);
            y.remove(o);
            due("changed() of object " + o + ", removed again", y.changed(), 0);
        }
    }

    /** Every object with as much as it can hold: none takes room from another. */
    private static void fullObjects() {
        CHECKS.part("terms, limits");
        for (int kind = 2; kind <= 4; kind++) {
            int room = Samples.room(kind);
            ObjectFile x = new ObjectFile();
            for (int o = 8; o >= 1; o--) {
                x.begin(o, kind);
                for (int n = 1; n <= room; n++) {
                    due("filling " + o, Samples.fill(x, o, kind, 3 * o + n), n);
                }
                due("filling " + o + " above its room", Samples.fill(x, o, kind, 3 * o), FULL);
            }
            x.save(2);
            x.breakOff(0, 0);
            for (int o = 1; o <= 8; o++) {
                due("kind(" + o + ")", x.kind(o), kind);
                due("size(" + o + ")", x.size(o), room);
                for (int n = 1; n <= room; n++) {
                    due("value(" + o + ", " + (n - 1) + ")", x.value(o, n - 1), 3 * o + n);
                    due("valueKind(" + o + ", " + (n - 1) + ")", x.valueKind(o, n - 1), kind == 2 ? 3 : 0);
                    due("key(" + o + ", " + (n - 1) + ")", x.key(o, n - 1), kind == 4 ? 3 * o + n : NONE);
                }
            }
        }
    }

    private static void digest() {
        CHECKS.part("promise 23");
        ObjectFile x = new ObjectFile();
        for (int o = 1; o <= 8; o++) {
            x.begin(o, 2);
            due("digest(), a text without bytes", x.digest(), 2000 * o);
            x.begin(o, 4);
            due("digest(), a table without entries", x.digest(), 4000 * o);
            x.setNumber(o, -3);
            due("digest(), a number", x.digest(), 1000 * o - 3 * (8 * o + 1));
            x.setLink(o, 7);
            due("digest(), a link", x.digest(), 5000 * o + 7 * (8 * o + 1));
            x.remove(o);
        }
        ObjectFile y = withText(3, 1, 2, 3, 4, 5, 255);
        due("digest(), six bytes", y.digest(), 6000 + 25 + 52 + 81 + 112 + 145 + 30 * 255);
        y.begin(2, 4);
        y.put(code(2, 20, 0), 100);
        y.put(code(2, 10, 1), 6);
        due("digest(), a table by rising keys", y.digest(), 6000 + 415 + 7650 + 8000 + 17 * 6 + 18 * 100);
        ObjectFile z = new ObjectFile();
        z.setNumber(8, MAX);
        due("digest(), wrapping", z.digest(), 8000 + 65 * MAX);
        z.setNumber(7, MIN);
        due("digest(), wrapping", z.digest(), 15000 + 65 * MAX + 57 * MIN);
    }

    private static void orderAndLimits() {
        CHECKS.part("promise 24");
        ObjectFile x = new ObjectFile();
        for (int o = 1; o <= 8; o++) {
            due("resolve(" + o + "), absent", x.resolve(o), NONE);
        }
        x.setNumber(4, 1);
        due("resolve(4)", x.resolve(4), 4);
        x.remove(4);
        due("resolve(4), removed", x.resolve(4), NONE);
        due("resolve(9)", x.resolve(9), BAD);
    }

    private static void refusedCallsChangeNothing() {
        CHECKS.part("terms, refused calls");
        ObjectFile x = Samples.everyKind();
        for (int n = 0; n < 5; n++) {
            x.save(0);
        }
        x.push(3, 0, 1);
        x.put(code(4, 5, 0), 2);
        x.begin(7, 2);
        for (int n = 0; n < 6; n++) {
            x.append(7, n);
        }
        String before = Samples.stateOf(x);
        int[] answers = {
            x.setNumber(0, 1), x.setNumber(9, 1), x.setLink(1, 0), x.setLink(9, 1), x.begin(1, 5),
            x.begin(9, 2), x.append(7, 256), x.append(1, 1), x.append(7, 1), x.push(3, 3, 1),
            x.push(2, 0, 1), x.push(3, 0, 1), x.put(576, 1), x.put(code(4, 5, 1), 9),
            x.put(code(3, 0, 0), 1), x.put(code(4, 6, 0), 1), x.pop(0), x.pop(1), x.pop(8),
            x.remove(9), x.save(0), x.save(3), x.open(5), x.open(-1), x.breakOff(3, 1)};
        for (int n = 0; n < answers.length; n++) {
            CHECKS.holds("refusal " + n, answers[n] < 0);
        }
        CHECKS.holds("nothing is changed", Samples.stateOf(x).equals(before));
    }

    private static void questionsChangeNothing() {
        CHECKS.part("terms, questions");
        ObjectFile x = Samples.everyKind();
        x.save(0);
        x.setNumber(6, 3);
        String before = Samples.stateOf(x);
        for (int o = 0; o <= 9; o++) {
            x.resolve(o);
            x.links(o);
            x.kind(o);
            x.size(o);
            for (int i = -1; i <= 7; i++) {
                x.value(o, i);
                x.valueKind(o, i);
                x.key(o, i);
            }
        }
        x.revisions();
        x.changed();
        x.digest();
        CHECKS.holds("nothing is changed", Samples.stateOf(x).equals(before));
    }
}
