/** What README.md says under "Use" holds: its example, and its tables of kinds and of refused calls. */
public final class UseTest {
    private static final Checks CHECKS = new Checks();

    public static void main(String[] args) {
        example();
        kinds();
        refusals();
        CHECKS.end();
    }

    private static void due(String call, int got, int want) {
        CHECKS.due(call, got, want);
    }

    private static void example() {
        CHECKS.part("README, the example");
        ObjectFile x = new ObjectFile();
        due("begin(1, 3)", x.begin(1, 3), 0);
        due("push(1, 2, 2)", x.push(1, 2, 2), 1);
        due("push(1, 1, 63)", x.push(1, 1, 63), 2);
        due("setNumber(2, 40)", x.setNumber(2, 40), 0);
        due("save(0)", x.save(0), 1);
        due("setNumber(2, 41)", x.setNumber(2, 41), 1);
        due("changed()", x.changed(), 1);
        due("open(0)", x.open(0), 2);
        due("value(2, 0)", x.value(2, 0), 40);
        due("begin(3, 4)", x.begin(3, 4), 0);
        due("put(64 * 3 + 2 * 9 + 0, 500)", x.put(64 * 3 + 2 * 9 + 0, 500), 1);
        due("put(64 * 3 + 2 * 4 + 1, 2)", x.put(64 * 3 + 2 * 4 + 1, 2), 2);
        due("key(3, 0)", x.key(3, 0), 4);
        due("links(2)", x.links(2), 2);
        due("setLink(4, 3)", x.setLink(4, 3), 0);
        due("resolve(4)", x.resolve(4), 3);
        due("sweep()", x.sweep(), 2);
        due("append(2, 65)", x.append(2, 65), -2);
        due("breakOff(0, 7)", x.breakOff(0, 7), 1);
        due("changed() at the end", x.changed(), 0);
    }

    private static void kinds() {
        CHECKS.part("README, the table of kinds");
        ObjectFile x = new ObjectFile();
        x.setNumber(1, 5);
        x.setLink(5, 1);
        kind(x, 1, 1, 0);
        kind(x, 5, 5, 2);
        for (int kind = 2; kind <= 4; kind++) {
            int room = Samples.room(kind);
            Samples.makeFull(x, kind, kind, 1);
            kind(x, kind, kind, kind == 2 ? 3 : 0);
            due("size of a full one of kind " + kind, x.size(kind), room);
            due("one more than a kind " + kind + " has room for", Samples.fill(x, kind, kind, 20), -3);
        }
        x.begin(3, 3);
        x.push(3, 0, 9);
        x.push(3, 1, 9);
        x.push(3, 2, 8);
        for (int i = 0; i < 3; i++) {
            due("valueKind of item " + i, x.valueKind(3, i), i);
        }
        x.begin(4, 4);
        x.put(Samples.code(4, 31, 1), 8);
        due("valueKind of an entry that is a link", x.valueKind(4, 0), 2);
        x.remove(4);
        due("kind of a removed one", x.kind(4), 0);
    }

    private static void kind(ObjectFile x, int o, int kind, int valueKind) {
        due("kind(" + o + ")", x.kind(o), kind);
        due("valueKind(" + o + ", 0)", x.valueKind(o, 0), valueKind);
    }

    private static void refusals() {
        CHECKS.part("README, refused calls");
        due("BAD", ObjectFile.BAD, -1);
        due("NONE", ObjectFile.NONE, -2);
        due("FULL", ObjectFile.FULL, -3);
        ObjectFile x = Samples.crowded();
        String before = Samples.stateOf(x);
        due("a wrong argument", x.setNumber(9, 1), ObjectFile.BAD);
        due("another kind", x.append(4, 1), ObjectFile.NONE);
        due("no such thing", x.pop(7), ObjectFile.NONE);
        due("no room in an object", x.append(1, 1), ObjectFile.FULL);
        due("no room in the file", x.save(0), ObjectFile.FULL);
        CHECKS.same("the state after refused calls", Samples.stateOf(x), before);
        due("value where there is none", x.value(7, 0), 0);
        due("valueKind where there is none", x.valueKind(7, 0), ObjectFile.NONE);
        due("size where there is none", x.size(7), 0);
    }
}
