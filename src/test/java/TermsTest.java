import java.util.ArrayList;
import java.util.List;
import java.util.function.ToIntFunction;

/** The boundary cases of "Terms" and of promise 1, one test for each sentence. */
public final class TermsTest {
    private static final int BAD = Samples.BAD;
    private static final int NONE = Samples.NONE;
    private static final int FULL = Samples.FULL;
    private static final int MIN = Samples.MIN;
    private static final int MAX = Samples.MAX;
    private static final Checks CHECKS = new Checks();

    private record Call(String name, int answer, ToIntFunction<ObjectFile> made) { }

    public static void main(String[] args) {
        CHECKS.sentence("terms: objects 1 .. 8", TermsTest::eightObjects);
        CHECKS.sentence("terms: an object is good if it is 1 .. 8", TermsTest::noOtherIsGood);
        CHECKS.sentence("terms: a number, an int", TermsTest::numbersAreInts);
        CHECKS.sentence("terms: at most six bytes", () -> atMost(2, 6));
        CHECKS.sentence("terms: bytes 0 .. 255", TermsTest::bytes);
        CHECKS.sentence("terms: at most four items", () -> atMost(3, 4));
        CHECKS.sentence("terms: at most three entries", () -> atMost(4, 3));
        CHECKS.sentence("terms: a key 0 .. 31", TermsTest::keys);
        CHECKS.sentence("terms: no two with the same key", TermsTest::noTwoWithTheSameKey);
        CHECKS.sentence("terms: item kind 0, any int", TermsTest::numberItems);
        CHECKS.sentence("terms: item kind 1, a name 0 .. 63", TermsTest::names);
        CHECKS.sentence("terms: item kind 2, a link to 1 .. 8", TermsTest::linkItems);
        CHECKS.sentence("terms: links may be to absent objects", TermsTest::linksToAbsentOnes);
        CHECKS.sentence("terms: at first all objects are absent", TermsTest::allAbsentAtFirst);
        CHECKS.sentence("terms: revisions are numbered 0, 1, .. in their order", TermsTest::numberedInOrder);
        CHECKS.sentence("terms: at most five revisions", TermsTest::atMostFiveRevisions);
        CHECKS.sentence("terms: no revisions at first", TermsTest::noRevisionsAtFirst);
        CHECKS.sentence("terms: a revision holds all objects as they were", TermsTest::revisionsHoldAll);
        CHECKS.sentence("terms: the tests are made in order, BAD before NONE", TermsTest::badBeforeNone);
        CHECKS.sentence("terms: the tests are made in order, BAD before FULL", TermsTest::badBeforeFull);
        CHECKS.sentence("terms: the tests are made in order, NONE before FULL", TermsTest::noneBeforeFull);
        for (Call call : refused()) {
            CHECKS.sentence("terms: refused, so it changes nothing: " + call.name(), () -> changesNothing(call));
        }
        for (Call call : refusedAtFirst()) {
            CHECKS.sentence("terms: refused at first, so it changes nothing: " + call.name(),
                () -> changesNothingAtFirst(call));
        }
        for (Call call : questions()) {
            CHECKS.sentence("terms: a question, so it changes nothing: " + call.name(), () -> changesNothing(call));
        }
        CHECKS.sentence("terms: a question, so it changes nothing: resolve in a circle",
            TermsTest::circleChangesNothing);
        CHECKS.sentence("promise 1: a new object has nothing of others", TermsTest::objectsAreApart);
        CHECKS.sentence("what it is: 512 calls are answered", TermsTest::manyCalls);
        CHECKS.end();
    }

    private static void due(String call, long got, long want) {
        CHECKS.due(call, got, want);
    }

    private static void eightObjects() {
        ObjectFile x = new ObjectFile();
        for (int o = 1; o <= 8; o++) {
            due("setNumber(" + o + ", " + 10 * o + ")", x.setNumber(o, 10 * o), 0);
        }
        for (int o = 1; o <= 8; o++) {
            due("kind(" + o + ")", x.kind(o), 1);
            due("value(" + o + ", 0)", x.value(o, 0), 10 * o);
        }
    }

    private static void noOtherIsGood() {
        for (int o : Samples.NOT_GOOD) {
            ObjectFile x = Samples.everyKind();
            String of = "(" + o + ", ..)";
            due("setNumber" + of, x.setNumber(o, 1), BAD);
            due("setLink" + of, x.setLink(o, 1), BAD);
            due("begin" + of, x.begin(o, 2), BAD);
            due("append" + of, x.append(o, 1), BAD);
            due("push" + of, x.push(o, 0, 1), BAD);
            due("pop" + of, x.pop(o), BAD);
            due("remove" + of, x.remove(o), BAD);
            due("kind" + of, x.kind(o), BAD);
            due("size" + of, x.size(o), BAD);
            due("value" + of, x.value(o, 0), 0);
            due("valueKind" + of, x.valueKind(o, 0), BAD);
            due("key" + of, x.key(o, 0), BAD);
            due("resolve" + of, x.resolve(o), BAD);
            due("links" + of, x.links(o), BAD);
        }
    }

    private static void numbersAreInts() {
        ObjectFile x = new ObjectFile();
        for (int n : new int[] {MIN, MIN + 1, -65536, -256, -1, 0, 255, 256, 65536, MAX - 1, MAX}) {
            x.setNumber(1, n);
            due("value(1, 0)", x.value(1, 0), n);
            x.save(1);
            x.remove(1);
            x.open(0);
            due("value(1, 0), opened", x.value(1, 0), n);
        }
    }

    private static void atMost(int kind, int room) {
        for (int o = 1; o <= 8; o++) {
            ObjectFile x = new ObjectFile();
            x.begin(o, kind);
            for (int n = 1; n <= room; n++) {
                due("adding " + n + " to " + o, Samples.fill(x, o, kind, n), n);
            }
            due("adding above the room of " + o, Samples.fill(x, o, kind, room + 1), FULL);
            due("size(" + o + ")", x.size(o), room);
            due("pop(" + o + ")", x.pop(o), room - 1);
            due("adding to " + o + " again", Samples.fill(x, o, kind, 30), room);
            due("the value that came last", x.value(o, room - 1), 30);
            due("adding above the room of " + o + " again", Samples.fill(x, o, kind, 31), FULL);
        }
    }

    private static void bytes() {
        for (int b = 0; b <= 255; b++) {
            ObjectFile x = new ObjectFile();
            x.begin(1, 2);
            due("append(1, " + b + ")", x.append(1, b), 1);
            due("value(1, 0)", x.value(1, 0), b);
        }
        ObjectFile x = new ObjectFile();
        x.begin(1, 2);
        for (int b : new int[] {-1, -128, -255, -256, 256, 257, 512, 65536, MIN, MAX}) {
            due("append(1, " + b + ")", x.append(1, b), BAD);
        }
    }

    private static void keys() {
        for (int key = 0; key <= 31; key++) {
            ObjectFile x = new ObjectFile();
            x.begin(1, 4);
            due("put of key " + key, x.put(64 + 2 * key, 5), 1);
            due("key(1, 0)", x.key(1, 0), key);
        }
        ObjectFile x = new ObjectFile();
        x.begin(1, 4);
        due("put of key -1", x.put(64 - 2, 5), BAD);
        // 64 + 2 * 32 is object 2 with key 0, which is absent.
        due("put of key 32", x.put(64 + 2 * 32, 5), NONE);
        due("size(1)", x.size(1), 0);
    }

    private static void noTwoWithTheSameKey() {
        for (int key : new int[] {0, 1, 15, 30, 31}) {
            ObjectFile x = new ObjectFile();
            x.begin(1, 4);
            x.put(Samples.code(1, key, 0), 5);
            due("put of key " + key + " again", x.put(Samples.code(1, key, 0), 6), 1);
            due("put of key " + key + " as a link", x.put(Samples.code(1, key, 1), 7), 1);
            due("key(1, 0)", x.key(1, 0), key);
            due("key(1, 1)", x.key(1, 1), NONE);
            due("value(1, 0)", x.value(1, 0), 7);
        }
    }

    private static void numberItems() {
        for (int n : new int[] {MIN, -1, 0, 9, 64, 256, MAX}) {
            ObjectFile x = new ObjectFile();
            x.begin(1, 3);
            due("push(1, 0, " + n + ")", x.push(1, 0, n), 1);
            due("value(1, 0)", x.value(1, 0), n);
            x.begin(2, 4);
            due("put of number " + n, x.put(128, n), 1);
            due("value(2, 0)", x.value(2, 0), n);
        }
    }

    private static void names() {
        for (int name = 0; name <= 63; name++) {
            ObjectFile x = new ObjectFile();
            x.begin(1, 3);
            due("push(1, 1, " + name + ")", x.push(1, 1, name), 1);
            due("value(1, 0)", x.value(1, 0), name);
        }
        ObjectFile x = new ObjectFile();
        x.begin(1, 3);
        for (int name : new int[] {-1, -63, -64, 64, 65, 127, 128, 256, 65536, MIN, MAX}) {
            due("push(1, 1, " + name + ")", x.push(1, 1, name), BAD);
        }
    }

    private static void linkItems() {
        ObjectFile x = new ObjectFile();
        for (int to = 1; to <= 8; to++) {
            x.begin(1, 3);
            due("push(1, 2, " + to + ")", x.push(1, 2, to), 1);
            due("value(1, 0)", x.value(1, 0), to);
            x.begin(2, 4);
            due("put of a link to " + to, x.put(129, to), 1);
            due("value(2, 0)", x.value(2, 0), to);
        }
        for (int to : Samples.NOT_GOOD) {
            due("push(1, 2, " + to + ")", x.push(1, 2, to), BAD);
            due("put of a link to " + to, x.put(129, to), BAD);
        }
    }

    private static void linksToAbsentOnes() {
        ObjectFile x = new ObjectFile();
        due("setLink(1, 8)", x.setLink(1, 8), 0);
        x.begin(2, 3);
        due("push(2, 2, 8)", x.push(2, 2, 8), 1);
        x.begin(3, 4);
        due("put of a link to 8", x.put(Samples.code(3, 0, 1), 8), 1);
        due("links(8), absent", x.links(8), 3);
        x.setNumber(8, 1);
        x.remove(8);
        due("links(8), removed", x.links(8), 3);
        due("kind(8)", x.kind(8), 0);
    }

    private static void allAbsentAtFirst() {
        ObjectFile x = new ObjectFile();
        for (int o = 1; o <= 8; o++) {
            due("kind(" + o + ")", x.kind(o), 0);
            due("size(" + o + ")", x.size(o), 0);
            due("value(" + o + ", 0)", x.value(o, 0), 0);
            due("valueKind(" + o + ", 0)", x.valueKind(o, 0), NONE);
            due("key(" + o + ", 0)", x.key(o, 0), NONE);
            due("links(" + o + ")", x.links(o), 0);
        }
        due("sweep()", x.sweep(), 0);
        due("changed()", x.changed(), 0);
        due("digest()", x.digest(), 0);
    }

    private static void numberedInOrder() {
        ObjectFile x = new ObjectFile();
        for (int r = 0; r < 5; r++) {
            x.setNumber(1, 10 + r);
            x.save(0);
        }
        for (int r : new int[] {0, 4, 1, 3, 2}) {
            due("open(" + r + ")", x.open(r), 1);
            due("value(1, 0) of revision " + r, x.value(1, 0), 10 + r);
        }
    }

    private static void atMostFiveRevisions() {
        ObjectFile x = new ObjectFile();
        for (int n = 1; n <= 5; n++) {
            due("save(0)", x.save(0), n);
        }
        due("save(0), the sixth", x.save(0), FULL);
        due("revisions()", x.revisions(), 5);
        due("open(4)", x.open(4), 0);
        due("open(5)", x.open(5), BAD);
    }

    private static void noRevisionsAtFirst() {
        ObjectFile x = new ObjectFile();
        due("revisions()", x.revisions(), 0);
        due("open(0)", x.open(0), BAD);
        due("breakOff(0, 1)", x.breakOff(0, 1), 0);
    }

    private static void revisionsHoldAll() {
        for (int way = 0; way <= 2; way++) {
            ObjectFile x = Samples.crowded();
            x.save(1);
            x.begin(6, 4);
            x.put(Samples.code(6, 31, 1), 6);
            String then = Samples.objectsOf(x);
            int r = x.save(way) - 1;
            for (int o = 1; o <= 8; o++) {
                x.setNumber(o, o);
            }
            x.open(r);
            CHECKS.same("what save(" + way + ") saved", Samples.objectsOf(x), then);
            x.pop(1);
            x.push(7, 0, 1);
            x.put(Samples.code(6, 31, 0), 6);
            x.open(r);
            CHECKS.same("what save(" + way + ") saved, after it was opened and changed",
                Samples.objectsOf(x), then);
        }
    }

    private static void badBeforeNone() {
        for (int kind : new int[] {0, 1, 3, 4, 5}) {
            due("append of 256 to kind " + kind, Samples.ofKind(1, kind).append(1, 256), BAD);
        }
        for (int kind : new int[] {0, 1, 2, 4, 5}) {
            due("push of kind 3 to kind " + kind, Samples.ofKind(1, kind).push(1, 3, 1), BAD);
            due("push of name 64 to kind " + kind, Samples.ofKind(1, kind).push(1, 1, 64), BAD);
            due("push of link 9 to kind " + kind, Samples.ofKind(1, kind).push(1, 2, 9), BAD);
        }
        for (int kind : new int[] {0, 1, 2, 3, 5}) {
            due("put of link 9 to kind " + kind, Samples.ofKind(1, kind).put(65, 9), BAD);
        }
        due("valueKind(9, -1)", Samples.everyKind().valueKind(9, -1), BAD);
        due("key(9, -1)", Samples.everyKind().key(9, -1), BAD);
    }

    private static void badBeforeFull() {
        ObjectFile x = Samples.crowded();
        due("append of 256 to a full text", x.append(1, 256), BAD);
        due("append of -1 to a full text", x.append(1, -1), BAD);
        due("push of kind 3 to a full list", x.push(2, 3, 1), BAD);
        due("push of name 64 to a full list", x.push(2, 1, 64), BAD);
        due("push of link 9 to a full list", x.push(2, 2, 9), BAD);
        due("put of link 9 to a full table", x.put(Samples.code(3, 30, 1), 9), BAD);
        due("put of link 9 in place, to a full table", x.put(Samples.code(3, 5, 1), 9), BAD);
        due("save(3) with five revisions", x.save(3), BAD);
        due("save(-1) with five revisions", x.save(-1), BAD);
    }

    private static void noneBeforeFull() {
        ObjectFile x = Samples.crowded();
        due("append to a full list", x.append(2, 1), NONE);
        due("append to a full table", x.append(3, 1), NONE);
        due("push to a full text", x.push(1, 0, 1), NONE);
        due("push to a full table", x.push(3, 0, 1), NONE);
        due("put to a full text", x.put(Samples.code(1, 1, 0), 1), NONE);
        due("put to a full list", x.put(Samples.code(2, 1, 0), 1), NONE);
    }

    private static List<Call> refused() {
        List<Call> calls = new ArrayList<>();
        for (int o : new int[] {0, 9, MIN, MAX}) {
            String of = "(" + o + ", ..)";
            calls.add(new Call("setNumber" + of, BAD, x -> x.setNumber(o, 1)));
            calls.add(new Call("setLink" + of, BAD, x -> x.setLink(o, 1)));
            calls.add(new Call("setLink(1, " + o + ")", BAD, x -> x.setLink(1, o)));
            calls.add(new Call("begin" + of, BAD, x -> x.begin(o, 2)));
            calls.add(new Call("append" + of, BAD, x -> x.append(o, 1)));
            calls.add(new Call("push" + of, BAD, x -> x.push(o, 0, 1)));
            calls.add(new Call("push(7, 2, " + o + ")", BAD, x -> x.push(7, 2, o)));
            calls.add(new Call("put(" + o + ", 1)", BAD, x -> x.put(o, 1)));
            calls.add(new Call("put of link " + o, BAD, x -> x.put(Samples.code(3, 5, 1), o)));
            calls.add(new Call("pop" + of, BAD, x -> x.pop(o)));
            calls.add(new Call("remove" + of, BAD, x -> x.remove(o)));
            calls.add(new Call("save" + of, BAD, x -> x.save(o == 0 ? 3 : o)));
            calls.add(new Call("open" + of, BAD, x -> x.open(o == 0 ? 5 : o)));
            calls.add(new Call("breakOff" + of, BAD, x -> x.breakOff(o == 0 ? 3 : o, 1)));
        }
        for (int kind : new int[] {-1, 0, 1, 5, 6}) {
            calls.add(new Call("begin(1, " + kind + ")", BAD, x -> x.begin(1, kind)));
        }
        calls.add(new Call("append(8, 256)", BAD, x -> x.append(8, 256)));
        calls.add(new Call("append(8, -1)", BAD, x -> x.append(8, -1)));
        calls.add(new Call("append(7, 1)", NONE, x -> x.append(7, 1)));
        calls.add(new Call("append(6, 1)", NONE, x -> x.append(6, 1)));
        calls.add(new Call("append(1, 1)", FULL, x -> x.append(1, 1)));
        calls.add(new Call("push(7, 3, 1)", BAD, x -> x.push(7, 3, 1)));
        calls.add(new Call("push(7, -1, 1)", BAD, x -> x.push(7, -1, 1)));
        calls.add(new Call("push(7, 1, 64)", BAD, x -> x.push(7, 1, 64)));
        calls.add(new Call("push(8, 0, 1)", NONE, x -> x.push(8, 0, 1)));
        calls.add(new Call("push(6, 0, 1)", NONE, x -> x.push(6, 0, 1)));
        calls.add(new Call("push(2, 0, 1)", FULL, x -> x.push(2, 0, 1)));
        calls.add(new Call("put(63, 1)", BAD, x -> x.put(63, 1)));
        calls.add(new Call("put(576, 1)", BAD, x -> x.put(576, 1)));
        calls.add(new Call("put to a list", NONE, x -> x.put(Samples.code(7, 1, 0), 1)));
        calls.add(new Call("put to an absent one", NONE, x -> x.put(Samples.code(6, 1, 0), 1)));
        calls.add(new Call("put of a key below all", FULL, x -> x.put(Samples.code(3, 0, 0), 1)));
        calls.add(new Call("put of a key above all", FULL, x -> x.put(Samples.code(3, 31, 1), 1)));
        calls.add(new Call("pop of a number", NONE, x -> x.pop(4)));
        calls.add(new Call("pop of a link", NONE, x -> x.pop(5)));
        calls.add(new Call("pop of an absent one", NONE, x -> x.pop(6)));
        calls.add(new Call("pop of an empty list", NONE, x -> x.pop(7)));
        calls.add(new Call("pop of an empty text", NONE, x -> x.pop(8)));
        calls.add(new Call("save(0) with five revisions", FULL, x -> x.save(0)));
        return calls;
    }

    private static List<Call> refusedAtFirst() {
        return List.of(
            new Call("save(-1)", BAD, x -> x.save(-1)),
            new Call("save(3)", BAD, x -> x.save(3)),
            new Call("open(0)", BAD, x -> x.open(0)),
            new Call("breakOff(-1, 0)", BAD, x -> x.breakOff(-1, 0)),
            new Call("breakOff(3, 0)", BAD, x -> x.breakOff(3, 0)));
    }

    private static List<Call> questions() {
        List<Call> calls = new ArrayList<>();
        calls.add(new Call("revisions()", 5, x -> x.revisions()));
        calls.add(new Call("changed()", 1, x -> x.changed()));
        calls.add(new Call("digest()", Samples.crowded().digest(), x -> x.digest()));
        calls.add(new Call("kind(1)", 2, x -> x.kind(1)));
        calls.add(new Call("kind(9)", BAD, x -> x.kind(9)));
        calls.add(new Call("size(1)", 6, x -> x.size(1)));
        calls.add(new Call("size(9)", BAD, x -> x.size(9)));
        calls.add(new Call("value(1, 5)", 6, x -> x.value(1, 5)));
        calls.add(new Call("value(1, 6)", 0, x -> x.value(1, 6)));
        calls.add(new Call("value(9, 0)", 0, x -> x.value(9, 0)));
        calls.add(new Call("valueKind(2, 3)", 0, x -> x.valueKind(2, 3)));
        calls.add(new Call("valueKind(2, 4)", NONE, x -> x.valueKind(2, 4)));
        calls.add(new Call("valueKind(0, 0)", BAD, x -> x.valueKind(0, 0)));
        calls.add(new Call("key(3, 2)", 7, x -> x.key(3, 2)));
        calls.add(new Call("key(3, 3)", NONE, x -> x.key(3, 3)));
        calls.add(new Call("key(0, 0)", BAD, x -> x.key(0, 0)));
        calls.add(new Call("resolve(4)", 4, x -> x.resolve(4)));
        calls.add(new Call("resolve(5)", NONE, x -> x.resolve(5)));
        calls.add(new Call("resolve(9)", BAD, x -> x.resolve(9)));
        calls.add(new Call("links(6)", 1, x -> x.links(6)));
        calls.add(new Call("links(9)", BAD, x -> x.links(9)));
        return calls;
    }

    private static void changesNothing(Call call) {
        ObjectFile x = Samples.crowded();
        due(call.name(), call.made().applyAsInt(x), call.answer());
        CHECKS.same("the state after " + call.name(), Samples.allOf(x), Samples.allOf(Samples.crowded()));
    }

    private static ObjectFile crowdedWithCircle() {
        ObjectFile x = Samples.crowded();
        x.setLink(5, 6);
        x.setLink(6, 5);
        return x;
    }

    private static void circleChangesNothing() {
        ObjectFile x = crowdedWithCircle();
        due("resolve(5)", x.resolve(5), NONE);
        CHECKS.same("the state", Samples.allOf(x), Samples.allOf(crowdedWithCircle()));
    }

    private static void changesNothingAtFirst(Call call) {
        ObjectFile x = Samples.everyKind();
        due(call.name(), call.made().applyAsInt(x), call.answer());
        CHECKS.same("the state after " + call.name(), Samples.allOf(x), Samples.allOf(Samples.everyKind()));
    }

    private static void objectsAreApart() {
        ObjectFile first = Samples.crowded();
        String before = Samples.stateOf(first);
        ObjectFile second = new ObjectFile();
        due("revisions() of the second", second.revisions(), 0);
        for (int o = 1; o <= 8; o++) {
            due("kind(" + o + ") of the second", second.kind(o), 0);
            second.setNumber(o, 3);
        }
        second.save(1);
        CHECKS.same("the first", Samples.stateOf(first), before);
    }

    private static void manyCalls() {
        ObjectFile x = new ObjectFile();
        for (int call = 1; call <= 511; call++) {
            due("setNumber(8, " + call + ")", x.setNumber(8, call), call == 1 ? 0 : 1);
        }
        due("value(8, 0), call 512", x.value(8, 0), 511);
    }
}
