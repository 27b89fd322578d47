/** The boundary cases of promises 2 to 10, one test for each sentence. */
public final class SettingTest {
    private static final int BAD = Samples.BAD;
    private static final int NONE = Samples.NONE;
    private static final int FULL = Samples.FULL;
    private static final int MIN = Samples.MIN;
    private static final int MAX = Samples.MAX;
    private static final Checks CHECKS = new Checks();

    private interface Setter {
        int set(ObjectFile x, int o);
    }

    public static void main(String[] args) {
        setNumberSentences();
        setLinkSentences();
        beginSentences();
        appendSentences();
        pushSentences();
        putSentences();
        popSentences();
        removeSentences();
        sweepSentences();
        CHECKS.end();
    }

    private static void due(String call, long got, long want) {
        CHECKS.due(call, got, want);
    }

    private static int code(int o, int key, int link) {
        return Samples.code(o, key, link);
    }

    /** For every object and every kind that it may have been: the answer, and that it is the new kind alone. */
    private static void answersKindBefore(Setter setter, int kindThen, int sizeThen) {
        for (int o = 1; o <= 8; o++) {
            for (int before = 0; before <= 5; before++) {
                ObjectFile x = Samples.ofKind(o, before);
                due("setting " + o + " of kind " + before, setter.set(x, o), before);
                due("kind(" + o + ")", x.kind(o), kindThen);
                due("size(" + o + ")", x.size(o), sizeThen);
                due("valueKind(" + o + ", size)", x.valueKind(o, sizeThen), NONE);
            }
        }
    }

    private static void refusesObjectsNotGood(Setter setter) {
        for (int o : Samples.NOT_GOOD) {
            due("the call on " + o, setter.set(Samples.everyKind(), o), BAD);
        }
    }

    private static void answersNoneBut(Setter setter, int kind) {
        for (int o = 1; o <= 8; o++) {
            for (int other = 0; other <= 5; other++) {
                if (other != kind) {
                    due("the call on " + o + " of kind " + other, setter.set(Samples.ofKind(o, other), o), NONE);
                }
            }
        }
    }

    private static void setNumberSentences() {
        CHECKS.sentence("promise 2: o is not good: BAD",
            () -> refusesObjectsNotGood((x, o) -> x.setNumber(o, 1)));
        CHECKS.sentence("promise 2: else its kind before (0 if it was absent)",
            () -> answersKindBefore((x, o) -> x.setNumber(o, 5), 1, 1));
        CHECKS.sentence("promise 2: the object becomes a number, also the least and the greatest", () -> {
            ObjectFile x = new ObjectFile();
            for (int n : new int[] {MIN, -1, 0, 1, MAX}) {
                x.setNumber(8, n);
                due("value(8, 0)", x.value(8, 0), n);
                due("valueKind(8, 0)", x.valueKind(8, 0), 0);
            }
        });
        CHECKS.sentence("promise 2: a full one becomes a number too", () -> becomesFromFull((x, o) -> x.setNumber(o, 5), 1));
    }

    /** Setting a full text, list or table leaves none of its values. */
    private static void becomesFromFull(Setter setter, int sizeThen) {
        for (int kind = 2; kind <= 4; kind++) {
            ObjectFile x = new ObjectFile();
            Samples.makeFull(x, 2, kind, 1);
            due("setting a full one of kind " + kind, setter.set(x, 2), kind);
            due("size(2)", x.size(2), sizeThen);
            for (int i = sizeThen; i < 7; i++) {
                due("value(2, " + i + ")", x.value(2, i), 0);
                due("valueKind(2, " + i + ")", x.valueKind(2, i), NONE);
                due("key(2, " + i + ")", x.key(2, i), NONE);
            }
        }
    }

    private static void setLinkSentences() {
        CHECKS.sentence("promise 3: o is not good: BAD",
            () -> refusesObjectsNotGood((x, o) -> x.setLink(o, 1)));
        CHECKS.sentence("promise 3: to is not good: BAD",
            () -> refusesObjectsNotGood((x, to) -> x.setLink(1, to)));
        CHECKS.sentence("promise 3: neither is good: BAD",
            () -> refusesObjectsNotGood((x, o) -> x.setLink(o, o)));
        CHECKS.sentence("promise 3: else its kind before",
            () -> answersKindBefore((x, o) -> x.setLink(o, 9 - o), 5, 1));
        CHECKS.sentence("promise 3: the object becomes a link, also to itself and from 1 to 8", () -> {
            for (int o = 1; o <= 8; o++) {
                for (int to = 1; to <= 8; to++) {
                    ObjectFile x = new ObjectFile();
                    due("setLink(" + o + ", " + to + ")", x.setLink(o, to), 0);
                    due("value(" + o + ", 0)", x.value(o, 0), to);
                    due("valueKind(" + o + ", 0)", x.valueKind(o, 0), 2);
                    due("links(" + to + ")", x.links(to), 1);
                }
            }
        });
        CHECKS.sentence("promise 3: a full one becomes a link too", () -> becomesFromFull((x, o) -> x.setLink(o, 5), 1));
    }

    private static void beginSentences() {
        for (int kind = 2; kind <= 4; kind++) {
            int then = kind;
            CHECKS.sentence("promise 4: o is not good: BAD, kind " + kind,
                () -> refusesObjectsNotGood((x, o) -> x.begin(o, then)));
            CHECKS.sentence("promise 4: becomes one without values, of kind " + kind,
                () -> answersKindBefore((x, o) -> x.begin(o, then), then, 0));
            CHECKS.sentence("promise 4: also a full one becomes one without values, of kind " + kind,
                () -> becomesFromFull((x, o) -> x.begin(o, then), 0));
            CHECKS.sentence("promise 4: begun again it has all its room, kind " + kind, () -> {
                ObjectFile x = new ObjectFile();
                Samples.makeFull(x, 1, then, 1);
                x.begin(1, then);
                for (int n = 1; n <= Samples.room(then); n++) {
                    due("adding " + n, Samples.fill(x, 1, then, n), n);
                }
            });
        }
        CHECKS.sentence("promise 4: kind is not 2 .. 4: BAD", () -> {
            ObjectFile x = Samples.everyKind();
            for (int kind : new int[] {1, 5, 0, 6, -1, -2, 258, MIN + 2, MIN, MAX}) {
                for (int o = 1; o <= 8; o++) {
                    due("begin(" + o + ", " + kind + ")", x.begin(o, kind), BAD);
                }
            }
        });
    }

    private static void appendSentences() {
        CHECKS.sentence("promise 5: o is not good: BAD",
            () -> refusesObjectsNotGood((x, o) -> x.append(o, 1)));
        CHECKS.sentence("promise 5: b is not 0 .. 255: BAD", () -> {
            ObjectFile x = new ObjectFile();
            x.begin(1, 2);
            for (int b : new int[] {-1, 256, -256, 257, 65536, MIN, MAX}) {
                due("append(1, " + b + ")", x.append(1, b), BAD);
            }
            due("append(1, 0)", x.append(1, 0), 1);
            due("append(1, 255)", x.append(1, 255), 2);
            due("value(1, 0)", x.value(1, 0), 0);
            due("value(1, 1)", x.value(1, 1), 255);
        });
        CHECKS.sentence("promise 5: o is no text: NONE", () -> answersNoneBut((x, o) -> x.append(o, 1), 2));
        CHECKS.sentence("promise 5: it has six bytes: FULL", () -> {
            ObjectFile x = new ObjectFile();
            Samples.makeFull(x, 8, 2, 1);
            due("append(8, 0)", x.append(8, 0), FULL);
            due("append(8, 255)", x.append(8, 255), FULL);
            for (int i = 0; i < 6; i++) {
                due("value(8, " + i + ")", x.value(8, i), i + 1);
            }
        });
        CHECKS.sentence("promise 5: else how many it has then", () -> answersHowMany(2));
    }

    private static void answersHowMany(int kind) {
        ObjectFile x = new ObjectFile();
        x.begin(5, kind);
        for (int n = 1; n <= Samples.room(kind); n++) {
            due("adding " + n, Samples.fill(x, 5, kind, n), n);
            due("size(5)", x.size(5), n);
            due("value(5, " + (n - 1) + ")", x.value(5, n - 1), n);
        }
    }

    private static void pushSentences() {
        CHECKS.sentence("promise 6: o is not good: BAD", () -> {
            refusesObjectsNotGood((x, o) -> x.push(o, 0, 1));
            refusesObjectsNotGood((x, o) -> x.push(o, 1, 1));
            refusesObjectsNotGood((x, o) -> x.push(o, 2, 1));
        });
        CHECKS.sentence("promise 6: kind is not 0 .. 2: BAD", () -> {
            ObjectFile x = new ObjectFile();
            x.begin(1, 3);
            for (int kind : new int[] {-1, 3, 4, 5, 256, MIN, MAX}) {
                due("push(1, " + kind + ", 1)", x.push(1, kind, 1), BAD);
            }
        });
        CHECKS.sentence("promise 6: a name is not 0 .. 63: BAD", () -> {
            ObjectFile x = new ObjectFile();
            x.begin(1, 3);
            for (int name : new int[] {-1, 64, -64, 128, MIN, MAX}) {
                due("push(1, 1, " + name + ")", x.push(1, 1, name), BAD);
            }
            due("push(1, 1, 0)", x.push(1, 1, 0), 1);
            due("push(1, 1, 63)", x.push(1, 1, 63), 2);
        });
        CHECKS.sentence("promise 6: a link is not to 1 .. 8: BAD", () -> {
            refusesObjectsNotGood((x, to) -> x.push(3, 2, to));
            ObjectFile x = Samples.ofKind(1, 3);
            due("push(1, 2, 1)", x.push(1, 2, 1), 2);
            due("push(1, 2, 8)", x.push(1, 2, 8), 3);
        });
        CHECKS.sentence("promise 6: any int is a number", () -> {
            ObjectFile x = new ObjectFile();
            x.begin(1, 3);
            due("push(1, 0, MIN)", x.push(1, 0, MIN), 1);
            due("push(1, 0, MAX)", x.push(1, 0, MAX), 2);
        });
        CHECKS.sentence("promise 6: o is no list: NONE", () -> answersNoneBut((x, o) -> x.push(o, 0, 1), 3));
        CHECKS.sentence("promise 6: it has four items: FULL", () -> {
            ObjectFile x = new ObjectFile();
            Samples.makeFull(x, 8, 3, 1);
            due("push(8, 0, 1)", x.push(8, 0, 1), FULL);
            due("push(8, 1, 63)", x.push(8, 1, 63), FULL);
            due("push(8, 2, 8)", x.push(8, 2, 8), FULL);
            for (int i = 0; i < 4; i++) {
                due("value(8, " + i + ")", x.value(8, i), i + 1);
            }
        });
        CHECKS.sentence("promise 6: else how many it has then", () -> answersHowMany(3));
    }

    private static void putSentences() {
        CHECKS.sentence("promise 7: code is not such a one: BAD", SettingTest::putWrongCodes);
        CHECKS.sentence("promise 7: every code with o good and key 0 .. 31", SettingTest::putEveryCode);
        CHECKS.sentence("promise 7: a link is not to 1 .. 8: BAD", () -> {
            refusesObjectsNotGood((x, to) -> x.put(code(4, 0, 1), to));
            refusesObjectsNotGood((x, to) -> x.put(code(4, 7, 1), to));
        });
        CHECKS.sentence("promise 7: any int is a number", () -> {
            ObjectFile x = new ObjectFile();
            x.begin(1, 4);
            for (int n : new int[] {MIN, -1, 0, 9, MAX}) {
                due("put(64, " + n + ")", x.put(64, n), 1);
                due("value(1, 0)", x.value(1, 0), n);
            }
        });
        CHECKS.sentence("promise 7: o is no table: NONE", () -> {
            answersNoneBut((x, o) -> x.put(code(o, 0, 0), 1), 4);
            answersNoneBut((x, o) -> x.put(code(o, 31, 1), 1), 4);
        });
        CHECKS.sentence("promise 7: three entries, and none with the key: FULL", SettingTest::putAboveRoom);
        CHECKS.sentence("promise 7: three entries, one with the key: in its place", SettingTest::putInPlaceWhenFull);
        CHECKS.sentence("promise 7: in place of one that has the key", SettingTest::putInPlace);
        CHECKS.sentence("promise 7: else how many entries it has then", () -> answersHowMany(4));
    }

    private static void putWrongCodes() {
        ObjectFile x = new ObjectFile();
        for (int o = 1; o <= 8; o++) {
            x.begin(o, 4);
        }
        int[] codes = {
            63, 62, 1, 0, -1, -2, -63, -64, -65, -128, -576, 576, 577, 640, 1024, 64 + 65536,
            64 + (1 << 30), MIN + 64, MIN + 65, MIN + 575, MIN, MAX - 1, MAX};
        for (int code : codes) {
            due("put(" + code + ", 1)", x.put(code, 1), BAD);
        }
        for (int o = 1; o <= 8; o++) {
            due("size(" + o + ")", x.size(o), 0);
        }
    }

    private static void putEveryCode() {
        for (int code = 64; code <= 575; code++) {
            ObjectFile x = new ObjectFile();
            int o = code / 64;
            x.begin(o, 4);
            due("put(" + code + ", 5)", x.put(code, 5), 1);
            due("key(" + o + ", 0) of " + code, x.key(o, 0), (code - 64 * o) / 2);
            due("valueKind(" + o + ", 0) of " + code, x.valueKind(o, 0), code % 2 == 1 ? 2 : 0);
        }
    }

    private static void putAboveRoom() {
        for (int key : new int[] {0, 9, 11, 14, 16, 20, 21, 31}) {
            ObjectFile x = new ObjectFile();
            x.begin(1, 4);
            x.put(code(1, 15, 0), 150);
            x.put(code(1, 10, 0), 100);
            due("put of key " + key + ", the third", x.put(code(1, 22, 0), 220), 3);
            due("put of key " + key + ", a number", x.put(code(1, key, 0), 1), FULL);
            due("put of key " + key + ", a link", x.put(code(1, key, 1), 1), FULL);
            for (int i = 0; i < 3; i++) {
                due("key(1, " + i + ")", x.key(1, i), new int[] {10, 15, 22}[i]);
                due("value(1, " + i + ")", x.value(1, i), new int[] {100, 150, 220}[i]);
            }
        }
    }

    private static void putInPlaceWhenFull() {
        int[] keys = {0, 1, 31};
        for (int place = 0; place < 3; place++) {
            ObjectFile x = new ObjectFile();
            x.begin(8, 4);
            for (int key : keys) {
                x.put(code(8, key, 0), 10 + key);
            }
            due("put of key " + keys[place], x.put(code(8, keys[place], 1), 3), 3);
            for (int i = 0; i < 3; i++) {
                due("key(8, " + i + ")", x.key(8, i), keys[i]);
                due("value(8, " + i + ")", x.value(8, i), i == place ? 3 : 10 + keys[i]);
                due("valueKind(8, " + i + ")", x.valueKind(8, i), i == place ? 2 : 0);
            }
        }
    }

    private static void putInPlace() {
        ObjectFile x = new ObjectFile();
        x.begin(1, 4);
        due("put of a link", x.put(code(1, 31, 1), 2), 1);
        due("put of a number in its place", x.put(code(1, 31, 0), 2), 1);
        due("valueKind(1, 0)", x.valueKind(1, 0), 0);
        due("links(2)", x.links(2), 0);
        due("put of a link in its place", x.put(code(1, 31, 1), 2), 1);
        due("valueKind(1, 0)", x.valueKind(1, 0), 2);
        due("links(2)", x.links(2), 1);
        due("put of the same again", x.put(code(1, 31, 1), 2), 1);
        due("links(2)", x.links(2), 1);
    }

    private static void popSentences() {
        CHECKS.sentence("promise 8: o is not good: BAD", () -> refusesObjectsNotGood((x, o) -> x.pop(o)));
        CHECKS.sentence("promise 8: o is none of these: NONE", () -> {
            for (int o = 1; o <= 8; o++) {
                for (int kind : new int[] {0, 1, 5}) {
                    ObjectFile x = Samples.ofKind(o, kind);
                    due("pop(" + o + ") of kind " + kind, x.pop(o), NONE);
                    due("kind(" + o + ")", x.kind(o), kind);
                }
            }
        });
        CHECKS.sentence("promise 8: o has none: NONE", () -> {
            for (int kind = 2; kind <= 4; kind++) {
                ObjectFile x = new ObjectFile();
                x.begin(1, kind);
                due("pop(1) of kind " + kind + ", just begun", x.pop(1), NONE);
                Samples.fill(x, 1, kind, 1);
                x.pop(1);
                due("pop(1) of kind " + kind + ", all taken away", x.pop(1), NONE);
                due("kind(1)", x.kind(1), kind);
            }
        });
        CHECKS.sentence("promise 8: the last byte, else how many it has then", () -> popsTheLast(2));
        CHECKS.sentence("promise 8: the last item, else how many it has then", () -> popsTheLast(3));
        CHECKS.sentence("promise 8: the entry with the greatest key, in whatever order they came", () -> {
            for (int[] keys : new int[][] {{0, 1, 31}, {31, 1, 0}, {1, 31, 0}, {31, 0, 1}}) {
                ObjectFile x = new ObjectFile();
                x.begin(8, 4);
                for (int key : keys) {
                    x.put(code(8, key, 0), -key);
                }
                due("pop(8) of three", x.pop(8), 2);
                due("key(8, 1)", x.key(8, 1), 1);
                due("key(8, 2)", x.key(8, 2), NONE);
                due("pop(8) of two", x.pop(8), 1);
                due("key(8, 0)", x.key(8, 0), 0);
                due("pop(8) of one", x.pop(8), 0);
                due("key(8, 0)", x.key(8, 0), NONE);
            }
        });
    }

    private static void popsTheLast(int kind) {
        ObjectFile x = new ObjectFile();
        Samples.makeFull(x, 8, kind, 1);
        for (int n = Samples.room(kind) - 1; n >= 0; n--) {
            due("pop(8)", x.pop(8), n);
            due("size(8)", x.size(8), n);
            due("value(8, " + n + ")", x.value(8, n), 0);
            due("valueKind(8, " + n + ")", x.valueKind(8, n), NONE);
            for (int i = 0; i < n; i++) {
                due("value(8, " + i + ")", x.value(8, i), i + 1);
            }
        }
    }

    private static void removeSentences() {
        CHECKS.sentence("promise 9: o is not good: BAD", () -> refusesObjectsNotGood((x, o) -> x.remove(o)));
        CHECKS.sentence("promise 9: else its kind before, also of an absent one",
            () -> answersKindBefore((x, o) -> x.remove(o), 0, 0));
        CHECKS.sentence("promise 9: a full one becomes absent too", () -> becomesFromFull((x, o) -> x.remove(o), 0));
        CHECKS.sentence("promise 9: removed again, it was absent", () -> {
            ObjectFile x = Samples.everyKind();
            due("remove(5)", x.remove(5), 5);
            due("remove(5) again", x.remove(5), 0);
        });
        CHECKS.sentence("promise 9: it alone becomes absent", () -> {
            for (int gone = 1; gone <= 8; gone++) {
                ObjectFile x = new ObjectFile();
                for (int o = 1; o <= 8; o++) {
                    x.setNumber(o, o);
                }
                x.remove(gone);
                for (int o = 1; o <= 8; o++) {
                    due("kind(" + o + ") without " + gone, x.kind(o), o == gone ? 0 : 1);
                }
            }
        });
    }

    private static void sweepSentences() {
        CHECKS.sentence("promise 10: by a link of its own", () -> sweepKeeps(5, (x, o) -> x.setLink(1, o)));
        CHECKS.sentence("promise 10: by a link of an item, also the last", () -> sweepKeeps(3, (x, o) -> {
            Samples.makeFull(x, 1, 3, 1);
            x.pop(1);
            return x.push(1, 2, o);
        }));
        CHECKS.sentence("promise 10: by a link of an entry, also the last", () -> sweepKeeps(4, (x, o) -> {
            Samples.makeFull(x, 1, 4, 1);
            return x.put(code(1, 3, 1), o);
        }));
        CHECKS.sentence("promise 10: by all links of all items and entries", SettingTest::sweepByAllLinks);
        CHECKS.sentence("promise 10: not by numbers, names or bytes", SettingTest::sweepNotByOthers);
        CHECKS.sentence("promise 10: and so on, through all eight", SettingTest::sweepAlongAll);
        CHECKS.sentence("promise 10: and so on, round in a circle", SettingTest::sweepCircles);
        CHECKS.sentence("promise 10: not through an absent one", () -> {
            ObjectFile x = new ObjectFile();
            x.setLink(1, 2);
            x.setLink(2, 3);
            x.setNumber(3, 1);
            x.remove(2);
            due("sweep()", x.sweep(), 1);
            due("kind(1)", x.kind(1), 5);
            due("kind(3)", x.kind(3), 0);
        });
        CHECKS.sentence("promise 10: links to object 1 keep none", () -> {
            ObjectFile x = new ObjectFile();
            x.setNumber(1, 1);
            for (int o = 2; o <= 8; o++) {
                x.setLink(o, 1);
            }
            due("sweep()", x.sweep(), 7);
            due("kind(1)", x.kind(1), 1);
        });
        CHECKS.sentence("promise 10: if object 1 is absent, all", () -> {
            ObjectFile x = new ObjectFile();
            for (int o = 2; o <= 8; o++) {
                x.setLink(o, o == 8 ? 2 : o + 1);
            }
            due("sweep()", x.sweep(), 7);
            for (int o = 1; o <= 8; o++) {
                due("kind(" + o + ")", x.kind(o), 0);
            }
        });
        CHECKS.sentence("promise 10: how many became absent by that, none that were", () -> {
            ObjectFile x = new ObjectFile();
            due("sweep() of none", x.sweep(), 0);
            x.setNumber(1, 1);
            due("sweep() of object 1 alone", x.sweep(), 0);
            for (int n = 1; n <= 7; n++) {
                for (int o = 9 - n; o <= 8; o++) {
                    x.begin(o, 2);
                }
                due("sweep() of " + n, x.sweep(), n);
                due("sweep() again", x.sweep(), 0);
            }
        });
        CHECKS.sentence("promise 10: the file keeps its revisions", () -> {
            ObjectFile x = Samples.everyKind();
            x.save(0);
            String saved = Samples.objectsOf(x);
            x.sweep();
            due("revisions()", x.revisions(), 1);
            x.open(0);
            CHECKS.same("revision 0", Samples.objectsOf(x), saved);
        });
    }

    /** Object 1 gets one link, to each object in turn: that one alone is kept beside it, as it was. */
    private static void sweepKeeps(int kindOfFirst, Setter link) {
        for (int to = 1; to <= 8; to++) {
            ObjectFile x = new ObjectFile();
            for (int o = 2; o <= 8; o++) {
                x.setNumber(o, 10 * o);
            }
            link.set(x, to);
            due("sweep() with a link to " + to, x.sweep(), to == 1 ? 7 : 6);
            due("kind(1)", x.kind(1), kindOfFirst);
            for (int o = 2; o <= 8; o++) {
                due("kind(" + o + ")", x.kind(o), o == to ? 1 : 0);
                due("value(" + o + ", 0)", x.value(o, 0), o == to ? 10 * o : 0);
            }
        }
    }

    private static void sweepByAllLinks() {
        for (int first = 2; first <= 8; first++) {
            ObjectFile x = new ObjectFile();
            for (int o = 2; o <= 8; o++) {
                x.setNumber(o, o);
            }
            int other = first == 8 ? 2 : first + 1;
            x.begin(1, 3);
            for (int to : new int[] {first, other, other, first}) {
                x.push(1, 2, to);
            }
            due("sweep() of a list with two links to each of two", x.sweep(), 5);
            due("kind(" + first + ")", x.kind(first), 1);
            due("kind(" + other + ")", x.kind(other), 1);
        }
        ObjectFile x = new ObjectFile();
        for (int o = 2; o <= 8; o++) {
            x.setNumber(o, o);
        }
        x.begin(1, 3);
        for (int to = 2; to <= 5; to++) {
            x.push(1, 2, to);
        }
        x.begin(5, 4);
        for (int to = 6; to <= 8; to++) {
            x.put(code(5, 31 - to, 1), to);
        }
        due("sweep() of a list of four and a table of three", x.sweep(), 0);
    }

    private static void sweepNotByOthers() {
        for (int b = 0; b <= 8; b++) {
            ObjectFile text = new ObjectFile();
            for (int o = 2; o <= 8; o++) {
                text.setNumber(o, o);
            }
            text.begin(1, 2);
            for (int n = 0; n < 6; n++) {
                text.append(1, b);
            }
            due("sweep(), six bytes " + b, text.sweep(), 7);
        }
        ObjectFile x = new ObjectFile();
        x.setNumber(1, 2);
        x.setNumber(2, 2);
        due("sweep(), a number", x.sweep(), 1);
        x.begin(1, 2);
        x.append(1, 2);
        x.setNumber(2, 2);
        due("sweep(), a byte", x.sweep(), 1);
        x.begin(1, 3);
        x.push(1, 0, 2);
        x.push(1, 1, 3);
        x.setNumber(2, 2);
        x.setNumber(3, 2);
        due("sweep(), a number and a name in a list", x.sweep(), 2);
        x.begin(1, 4);
        x.put(code(1, 2, 0), 2);
        x.setNumber(2, 2);
        due("sweep(), a number in a table, and its key", x.sweep(), 1);
    }

    private static void sweepAlongAll() {
        for (int[] way : new int[][] {{1, 2, 3, 4, 5, 6, 7, 8}, {1, 8, 7, 6, 5, 4, 3, 2}, {1, 5, 2, 8, 3, 7, 4, 6}}) {
            for (int cut = 0; cut < 8; cut++) {
                ObjectFile x = new ObjectFile();
                for (int n = 0; n < 7; n++) {
                    linkInSomeWay(x, way[n], way[n + 1]);
                }
                x.setNumber(way[7], 1);
                x.setNumber(way[cut], 1);
                due("sweep() with the way cut at " + way[cut], x.sweep(), 7 - cut);
                for (int n = 0; n < 8; n++) {
                    due("whether " + way[n] + " is there", x.kind(way[n]) == 0 ? 0 : 1, n <= cut ? 1 : 0);
                }
            }
        }
    }

    private static void linkInSomeWay(ObjectFile x, int from, int to) {
        switch (from % 3) {
            case 0:
                x.setLink(from, to);
                break;
            case 1:
                x.begin(from, 3);
                x.push(from, 2, to);
                break;
            default:
                x.begin(from, 4);
                x.put(code(from, 31, 1), to);
                break;
        }
    }

    private static void sweepCircles() {
        ObjectFile x = new ObjectFile();
        for (int o = 1; o <= 8; o++) {
            x.setLink(o, o == 8 ? 1 : o + 1);
        }
        due("sweep() of a circle of eight", x.sweep(), 0);
        x.setLink(4, 1);
        due("sweep() of a circle of four, and four that lead into it", x.sweep(), 4);
        x.setLink(1, 1);
        due("sweep() of a link to itself", x.sweep(), 3);
        due("kind(1)", x.kind(1), 5);
        x.setLink(7, 8);
        x.setLink(8, 7);
        due("sweep() of a circle apart", x.sweep(), 2);
    }
}
