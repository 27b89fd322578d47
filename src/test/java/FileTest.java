/** The boundary cases of promises 18 to 22, one test for each sentence. */
public final class FileTest {
    private static final int BAD = Samples.BAD;
    private static final int FULL = Samples.FULL;
    private static final int MIN = Samples.MIN;
    private static final int MAX = Samples.MAX;
    private static final int[] NO_WAYS = {-1, 3, -2, 4, 256, 65536, MIN + 1, MIN, MAX};
    private static final Checks CHECKS = new Checks();

    private interface Step {
        void on(ObjectFile x);
    }

    public static void main(String[] args) {
        saveSentences();
        openSentences();
        revisionsSentences();
        breakOffSentences();
        changedSentences();
        CHECKS.end();
    }

    private static void due(String call, long got, long want) {
        CHECKS.due(call, got, want);
    }

    private static int code(int o, int key, int link) {
        return Samples.code(o, key, link);
    }

    /** That many revisions, of the number 10, 11, .. in object 1; what is there now is another number. */
    private static ObjectFile withRevisions(int count) {
        ObjectFile x = new ObjectFile();
        for (int r = 0; r < count; r++) {
            x.setNumber(1, 10 + r);
            x.save(0);
        }
        x.setNumber(1, 99);
        x.begin(8, 2);
        return x;
    }

    private static void dueRevisions(ObjectFile x, int... numbers) {
        due("revisions()", x.revisions(), numbers.length);
        for (int r = 0; r < numbers.length; r++) {
            CHECKS.holds("open(" + r + ") is answered", x.open(r) >= 0);
            due("value(1, 0) of revision " + r, x.value(1, 0), numbers[r]);
        }
        due("open(" + numbers.length + ")", x.open(numbers.length), BAD);
    }

    private static void saveSentences() {
        CHECKS.sentence("promise 18: way is not 0 .. 2: BAD", () -> {
            for (int count = 0; count <= 5; count++) {
                ObjectFile x = withRevisions(count);
                for (int way : NO_WAYS) {
                    due("save(" + way + ") with " + count, x.save(way), BAD);
                }
                due("revisions()", x.revisions(), count);
            }
        });
        CHECKS.sentence("promise 18: way is 0: appended to the file", () -> {
            ObjectFile x = withRevisions(0);
            due("save(0)", x.save(0), 1);
            dueRevisions(x, 99);
            x = withRevisions(4);
            due("save(0), the fifth", x.save(0), 5);
            dueRevisions(x, 10, 11, 12, 13, 99);
        });
        CHECKS.sentence("promise 18: there are five revisions: FULL", () -> {
            ObjectFile x = withRevisions(5);
            due("save(0), the sixth", x.save(0), FULL);
            due("save(0), the sixth, again", x.save(0), FULL);
            dueRevisions(x, 10, 11, 12, 13, 14);
        });
        for (int way = 1; way <= 2; way++) {
            int only = way;
            CHECKS.sentence("promise 18: only this revision then, way " + way + ", from none to five before", () -> {
                for (int count = 0; count <= 5; count++) {
                    ObjectFile x = withRevisions(count);
                    due("save(" + only + ") with " + count, x.save(only), 1);
                    dueRevisions(x, 99);
                }
            });
            CHECKS.sentence("promise 18: after way " + way + " there is room for four more", () -> {
                ObjectFile x = withRevisions(5);
                x.save(only);
                for (int n = 2; n <= 5; n++) {
                    x.setNumber(1, 20 + n);
                    due("save(0)", x.save(0), n);
                }
                due("save(0), the sixth", x.save(0), FULL);
                dueRevisions(x, 99, 22, 23, 24, 25);
            });
        }
        CHECKS.sentence("promise 18: 2 is packed, which shows in no answer", () -> {
            ObjectFile one = Samples.crowded();
            ObjectFile two = Samples.crowded();
            due("save(2) beside save(1)", two.save(2), one.save(1));
            CHECKS.same("the state after save(2)", Samples.allOf(two), Samples.allOf(one));
        });
        CHECKS.sentence("promise 18: with what the objects are, also if all are absent", () -> {
            for (int way = 0; way <= 2; way++) {
                ObjectFile x = new ObjectFile();
                due("save(" + way + ")", x.save(way), 1);
                x.setNumber(1, 1);
                due("open(0)", x.open(0), 0);
                due("kind(1)", x.kind(1), 0);
            }
        });
        CHECKS.sentence("promise 18: the objects stay what they are", () -> {
            for (int way = 0; way <= 2; way++) {
                ObjectFile x = Samples.everyKind();
                x.save(way);
                CHECKS.same("the objects", Samples.objectsOf(x), Samples.objectsOf(Samples.everyKind()));
            }
        });
    }

    private static void openSentences() {
        CHECKS.sentence("promise 19: there is no revision r: BAD", () -> {
            for (int count = 0; count <= 5; count++) {
                ObjectFile x = withRevisions(count);
                for (int r : new int[] {-1, count, count + 1, 5, 6, 256, -5, MIN, MAX, MIN + 1}) {
                    due("open(" + r + ") with " + count, x.open(r), BAD);
                }
                due("value(1, 0)", x.value(1, 0), 99);
            }
        });
        CHECKS.sentence("promise 19: revisions that were given up are no more", () -> {
            for (int way = 1; way <= 2; way++) {
                ObjectFile x = withRevisions(5);
                x.save(way);
                for (int r = 1; r <= 5; r++) {
                    due("open(" + r + ") after save(" + way + ")", x.open(r), BAD);
                }
            }
        });
        CHECKS.sentence("promise 19: the first and the last revision", () -> {
            for (int count = 1; count <= 5; count++) {
                ObjectFile x = withRevisions(count);
                due("open(0) of " + count, x.open(0), 1);
                due("value(1, 0)", x.value(1, 0), 10);
                due("open(" + (count - 1) + ")", x.open(count - 1), 1);
                due("value(1, 0)", x.value(1, 0), 9 + count);
            }
        });
        CHECKS.sentence("promise 19: how many objects are not absent then, 0 .. 8", () -> {
            for (int n = 0; n <= 8; n++) {
                ObjectFile x = new ObjectFile();
                for (int o = 1; o <= n; o++) {
                    x.begin(o, 2 + o % 3);
                }
                x.save(0);
                for (int o = 1; o <= 8; o++) {
                    x.setNumber(o, 1);
                }
                due("open(0) of " + n, x.open(0), n);
                for (int o = 1; o <= 8; o++) {
                    due("kind(" + o + ")", x.kind(o), o <= n ? 2 + o % 3 : 0);
                }
            }
        });
        CHECKS.sentence("promise 19: all objects become what they are in it, the full ones too", () -> {
            for (int kind = 2; kind <= 4; kind++) {
                ObjectFile x = new ObjectFile();
                for (int o = 1; o <= 8; o++) {
                    Samples.makeFull(x, o, kind, o);
                }
                String saved = Samples.objectsOf(x);
                x.save(0);
                for (int o = 1; o <= 8; o++) {
                    x.setLink(o, o);
                }
                due("open(0)", x.open(0), 8);
                CHECKS.same("the objects", Samples.objectsOf(x), saved);
            }
        });
    }

    private static void revisionsSentences() {
        CHECKS.sentence("promise 20: how many, from none to five", () -> {
            for (int count = 0; count <= 5; count++) {
                due("revisions()", withRevisions(count).revisions(), count);
            }
        });
        CHECKS.sentence("promise 20: as many after a refused saving", () -> {
            ObjectFile x = withRevisions(5);
            x.save(0);
            due("revisions() after FULL", x.revisions(), 5);
            x.save(3);
            due("revisions() after BAD", x.revisions(), 5);
        });
        CHECKS.sentence("promise 20: as many after opening an older one", () -> {
            ObjectFile x = withRevisions(5);
            x.open(0);
            due("revisions()", x.revisions(), 5);
            due("save(0)", x.save(0), FULL);
        });
    }

    private static void breakOffSentences() {
        CHECKS.sentence("promise 21: way is not 0 .. 2: BAD", () -> {
            for (int count = 0; count <= 5; count++) {
                ObjectFile x = withRevisions(count);
                for (int way : NO_WAYS) {
                    due("breakOff(" + way + ", 1) with " + count, x.breakOff(way, 1), BAD);
                }
                due("value(1, 0)", x.value(1, 0), 99);
            }
        });
        for (int way = 0; way <= 2; way++) {
            int broken = way;
            CHECKS.sentence("promise 21: the file has the revisions that it had, way " + way, () -> {
                for (int count = 0; count <= 5; count++) {
                    ObjectFile x = withRevisions(count);
                    due("breakOff with " + count, x.breakOff(broken, 1000), count);
                    dueRevisions(x, java.util.Arrays.copyOf(new int[] {10, 11, 12, 13, 14}, count));
                }
            });
            CHECKS.sentence("promise 21: all objects become what they are in the last, way " + way, () -> {
                for (int count = 1; count <= 5; count++) {
                    ObjectFile x = withRevisions(count);
                    x.open(0);
                    x.begin(8, 2);
                    due("breakOff with " + count, x.breakOff(broken, 0), count);
                    due("value(1, 0)", x.value(1, 0), 9 + count);
                    due("kind(8)", x.kind(8), 0);
                }
            });
            CHECKS.sentence("promise 21: absent if there is none, way " + way, () -> {
                ObjectFile x = new ObjectFile();
                for (int o = 1; o <= 8; o++) {
                    Samples.makeFull(x, o, 2 + o % 3, 1);
                }
                due("breakOff", x.breakOff(broken, 7), 0);
                CHECKS.same("the objects", Samples.stateOf(x), Samples.stateOf(new ObjectFile()));
            });
            CHECKS.sentence("promise 21: steps (any int) shows in no answer, way " + way, () -> {
                for (int steps : new int[] {MIN, -1, 0, 1, 20, 159, 160, 161, 800, 65536, MAX - 1, MAX}) {
                    ObjectFile x = Samples.crowded();
                    ObjectFile opened = Samples.crowded();
                    due("breakOff(.., " + steps + ")", x.breakOff(broken, steps), 5);
                    opened.open(4);
                    CHECKS.same("the state", Samples.allOf(x), Samples.allOf(opened));
                }
            });
        }
        CHECKS.sentence("promise 21: also if there are five revisions and way is 0", () -> {
            ObjectFile x = withRevisions(5);
            due("breakOff(0, 1)", x.breakOff(0, 1), 5);
            due("value(1, 0)", x.value(1, 0), 14);
            due("save(0)", x.save(0), FULL);
        });
        CHECKS.sentence("promise 21: after it the file takes what it took before", () -> {
            ObjectFile x = withRevisions(3);
            x.breakOff(1, 5);
            x.setNumber(1, 50);
            due("save(0)", x.save(0), 4);
            dueRevisions(x, 10, 11, 12, 50);
        });
    }

    private static void changedSentences() {
        CHECKS.sentence("promise 22: without revisions: some object is not absent", () -> {
            for (int o = 1; o <= 8; o++) {
                for (int kind = 1; kind <= 5; kind++) {
                    ObjectFile x = Samples.ofKind(o, kind);
                    due("changed() with " + o + " of kind " + kind, x.changed(), 1);
                    x.remove(o);
                    due("changed() with it removed", x.changed(), 0);
                }
            }
        });
        CHECKS.sentence("promise 22: without revisions: also one without values is not absent", () -> {
            for (int kind = 2; kind <= 4; kind++) {
                ObjectFile x = new ObjectFile();
                x.begin(8, kind);
                due("changed()", x.changed(), 1);
            }
        });
        CHECKS.sentence("promise 22: the last revision, not another", () -> {
            for (int count = 1; count <= 5; count++) {
                ObjectFile x = withRevisions(count);
                due("changed() with " + count, x.changed(), 1);
                for (int r = 0; r < count; r++) {
                    x.open(r);
                    due("changed(), opened " + r + " of " + count, x.changed(), r == count - 1 ? 0 : 1);
                }
            }
        });
        CHECKS.sentence("promise 22: 0 after saving in every way", () -> {
            for (int way = 0; way <= 2; way++) {
                ObjectFile x = withRevisions(4);
                x.save(way);
                due("changed() after save(" + way + ")", x.changed(), 0);
            }
        });
        CHECKS.sentence("promise 22: all absent, but not in the last revision", () -> {
            ObjectFile x = withRevisions(1);
            x.remove(1);
            x.remove(8);
            due("changed()", x.changed(), 1);
            x.save(0);
            due("changed(), saved", x.changed(), 0);
        });
        CHECKS.sentence("promise 22: some object: any of the eight", () -> {
            for (int o = 1; o <= 8; o++) {
                ObjectFile x = new ObjectFile();
                for (int other = 1; other <= 8; other++) {
                    x.setNumber(other, other);
                }
                x.save(0);
                x.setNumber(o, o + 1);
                due("changed(), object " + o, x.changed(), 1);
                x.setNumber(o, o);
                due("changed(), object " + o + " set back", x.changed(), 0);
                x.remove(o);
                due("changed(), object " + o + " removed", x.changed(), 1);
            }
        });
        CHECKS.sentence("promise 22: not what it is: its kind alone", () -> {
            differs("a text for a list, both empty", x -> x.begin(1, 2), x -> x.begin(1, 3));
            differs("a table for a list, both empty", x -> x.begin(1, 4), x -> x.begin(1, 3));
            differs("an absent one for an empty text", x -> x.begin(1, 2), x -> x.remove(1));
            differs("a number for a link", x -> x.setLink(1, 2), x -> x.setNumber(1, 2));
        });
        CHECKS.sentence("promise 22: not what it is: how many values it has", () -> {
            for (int kind = 2; kind <= 4; kind++) {
                int of = kind;
                differs("one value less", x -> Samples.makeFull(x, 8, of, 1), x -> x.pop(8));
                differs("the value 0 more", x -> x.begin(8, of), x -> {
                    if (of == 4) {
                        x.put(code(8, 0, 0), 0);
                    } else {
                        Samples.fill(x, 8, of, 0);
                    }
                });
            }
        });
        CHECKS.sentence("promise 22: not what it is: a value, also the last one", () -> {
            for (int kind = 2; kind <= 4; kind++) {
                int of = kind;
                differs("the last value", x -> Samples.makeFull(x, 8, of, 1), x -> {
                    x.pop(8);
                    if (of == 4) {
                        x.put(code(8, 3, 0), 30);
                    } else {
                        Samples.fill(x, 8, of, 30);
                    }
                });
            }
        });
        CHECKS.sentence("promise 22: not what it is: what kind an item is", () -> {
            differs("a name for a number", x -> pushLast(x, 0), x -> pushLast(x, 1));
            differs("a link for a name", x -> pushLast(x, 1), x -> pushLast(x, 2));
            differs("a number for a link", x -> pushLast(x, 2), x -> pushLast(x, 0));
            differs("a link for a number in a table", x -> putLast(x, 31, 0), x -> putLast(x, 31, 1));
        });
        CHECKS.sentence("promise 22: not what it is: an entry's key alone",
            () -> differs("another key", x -> putLast(x, 30, 0), x -> putLast(x, 31, 0)));
        CHECKS.sentence("promise 22: made again in another way it is what it was", () -> {
            for (int kind = 2; kind <= 4; kind++) {
                ObjectFile x = new ObjectFile();
                x.begin(1, kind);
                x.save(0);
                for (int other = 2; other <= 4; other++) {
                    Samples.makeFull(x, 1, other, 9);
                    x.begin(1, kind);
                    due("changed(), begun again after kind " + other, x.changed(), 0);
                }
                Samples.makeFull(x, 1, kind, 9);
                for (int n = 0; n < Samples.room(kind); n++) {
                    x.pop(1);
                }
                due("changed(), all popped again", x.changed(), 0);
            }
            ObjectFile x = new ObjectFile();
            Samples.makeFull(x, 1, 4, 1);
            x.save(0);
            x.begin(1, 4);
            for (int n = 3; n >= 1; n--) {
                x.put(code(1, n, 0), n);
            }
            due("changed(), the same entries in another order", x.changed(), 0);
        });
    }

    private static void pushLast(ObjectFile x, int kind) {
        x.begin(8, 3);
        for (int n = 0; n < 3; n++) {
            x.push(8, 0, n);
        }
        x.push(8, kind, 8);
    }

    private static void putLast(ObjectFile x, int key, int link) {
        x.begin(8, 4);
        x.put(code(8, 0, 0), 1);
        x.put(code(8, 1, 0), 1);
        x.put(code(8, key, link), 8);
    }

    private static void differs(String what, Step first, Step then) {
        ObjectFile x = new ObjectFile();
        first.on(x);
        x.save(0);
        due("changed() before", x.changed(), 0);
        then.on(x);
        due("changed(), " + what, x.changed(), 1);
    }
}
