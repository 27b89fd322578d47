/** The boundary cases of promises 11 to 17, 23 and 24, one test for each sentence. */
public final class AskingTest {
    private static final int BAD = Samples.BAD;
    private static final int NONE = Samples.NONE;
    private static final int MIN = Samples.MIN;
    private static final int MAX = Samples.MAX;
    private static final Checks CHECKS = new Checks();

    private interface Question {
        int ask(ObjectFile x, int o);
    }

    public static void main(String[] args) {
        kindSentences();
        sizeSentences();
        valueSentences();
        valueKindSentences();
        keySentences();
        resolveSentences();
        linksSentences();
        digestSentences();
        CHECKS.end();
    }

    private static void due(String call, long got, long want) {
        CHECKS.due(call, got, want);
    }

    private static int code(int o, int key, int link) {
        return Samples.code(o, key, link);
    }

    private static void notGoodAnswers(Question question, int answer) {
        ObjectFile x = Samples.everyKind();
        for (int o : Samples.NOT_GOOD) {
            due("the question about " + o, question.ask(x, o), answer);
        }
    }

    /** For every object and every kind, the answer that is due for that kind. */
    private static void answersByKind(Question question, int... due) {
        for (int o = 1; o <= 8; o++) {
            for (int kind = 0; kind <= 5; kind++) {
                due("the question about " + o + " of kind " + kind,
                    question.ask(Samples.ofKind(o, kind), o), due[kind]);
            }
        }
    }

    /** Object 1, a text of six times the byte. */
    private static ObjectFile textOf(int b) {
        ObjectFile x = new ObjectFile();
        x.begin(1, 2);
        for (int n = 0; n < 6; n++) {
            x.append(1, b);
        }
        return x;
    }

    private static void kindSentences() {
        CHECKS.sentence("promise 11: o is not good: BAD", () -> notGoodAnswers((x, o) -> x.kind(o), BAD));
        CHECKS.sentence("promise 11: the kind; 0 if it is absent",
            () -> answersByKind((x, o) -> x.kind(o), 0, 1, 2, 3, 4, 5));
        CHECKS.sentence("promise 11: one without values has its kind still", () -> {
            ObjectFile x = new ObjectFile();
            for (int kind = 2; kind <= 4; kind++) {
                x.begin(8, kind);
                due("kind(8)", x.kind(8), kind);
            }
        });
    }

    private static void sizeSentences() {
        CHECKS.sentence("promise 12: o is not good: BAD", () -> notGoodAnswers((x, o) -> x.size(o), BAD));
        CHECKS.sentence("promise 12: 1 for a number or a link, 0 if it is absent",
            () -> answersByKind((x, o) -> x.size(o), 0, 1, 1, 1, 1, 1));
        CHECKS.sentence("promise 12: how many, from none to all that there is room for", () -> {
            for (int kind = 2; kind <= 4; kind++) {
                ObjectFile x = new ObjectFile();
                x.begin(8, kind);
                due("size(8), empty", x.size(8), 0);
                for (int n = 1; n <= Samples.room(kind); n++) {
                    Samples.fill(x, 8, kind, n);
                    due("size(8)", x.size(8), n);
                }
                Samples.fill(x, 8, kind, 31);
                due("size(8), full", x.size(8), Samples.room(kind));
            }
        });
        CHECKS.sentence("promise 12: 1 also for the number 0 and a link to an absent one", () -> {
            ObjectFile x = new ObjectFile();
            x.setNumber(1, 0);
            x.setLink(2, 3);
            due("size(1)", x.size(1), 1);
            due("size(2)", x.size(2), 1);
        });
    }

    private static void valueSentences() {
        CHECKS.sentence("promise 13: 0 if o is not good", () -> {
            notGoodAnswers((x, o) -> x.value(o, 0), 0);
            notGoodAnswers((x, o) -> x.value(o, -1), 0);
            notGoodAnswers((x, o) -> x.value(o, MAX), 0);
        });
        CHECKS.sentence("promise 13: 0 if there is none", () -> noneOutside((x, o, i) -> x.value(o, i), 0));
        CHECKS.sentence("promise 13: 0 the first, up to the last", () -> {
            for (int kind = 2; kind <= 4; kind++) {
                ObjectFile x = fullOfKind(kind);
                for (int i = 0; i < Samples.room(kind); i++) {
                    due("value(5, " + i + ")", x.value(5, i), 3 + i);
                }
            }
        });
        CHECKS.sentence("promise 13: of a table, by rising keys", () -> {
            for (int[] keys : new int[][] {{0, 1, 31}, {0, 31, 1}, {1, 0, 31}, {1, 31, 0}, {31, 0, 1}, {31, 1, 0}}) {
                ObjectFile x = new ObjectFile();
                x.begin(1, 4);
                for (int key : keys) {
                    x.put(code(1, key, 0), 100 - key);
                }
                due("value(1, 0)", x.value(1, 0), 100);
                due("value(1, 1)", x.value(1, 1), 99);
                due("value(1, 2)", x.value(1, 2), 69);
            }
        });
        CHECKS.sentence("promise 13: of a number or a link itself (i is 0)", () -> {
            for (int o = 1; o <= 8; o++) {
                ObjectFile x = Samples.ofKind(o, 1);
                due("value(" + o + ", 0) of a number", x.value(o, 0), 77);
                due("value(" + o + ", 1) of a number", x.value(o, 1), 0);
                due("value(" + o + ", -1) of a number", x.value(o, -1), 0);
                x.setLink(o, 8);
                due("value(" + o + ", 0) of a link", x.value(o, 0), 8);
                due("value(" + o + ", 1) of a link", x.value(o, 1), 0);
                due("value(" + o + ", -1) of a link", x.value(o, -1), 0);
            }
        });
    }

    private interface ValueQuestion {
        int ask(ObjectFile x, int o, int i);
    }

    /** All eight objects of the kind, full; the middle one's values are 3, 4, .. */
    private static ObjectFile fullOfKind(int kind) {
        ObjectFile x = new ObjectFile();
        for (int o = 1; o <= 8; o++) {
            Samples.makeFull(x, o, kind, o == 5 ? 3 : 20);
        }
        return x;
    }

    /** Above the last value, below the first, and far away: in full objects and in all kinds. */
    private static void noneOutside(ValueQuestion question, int answer) {
        for (int kind = 2; kind <= 4; kind++) {
            ObjectFile x = fullOfKind(kind);
            for (int o = 1; o <= 8; o++) {
                due("value " + Samples.room(kind) + " of " + o, question.ask(x, o, Samples.room(kind)), answer);
                for (int i : Samples.NO_PLACES) {
                    due("value " + i + " of " + o, question.ask(x, o, i), answer);
                }
            }
        }
        for (int kind = 0; kind <= 5; kind++) {
            for (int o : new int[] {1, 8}) {
                ObjectFile x = Samples.ofKind(o, kind);
                due("value 1 of " + o + " of kind " + kind, question.ask(x, o, 1), answer);
                for (int i : Samples.NO_PLACES) {
                    due("value " + i + " of " + o + " of kind " + kind, question.ask(x, o, i), answer);
                }
            }
        }
        ObjectFile x = new ObjectFile();
        due("value 0 of an absent one", question.ask(x, 1, 0), answer);
        for (int kind = 2; kind <= 4; kind++) {
            Samples.makeFull(x, 1, kind, 1);
            x.begin(1, kind);
            due("value 0 of an empty one", question.ask(x, 1, 0), answer);
        }
    }

    private static void valueKindSentences() {
        CHECKS.sentence("promise 14: o is not good: BAD", () -> {
            notGoodAnswers((x, o) -> x.valueKind(o, 0), BAD);
            notGoodAnswers((x, o) -> x.valueKind(o, -1), BAD);
            notGoodAnswers((x, o) -> x.valueKind(o, MAX), BAD);
        });
        CHECKS.sentence("promise 14: there is none: NONE", () -> noneOutside((x, o, i) -> x.valueKind(o, i), NONE));
        CHECKS.sentence("promise 14: 0 a number, 2 a link, 3 a byte, by the object's kind",
            () -> answersByKind((x, o) -> x.valueKind(o, 0), NONE, 0, 3, 0, 0, 2));
        CHECKS.sentence("promise 14: 3 a byte, in every place of a text, whatever byte", () -> {
            for (int b : new int[] {0, 1, 2, 3, 255}) {
                ObjectFile x = textOf(b);
                for (int i = 0; i < 6; i++) {
                    due("valueKind(1, " + i + ") of six bytes " + b, x.valueKind(1, i), 3);
                }
            }
        });
        CHECKS.sentence("promise 14: 0 a number, 1 a name, 2 a link, in every place of a list", () -> {
            for (int place = 0; place < 4; place++) {
                for (int kind = 0; kind <= 2; kind++) {
                    ObjectFile x = new ObjectFile();
                    x.begin(8, 3);
                    for (int i = 0; i < 4; i++) {
                        x.push(8, i == place ? kind : (kind + 1) % 3, 1);
                    }
                    for (int i = 0; i < 4; i++) {
                        due("valueKind(8, " + i + ")", x.valueKind(8, i), i == place ? kind : (kind + 1) % 3);
                    }
                }
            }
        });
        CHECKS.sentence("promise 14: 0 a number, 2 a link, in every place of a table", () -> {
            for (int place = 0; place < 3; place++) {
                ObjectFile x = new ObjectFile();
                x.begin(8, 4);
                for (int i = 2; i >= 0; i--) {
                    x.put(code(8, 10 * i, i == place ? 1 : 0), 1);
                }
                for (int i = 0; i < 3; i++) {
                    due("valueKind(8, " + i + ")", x.valueKind(8, i), i == place ? 2 : 0);
                }
            }
        });
    }

    private static void keySentences() {
        CHECKS.sentence("promise 15: o is not good: BAD", () -> {
            notGoodAnswers((x, o) -> x.key(o, 0), BAD);
            notGoodAnswers((x, o) -> x.key(o, -1), BAD);
            notGoodAnswers((x, o) -> x.key(o, MAX), BAD);
        });
        CHECKS.sentence("promise 15: it is no table: NONE",
            () -> answersByKind((x, o) -> x.key(o, 0), NONE, NONE, NONE, NONE, 11, NONE));
        CHECKS.sentence("promise 15: there is none: NONE", () -> noneOutside((x, o, i) -> x.key(o, i), NONE));
        CHECKS.sentence("promise 15: by rising keys, from 0 to 31", () -> {
            for (int[] keys : new int[][] {{0, 15, 31}, {0, 31, 15}, {15, 0, 31}, {15, 31, 0}, {31, 0, 15}, {31, 15, 0}}) {
                ObjectFile x = new ObjectFile();
                x.begin(8, 4);
                for (int key : keys) {
                    x.put(code(8, key, 1), 1);
                }
                due("key(8, 0)", x.key(8, 0), 0);
                due("key(8, 1)", x.key(8, 1), 15);
                due("key(8, 2)", x.key(8, 2), 31);
            }
        });
    }

    private static void resolveSentences() {
        CHECKS.sentence("promise 16: o is not good: BAD", () -> notGoodAnswers((x, o) -> x.resolve(o), BAD));
        CHECKS.sentence("promise 16: o itself if it is no link", () -> {
            for (int o = 1; o <= 8; o++) {
                for (int kind = 1; kind <= 4; kind++) {
                    due("resolve(" + o + ") of kind " + kind, Samples.ofKind(o, kind).resolve(o), o);
                }
            }
        });
        CHECKS.sentence("promise 16: o itself, also one without values or of links", () -> {
            ObjectFile x = new ObjectFile();
            for (int kind = 2; kind <= 4; kind++) {
                x.begin(1, kind);
                due("resolve(1), empty, of kind " + kind, x.resolve(1), 1);
            }
            x.put(code(1, 0, 1), 2);
            x.begin(3, 3);
            x.push(3, 2, 2);
            due("resolve(1), a table of a link", x.resolve(1), 1);
            due("resolve(3), a list of a link", x.resolve(3), 3);
        });
        CHECKS.sentence("promise 16: by following links, up to seven of them", () -> {
            for (int[] way : new int[][] {{1, 2, 3, 4, 5, 6, 7, 8}, {8, 7, 6, 5, 4, 3, 2, 1}, {3, 8, 1, 6, 2, 7, 4, 5}}) {
                for (int kind = 1; kind <= 4; kind++) {
                    ObjectFile x = Samples.ofKind(way[7], kind);
                    linkAlong(x, way, 7);
                    for (int o : way) {
                        due("resolve(" + o + ")", x.resolve(o), way[7]);
                    }
                }
            }
        });
        CHECKS.sentence("promise 16: one comes to an absent object: NONE", () -> {
            for (int links = 1; links <= 7; links++) {
                ObjectFile x = new ObjectFile();
                linkAlong(x, new int[] {4, 3, 2, 1, 8, 7, 6, 5}, links);
                due("resolve(4), " + links + " links to an absent one", x.resolve(4), NONE);
            }
        });
        CHECKS.sentence("promise 16: round in a circle: NONE", () -> {
            for (int back = 0; back < 8; back++) {
                ObjectFile x = new ObjectFile();
                for (int o = 1; o <= 7; o++) {
                    x.setLink(o, o + 1);
                }
                x.setLink(8, back + 1);
                for (int o = 1; o <= 8; o++) {
                    due("resolve(" + o + "), 8 links back to " + (back + 1), x.resolve(o), NONE);
                }
            }
            for (int o = 1; o <= 8; o++) {
                ObjectFile x = new ObjectFile();
                x.setLink(o, o);
                due("resolve(" + o + "), a link to itself", x.resolve(o), NONE);
            }
        });
        CHECKS.sentence("promise 24: NONE also if o itself is absent", () -> {
            ObjectFile x = new ObjectFile();
            for (int o = 1; o <= 8; o++) {
                due("resolve(" + o + "), absent at first", x.resolve(o), NONE);
                x.setNumber(o, 1);
                x.remove(o);
                due("resolve(" + o + "), removed", x.resolve(o), NONE);
            }
        });
    }

    private static void linkAlong(ObjectFile x, int[] way, int links) {
        for (int n = 0; n < links; n++) {
            x.setLink(way[n], way[n + 1]);
        }
    }

    private static void linksSentences() {
        CHECKS.sentence("promise 17: o is not good: BAD", () -> notGoodAnswers((x, o) -> x.links(o), BAD));
        CHECKS.sentence("promise 17: 0 if there is none", () -> {
            ObjectFile x = new ObjectFile();
            for (int o = 1; o <= 8; o++) {
                x.setNumber(o, o);
            }
            for (int o = 1; o <= 8; o++) {
                due("links(" + o + ")", x.links(o), 0);
            }
        });
        CHECKS.sentence("promise 17: of all objects, also of o itself", () -> {
            for (int to = 1; to <= 8; to++) {
                ObjectFile x = new ObjectFile();
                for (int from = 1; from <= 8; from++) {
                    x.setLink(from, to);
                    due("links(" + to + ")", x.links(to), from);
                }
            }
        });
        CHECKS.sentence("promise 17: of all items, 32 at most", () -> {
            ObjectFile x = new ObjectFile();
            int count = 0;
            for (int from = 1; from <= 8; from++) {
                x.begin(from, 3);
                for (int i = 0; i < 4; i++) {
                    x.push(from, 2, 8);
                    count++;
                    due("links(8)", x.links(8), count);
                }
            }
            due("links(7)", x.links(7), 0);
        });
        CHECKS.sentence("promise 17: of all entries, 24 at most", () -> {
            ObjectFile x = new ObjectFile();
            int count = 0;
            for (int from = 1; from <= 8; from++) {
                x.begin(from, 4);
                for (int i = 0; i < 3; i++) {
                    x.put(code(from, 31 - i, 1), 1);
                    count++;
                    due("links(1)", x.links(1), count);
                }
            }
            due("links(2)", x.links(2), 0);
        });
        CHECKS.sentence("promise 17: links alone: no number, name, byte or key", () -> {
            ObjectFile x = new ObjectFile();
            x.setNumber(1, 3);
            x.begin(2, 2);
            x.append(2, 3);
            x.begin(3, 3);
            x.push(3, 0, 3);
            x.push(3, 1, 3);
            x.begin(4, 4);
            x.put(code(4, 3, 0), 3);
            due("links(3)", x.links(3), 0);
            for (int b = 0; b <= 8; b++) {
                for (int o = 1; o <= 8; o++) {
                    due("links(" + o + "), six bytes " + b, textOf(b).links(o), 0);
                }
            }
        });
        CHECKS.sentence("promise 17: no longer those that were taken away", () -> {
            ObjectFile x = new ObjectFile();
            Samples.makeFull(x, 1, 3, 1);
            x.pop(1);
            x.push(1, 2, 6);
            x.begin(2, 4);
            x.put(code(2, 4, 1), 6);
            x.setLink(3, 6);
            due("links(6)", x.links(6), 3);
            x.pop(1);
            due("links(6), the item popped", x.links(6), 2);
            x.begin(2, 4);
            due("links(6), the table begun again", x.links(6), 1);
            x.remove(3);
            due("links(6), the link removed", x.links(6), 0);
        });
    }

    private static void digestSentences() {
        CHECKS.sentence("promise 23: 0 if all are absent", () -> {
            ObjectFile x = Samples.crowded();
            for (int o = 1; o <= 8; o++) {
                x.remove(o);
            }
            due("digest()", x.digest(), 0);
        });
        CHECKS.sentence("promise 23: 1000 * o times the kind, also one without values", () -> {
            for (int o = 1; o <= 8; o++) {
                ObjectFile x = new ObjectFile();
                for (int kind = 2; kind <= 4; kind++) {
                    x.begin(o, kind);
                    due("digest(), object " + o + " of kind " + kind, x.digest(), 1000 * o * kind);
                }
                x.setNumber(o, 0);
                due("digest(), the number 0", x.digest(), 1000 * o);
            }
        });
        CHECKS.sentence("promise 23: once for each object, however many values", () -> {
            for (int kind = 2; kind <= 4; kind++) {
                ObjectFile x = new ObjectFile();
                for (int o = 1; o <= 8; o++) {
                    x.begin(o, kind);
                    for (int n = 0; n < Samples.room(kind); n++) {
                        if (kind == 4) {
                            x.put(code(o, n, 0), 0);
                        } else {
                            Samples.fill(x, o, kind, 0);
                        }
                    }
                }
                due("digest(), all full of 0", x.digest(), 36000 * kind);
            }
        });
        CHECKS.sentence("promise 23: (8 * o + i + 1) times the value, the last one too", () -> {
            for (int kind = 2; kind <= 4; kind++) {
                for (int o = 1; o <= 8; o++) {
                    ObjectFile x = new ObjectFile();
                    Samples.makeFull(x, o, kind, 7);
                    int sum = 1000 * o * kind;
                    for (int i = 0; i < Samples.room(kind); i++) {
                        sum += (8 * o + i + 1) * (7 + i);
                    }
                    due("digest(), object " + o + " full, of kind " + kind, x.digest(), sum);
                }
            }
        });
        CHECKS.sentence("promise 23: over all values of all objects", () -> {
            ObjectFile x = new ObjectFile();
            int sum = 0;
            for (int o = 1; o <= 8; o++) {
                x.setLink(o, 9 - o);
                sum += (8 * o + 1) * (9 - o) + 5000 * o;
                due("digest()", x.digest(), sum);
            }
        });
        CHECKS.sentence("promise 23: wrapping", () -> {
            ObjectFile x = new ObjectFile();
            x.setNumber(1, MAX);
            // 9 * (2^31 - 1) + 1000 = 2^31 + 991 mod 2^32
            due("digest(), 9 times the greatest int", x.digest(), MIN + 991);
            x.setNumber(1, MIN);
            // 9 * -2^31 + 1000 = 2^31 + 1000 mod 2^32
            due("digest(), 9 times the least int", x.digest(), MIN + 1000);
            x.begin(1, 3);
            x.push(1, 0, MAX);
            x.push(1, 0, MIN);
            // 9 * (2^31 - 1) + 10 * -2^31 + 3000 = -2^31 - 9 + 3000
            due("digest(), the greatest and the least", x.digest(), MIN + 2991);
        });
    }
}
