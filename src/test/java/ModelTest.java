import java.util.ArrayList;
import java.util.List;
import java.util.TreeMap;

/** Long fixed runs of calls, each answer held against a plain model of the document. */
public final class ModelTest {
    private static final int RUNS = 3000;
    private static final int CALLS = 512;
    private static final int[] EDGES = {
        Integer.MIN_VALUE, Integer.MAX_VALUE, -1, 0, 1, 63, 64, 255, 256, 575, 576};
    private static final Checks CHECKS = new Checks();

    private record Item(int kind, int value) { }

    /** A value of an object; the keys of all but tables are 0, 1, .. */
    private record Thing(int kind, TreeMap<Integer, Item> values) {
        Thing copy() {
            return new Thing(kind, new TreeMap<>(values));
        }

        Item nth(int i) {
            return i < 0 || i >= values.size() ? null : new ArrayList<>(values.values()).get(i);
        }
    }

    /** The document's state: an absent object is a thing of kind 0. */
    private static final class Model {
        private Thing[] things = absent();
        private final List<Thing[]> revisions = new ArrayList<>();

        private static Thing[] absent() {
            Thing[] all = new Thing[9];
            for (int o = 1; o <= 8; o++) {
                all[o] = new Thing(0, new TreeMap<>());
            }
            return all;
        }

        private static Thing[] copyOf(Thing[] from) {
            Thing[] all = new Thing[9];
            for (int o = 1; o <= 8; o++) {
                all[o] = from[o].copy();
            }
            return all;
        }

        private static boolean within(int n, int least, int greatest) {
            return least <= n && n <= greatest;
        }

        private static boolean item(int kind, int value) {
            return kind == 0 || kind == 1 && within(value, 0, 63) || kind == 2 && within(value, 1, 8);
        }

        private int become(int o, int kind, Item... values) {
            int before = things[o].kind();
            things[o] = new Thing(kind, new TreeMap<>());
            for (Item v : values) {
                things[o].values().put(0, v);
            }
            return before;
        }

        private int add(int o, int kind, int room, Item v) {
            TreeMap<Integer, Item> values = things[o].values();
            if (things[o].kind() != kind) {
                return -2;
            }
            if (values.size() == room) {
                return -3;
            }
            values.put(values.size(), v);
            return values.size();
        }

        private int put(int code, int value) {
            if (!within(code, 64, 575)) {
                return -1;
            }
            int o = code / 64;
            int key = code % 64 / 2;
            int kind = code % 2 * 2;
            if (!item(kind, value)) {
                return -1;
            }
            if (things[o].kind() != 4) {
                return -2;
            }
            TreeMap<Integer, Item> values = things[o].values();
            if (values.size() == 3 && !values.containsKey(key)) {
                return -3;
            }
            values.put(key, new Item(kind, value));
            return values.size();
        }

        private int pop(int o) {
            if (!within(things[o].kind(), 2, 4) || things[o].values().isEmpty()) {
                return -2;
            }
            things[o].values().pollLastEntry();
            return things[o].values().size();
        }

        private void mark(int o, boolean[] seen) {
            if (seen[o]) {
                return;
            }
            seen[o] = true;
            for (Item v : things[o].values().values()) {
                if (v.kind() == 2) {
                    mark(v.value(), seen);
                }
            }
        }

        private int sweep() {
            boolean[] seen = new boolean[9];
            mark(1, seen);
            int swept = 0;
            for (int o = 1; o <= 8; o++) {
                if (!seen[o] && become(o, 0) != 0) {
                    swept++;
                }
            }
            return swept;
        }

        private int resolve(int o) {
            boolean[] seen = new boolean[9];
            int at = o;
            while (things[at].kind() == 5 && !seen[at]) {
                seen[at] = true;
                at = things[at].nth(0).value();
            }
            return things[at].kind() == 0 || things[at].kind() == 5 ? -2 : at;
        }

        private int links(int to) {
            int count = 0;
            for (int o = 1; o <= 8; o++) {
                for (Item v : things[o].values().values()) {
                    count += v.equals(new Item(2, to)) ? 1 : 0;
                }
            }
            return count;
        }

        private int save(int way) {
            if (!within(way, 0, 2)) {
                return -1;
            }
            if (way == 0 && revisions.size() == 5) {
                return -3;
            }
            if (way != 0) {
                revisions.clear();
            }
            revisions.add(copyOf(things));
            return revisions.size();
        }

        private Thing[] last() {
            return revisions.isEmpty() ? absent() : revisions.get(revisions.size() - 1);
        }

        private int open(int r) {
            if (!within(r, 0, revisions.size() - 1)) {
                return -1;
            }
            things = copyOf(revisions.get(r));
            int present = 0;
            for (int o = 1; o <= 8; o++) {
                present += things[o].kind() != 0 ? 1 : 0;
            }
            return present;
        }

        private int breakOff(int way) {
            if (!within(way, 0, 2)) {
                return -1;
            }
            things = copyOf(last());
            return revisions.size();
        }

        private int changed() {
            for (int o = 1; o <= 8; o++) {
                if (!things[o].equals(last()[o])) {
                    return 1;
                }
            }
            return 0;
        }

        private int digest() {
            int sum = 0;
            for (int o = 1; o <= 8; o++) {
                sum += 1000 * o * things[o].kind();
                for (int i = 0; i < things[o].values().size(); i++) {
                    sum += (8 * o + i + 1) * things[o].nth(i).value();
                }
            }
            return sum;
        }

        private int key(int o, int i) {
            if (things[o].kind() != 4 || things[o].nth(i) == null) {
                return -2;
            }
            return new ArrayList<>(things[o].values().keySet()).get(i);
        }

        int answer(int method, int a, int b, int c) {
            boolean good = within(a, 1, 8);
            switch (method) {
                case 4: return put(a, b);
                case 7: return sweep();
                case 15: return save(a);
                case 16: return open(a);
                case 17: return revisions.size();
                case 18: return breakOff(a);
                case 19: return changed();
                case 20: return digest();
                case 10: return !good || things[a].nth(b) == null ? 0 : things[a].nth(b).value();
                default: return good ? answerOfObject(method, a, b, c) : -1;
            }
        }

        private int answerOfObject(int method, int o, int b, int c) {
            switch (method) {
                case 0: return become(o, 1, new Item(0, b));
                case 1: return within(b, 1, 8) ? become(o, 5, new Item(2, b)) : -1;
                case 2: return within(b, 2, 4) ? become(o, b) : -1;
                case 3: return within(b, 0, 255) ? add(o, 2, 6, new Item(3, b)) : -1;
                case 5: return pop(o);
                case 6: return become(o, 0);
                case 8: return things[o].kind();
                case 9: return things[o].values().size();
                case 11: return things[o].nth(b) == null ? -2 : things[o].nth(b).kind();
                case 12: return key(o, b);
                case 13: return resolve(o);
                case 14: return links(o);
                default: return within(b, 0, 2) && item(b, c) ? add(o, 3, 4, new Item(b, c)) : -1;
            }
        }
    }

    private static int answer(ObjectFile x, int method, int a, int b, int c) {
        switch (method) {
            case 0: return x.setNumber(a, b);
            case 1: return x.setLink(a, b);
            case 2: return x.begin(a, b);
            case 3: return x.append(a, b);
            case 4: return x.put(a, b);
            case 5: return x.pop(a);
            case 6: return x.remove(a);
            case 7: return x.sweep();
            case 8: return x.kind(a);
            case 9: return x.size(a);
            case 10: return x.value(a, b);
            case 11: return x.valueKind(a, b);
            case 12: return x.key(a, b);
            case 13: return x.resolve(a);
            case 14: return x.links(a);
            case 15: return x.save(a);
            case 16: return x.open(a);
            case 17: return x.revisions();
            case 18: return x.breakOff(a, b);
            case 19: return x.changed();
            case 20: return x.digest();
            default: return x.push(a, b, c);
        }
    }

    private static final String[] NAMES = {
        "setNumber", "setLink", "begin", "append", "put", "pop", "remove", "sweep", "kind", "size",
        "value", "valueKind", "key", "resolve", "links", "save", "open", "revisions", "breakOff",
        "changed", "digest", "push"};

    /** How often each method comes, in the order of the names: more that fill than that empty. */
    private static final int[] SHARES = {
        2, 6, 6, 14, 16, 4, 2, 1, 2, 3, 8, 6, 5, 6, 4, 4, 3, 1, 1, 6, 8, 14};

    private static long seed = 1;

    /** A fixed row of numbers, the same in every run of the test. */
    private static int below(int bound) {
        seed = seed * 6364136223846793005L + 1442695040888963407L;
        return (int) ((seed >>> 33) % bound);
    }

    private static int pickMethod() {
        int sum = 0;
        for (int share : SHARES) {
            sum += share;
        }
        int n = below(sum);
        int method = 0;
        while (n >= SHARES[method]) {
            n -= SHARES[method];
            method++;
        }
        return method;
    }

    private static int anyInt() {
        return below(2) == 0 ? EDGES[below(EDGES.length)] : (below(1 << 30) << 2) + below(4);
    }

    /** Mostly one of 0 .. bound, seldom any int. */
    private static int mostly(int bound) {
        return below(25) == 0 ? anyInt() : below(bound + 1);
    }

    private static int firstArgument(int method, int objects) {
        if (method == 4) {
            // Few keys, so that they meet; one code in ten is any of them or none.
            int key = below(3) == 0 ? below(32) : below(5) * 7;
            int code = 64 * (1 + below(objects)) + 2 * key + below(2);
            return below(10) == 0 ? mostly(640) : code;
        }
        if (method == 15 || method == 18) {
            return below(3) == 0 ? mostly(3) : 0;
        }
        if (method == 16) {
            return mostly(5);
        }
        return below(12) == 0 ? mostly(9) : 1 + below(objects);
    }

    private static int secondArgument(int method) {
        switch (method) {
            case 1: return mostly(9);
            case 2: return below(10) == 0 ? mostly(6) : 2 + below(3);
            case 3: return mostly(256);
            case 4: return below(8) == 0 ? anyInt() : 1 + below(8);
            case 21: return below(15) == 0 ? mostly(3) : below(3);
            case 0: case 18: return anyInt();
            default: return mostly(6);
        }
    }

    private static void run(int n) {
        ObjectFile x = new ObjectFile();
        Model model = new Model();
        int objects = 1 + below(8);
        for (int call = 1; call <= CALLS && !CHECKS.anyWrong(); call++) {
            int method = pickMethod();
            int a = firstArgument(method, objects);
            int b = secondArgument(method);
            int c = below(6) == 0 ? mostly(70) : 1 + below(8);
            CHECKS.part("run " + n + ", call " + call);
            CHECKS.due(NAMES[method] + " of " + a + ", " + b + ", " + c,
                answer(x, method, a, b, c), model.answer(method, a, b, c));
        }
    }

    public static void main(String[] args) {
        for (int n = 1; n <= RUNS && !CHECKS.anyWrong(); n++) {
            run(n);
        }
        CHECKS.end();
    }
}
