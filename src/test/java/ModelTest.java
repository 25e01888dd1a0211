import java.util.ArrayList;
import java.util.Collection;
import java.util.HashMap;
import java.util.HashSet;
import java.util.List;
import java.util.Map;
import java.util.Random;
import java.util.Set;
import java.util.TreeMap;
import java.util.TreeSet;

/** Runs of calls on the heap and on a plain model of the document's words; the whole state is compared. */
public final class ModelTest {
    private static final int RUNS = 6000;
    // Looking at the whole state takes some 420 calls, and a heap is promised for 512.
    private static final int MOST_CALLS = 70;

    private static final class Thing {
        final int handle;
        final int[] kinds;
        final int[] values;
        int age;
        boolean rites;

        Thing(int handle, int slots) {
            this.handle = handle;
            kinds = new int[slots];
            values = new int[slots];
        }

        Thing copy() {
            Thing copy = new Thing(handle, kinds.length);
            System.arraycopy(kinds, 0, copy.kinds, 0, kinds.length);
            System.arraycopy(values, 0, copy.values, 0, values.length);
            copy.age = age;
            copy.rites = rites;
            return copy;
        }
    }

    /** Holds objects in a list, in the heap's order, so that sliding is nothing but leaving some out. */
    private static final class Model {
        List<Thing> things = new ArrayList<>();
        List<Integer> roots = new ArrayList<>();
        List<Integer> queue = new ArrayList<>();
        int collections;

        Thing thing(int handle) {
            for (Thing thing : things) {
                if (thing.handle == handle) {
                    return thing;
                }
            }
            throw new IndexOutOfBoundsException();
        }

        boolean has(int handle) {
            return things.stream().anyMatch(thing -> thing.handle == handle);
        }

        Thing withSlot(int handle, int slot) {
            Thing thing = thing(handle);
            if (slot < 0 || slot >= thing.kinds.length) {
                throw new IndexOutOfBoundsException();
            }
            return thing;
        }

        int used() {
            return wordsOf(things);
        }

        static int wordsOf(Collection<Thing> some) {
            return some.stream().mapToInt(thing -> thing.kinds.length + 2).sum();
        }

        Model copy() {
            Model copy = new Model();
            things.forEach(thing -> copy.things.add(thing.copy()));
            copy.roots.addAll(roots);
            copy.queue.addAll(queue);
            copy.collections = collections;
            return copy;
        }

        void become(Model other) {
            things = other.things;
            roots = other.roots;
            queue = other.queue;
            collections = other.collections;
        }

        Set<Integer> live() {
            return ways().keySet();
        }

        /** The best way to each live object; a best way's beginning is the best way to where it ends. */
        Map<Integer, List<Integer>> ways() {
            Map<Integer, List<Integer>> ways = new HashMap<>();
            Map<Integer, List<Integer>> last = new TreeMap<>();
            Set<Integer> starts = new TreeSet<>(roots);
            starts.addAll(queue);
            starts.forEach(start -> last.put(start, List.of(start)));
            while (!last.isEmpty()) {
                ways.putAll(last);
                Map<Integer, List<Integer>> next = new TreeMap<>();
                last.values().forEach(way -> extend(way, ways.keySet(), next));
                last.clear();
                last.putAll(next);
            }
            return ways;
        }

        void extend(List<Integer> way, Set<Integer> reached, Map<Integer, List<Integer>> next) {
            Thing end = thing(way.get(way.size() - 1));
            for (int slot = 0; slot < end.kinds.length; slot++) {
                int target = end.values[slot];
                if (end.kinds[slot] == 1 && target != 0 && !reached.contains(target)) {
                    List<Integer> longer = new ArrayList<>(way);
                    longer.add(target);
                    next.merge(target, longer, Model::lesser);
                }
            }
        }

        static List<Integer> lesser(List<Integer> a, List<Integer> b) {
            for (int i = 0; i < a.size(); i++) {
                if (!a.get(i).equals(b.get(i))) {
                    return a.get(i) < b.get(i) ? a : b;
                }
            }
            return a;
        }

        int collect() {
            int before = used();
            Set<Integer> first = new HashSet<>(live());
            cut(first, first);
            for (int handle = 1; handle <= 14; handle++) {
                if (has(handle) && !first.contains(handle) && thing(handle).rites) {
                    queue.add(handle);
                    thing(handle).rites = false;
                }
            }
            Set<Integer> second = new HashSet<>(live());
            Set<Integer> back = new HashSet<>(second);
            back.removeAll(first);
            cut(back, second);
            things.removeIf(thing -> !second.contains(thing.handle));
            things.forEach(thing -> thing.age = Math.min(99, thing.age + 1));
            collections++;
            return before - used();
        }

        void cut(Set<Integer> where, Set<Integer> kept) {
            for (int handle : where) {
                Thing thing = thing(handle);
                for (int slot = 0; slot < thing.kinds.length; slot++) {
                    if (thing.kinds[slot] == 2 && !kept.contains(thing.values[slot])) {
                        thing.values[slot] = 0;
                    }
                }
            }
        }

        boolean room(int slots) {
            return things.size() < 14 && used() + slots + 2 <= 90;
        }

        int alloc(int slots) {
            if (slots < 0 || slots > 10) {
                throw new IllegalArgumentException();
            }
            if (roots.size() == 10) {
                throw new IllegalStateException();
            }
            Model then = copy();
            if (!then.room(slots)) {
                then.collect();
            }
            if (!then.room(slots)) {
                throw new UnsupportedOperationException();
            }
            become(then);
            int handle = 1;
            while (has(handle)) {
                handle++;
            }
            things.add(new Thing(handle, slots));
            roots.add(handle);
            return handle;
        }

        int set(int handle, int slot, int kind, int value) {
            Thing thing = withSlot(handle, slot);
            if (kind != 0 && value != 0 && !has(value)) {
                throw new IllegalArgumentException();
            }
            thing.kinds[slot] = kind;
            thing.values[slot] = value;
            return 0;
        }

        int push(int handle) {
            thing(handle);
            if (roots.size() == 10) {
                throw new IllegalStateException();
            }
            roots.add(handle);
            return roots.size();
        }

        int pop() {
            return roots.isEmpty() ? -1 : roots.remove(roots.size() - 1);
        }

        int take() {
            if (queue.isEmpty()) {
                return -1;
            }
            if (roots.size() == 10) {
                throw new IllegalStateException();
            }
            roots.add(queue.remove(0));
            return roots.get(roots.size() - 1);
        }

        int rites(int handle, boolean has) {
            thing(handle).rites = has;
            return 0;
        }

        int clear() {
            become(new Model());
            return 0;
        }
    }

    private interface Answer {
        int give();
    }

    private static int wrong = 0;
    private static final Map<String, Integer> SEEN = new TreeMap<>();

    public static void main(String[] args) {
        for (int seed = 0; seed < RUNS && wrong < 20; seed++) {
            oneRun(seed);
            oneWeb(seed);
        }
        // Runs that never came to a rare answer would prove little.
        for (String due : new String[] {"collect before alloc", "alloc UnsupportedOperationException",
            "alloc IllegalStateException", "take IllegalStateException", "take ok", "way of four"}) {
            if (SEEN.getOrDefault(due, 0) < 20) {
                wrong++;
                System.out.println("seen too seldom: " + due + " " + SEEN);
            }
        }
        System.out.println(wrong == 0 ? RUNS + " runs are as due" : wrong + " answers are not as due");
        if (wrong != 0) {
            System.exit(1);
        }
    }

    private static void oneRun(int seed) {
        Random random = new Random(seed);
        SlidingHeap heap = new SlidingHeap();
        Model model = new Model();
        StringBuilder told = new StringBuilder("run " + seed + ":");
        int calls = random.nextInt(MOST_CALLS + 1);
        int most = random.nextInt(4) == 0 ? 10 : 1 + random.nextInt(5);
        for (int i = 0; i < calls && wrong < 20; i++) {
            oneCall(random, most, heap, model, told);
        }
        compareState(heap, model, told);
    }

    /** Objects that refer to near ones, and few roots: many shortest ways, some of them long. */
    private static void oneWeb(int seed) {
        Random random = new Random(seed);
        SlidingHeap heap = new SlidingHeap();
        Model model = new Model();
        StringBuilder told = new StringBuilder("web " + seed + ":");
        int objects = 8 + random.nextInt(7);
        for (int i = 0; i < objects; i++) {
            int slots = 1 + random.nextInt(3);
            both("alloc(" + slots + ")", told, () -> heap.alloc(slots), () -> model.alloc(slots));
            both("pop()", told, heap::pop, model::pop);
        }
        for (int i = 0; i < 2 * objects; i++) {
            int from = 1 + random.nextInt(objects);
            int slot = random.nextInt(model.thing(from).kinds.length);
            int to = Math.floorMod(from - 1 + random.nextInt(8) - 3, objects) + 1;
            boolean weak = random.nextInt(8) == 0;
            both("refer(" + from + ", " + slot + ", " + to + ", " + weak + ")", told,
                () -> noAnswer(() -> heap.refer(from, slot, to, weak)),
                () -> model.set(from, slot, weak ? 2 : 1, to));
        }
        for (int i = random.nextInt(3); i >= 0; i--) {
            int root = 1 + random.nextInt(objects);
            boolean queued = random.nextInt(3) == 0;
            both("rites(" + root + ", " + queued + ")", told,
                () -> noAnswer(() -> heap.rites(root, queued)), () -> model.rites(root, queued));
            if (!queued) {
                both("push(" + root + ")", told, () -> heap.push(root), () -> model.push(root));
            }
        }
        if (random.nextBoolean()) {
            both("collect()", told, heap::collect, model::collect);
        }
        compareState(heap, model, told);
    }

    private static void oneCall(Random random, int most, SlidingHeap heap, Model model, StringBuilder told) {
        int handle = someHandle(random, model);
        int slot = someSlot(random, model, handle);
        int target = someHandle(random, model);
        boolean flag = random.nextInt(4) == 0;
        int choice = random.nextInt(100);
        if (choice < 28) {
            int slots = random.nextInt(30) == 0 ? 11 : random.nextInt(most + 1);
            int before = model.collections;
            both("alloc(" + slots + ")", told, () -> heap.alloc(slots), () -> model.alloc(slots));
            see(model.collections > before ? "collect before alloc" : "plain alloc");
        } else if (choice < 52) {
            both("refer(" + handle + ", " + slot + ", " + target + ", " + flag + ")", told,
                () -> noAnswer(() -> heap.refer(handle, slot, target, flag)),
                () -> model.set(handle, slot, flag ? 2 : 1, target));
        } else if (choice < 56) {
            both("number(" + handle + ", " + slot + ", " + target + ")", told,
                () -> noAnswer(() -> heap.number(handle, slot, target)), () -> model.set(handle, slot, 0, target));
        } else if (choice < 76) {
            // Few roots make long ways, many make full rows: runs differ in how often they pop twice.
            both("pop()", told, heap::pop, model::pop);
            if (most % 2 == 0) {
                both("pop()", told, heap::pop, model::pop);
            }
        } else if (choice < 80) {
            both("push(" + handle + ")", told, () -> heap.push(handle), () -> model.push(handle));
        } else if (choice < 90) {
            both("rites(" + handle + ", " + !flag + ")", told,
                () -> noAnswer(() -> heap.rites(handle, !flag)), () -> model.rites(handle, !flag));
        } else if (choice < 94) {
            both("take()", told, heap::take, model::take);
        } else if (choice < 99 || random.nextInt(4) != 0) {
            both("collect()", told, heap::collect, model::collect);
        } else {
            both("clear()", told, () -> noAnswer(heap::clear), model::clear);
        }
    }

    // Mostly an object that is there, so that long runs build something; now and then any number.
    private static int someHandle(Random random, Model model) {
        if (model.things.isEmpty() || random.nextInt(12) == 0) {
            return random.nextInt(18) - 1;
        }
        return model.things.get(random.nextInt(model.things.size())).handle;
    }

    private static int someSlot(Random random, Model model, int handle) {
        int slots = model.has(handle) ? model.thing(handle).kinds.length : 0;
        return slots == 0 || random.nextInt(15) == 0 ? slots : random.nextInt(slots);
    }

    private static int noAnswer(Runnable call) {
        call.run();
        return 0;
    }

    private static void both(String call, StringBuilder told, Answer heap, Answer model) {
        told.append(' ').append(call);
        String due = answer(model);
        see(call.substring(0, call.indexOf('(')) + " " + (due.matches("-?\\d+") ? "ok" : due));
        same(told, answer(heap), due);
    }

    private static void see(String what) {
        SEEN.merge(what, 1, Integer::sum);
    }

    private static String answer(Answer answer) {
        try {
            return String.valueOf(answer.give());
        } catch (RuntimeException e) {
            return e.getClass().getSimpleName();
        }
    }

    private static void compareState(SlidingHeap heap, Model model, StringBuilder told) {
        told.append(" then: ");
        int at = 0;
        for (Thing thing : model.things) {
            same(told, "start " + answer(() -> heap.about(thing.handle, 0)), "start " + at);
            same(told, "slots word " + heap.word(at), "slots word " + thing.kinds.length);
            same(told, "handle word " + heap.word(at + 1), "handle word " + thing.handle);
            at += 2;
            for (int slot = 0; slot < thing.kinds.length; slot++, at++) {
                int here = slot;
                same(told, "word " + heap.word(at), "word " + thing.values[slot]);
                same(told, "value " + answer(() -> heap.get(thing.handle, here)), "value " + thing.values[slot]);
                same(told, "kind " + answer(() -> heap.kind(thing.handle, here)), "kind " + thing.kinds[slot]);
            }
        }
        for (; at < 90; at++) {
            same(told, "word behind the top " + heap.word(at), "word behind the top 0");
        }
        compareRow(told, "roots", heap::root, model.roots);
        compareRow(told, "queue", heap::queued, model.queue);
        compareObjects(heap, model, told);
        compareCounts(heap, model, told);
    }

    private static void compareObjects(SlidingHeap heap, Model model, StringBuilder told) {
        Map<Integer, List<Integer>> ways = model.ways();
        for (int handle = 1; handle <= 14; handle++) {
            int h = handle;
            if (!model.has(h)) {
                same(told, answer(() -> heap.about(h, 2)), "IndexOutOfBoundsException");
                continue;
            }
            Thing thing = model.thing(h);
            List<Integer> way = ways.getOrDefault(h, List.of());
            see(way.size() >= 4 ? "way of four" : "shorter way");
            int[] due = {thing.kinds.length, thing.age, thing.rites ? 1 : 0, way.isEmpty() ? 0 : 1, shown(model, h)};
            for (int what = 1; what <= 5; what++) {
                same(told, "about " + what + ": " + heap.about(h, what), "about " + what + ": " + due[what - 1]);
            }
            same(told, "far " + heap.far(h), "far " + (way.size() - 1));
            compareRow(told, "way to " + h, k -> heap.way(h, k), way);
        }
    }

    private static int shown(Model model, int handle) {
        int sum = 0;
        for (Thing thing : model.things) {
            for (int slot = 0; slot < thing.kinds.length; slot++) {
                sum += thing.kinds[slot] != 0 && thing.values[slot] == handle ? 1 : 0;
            }
        }
        return sum;
    }

    private static void compareCounts(SlidingHeap heap, Model model, StringBuilder told) {
        Set<Integer> live = model.live();
        List<Thing> kept = model.things.stream().filter(thing -> live.contains(thing.handle)).toList();
        int[] due = {model.things.size(), live.size(), model.used(), Model.wordsOf(kept), model.roots.size(),
            model.queue.size(), model.collections};
        for (int what = 0; what <= 6; what++) {
            same(told, "count " + what + ": " + heap.count(what), "count " + what + ": " + due[what]);
        }
    }

    private interface Row {
        int at(int i);
    }

    private static void compareRow(StringBuilder told, String what, Row row, List<Integer> due) {
        for (int i = 0; i <= due.size(); i++) {
            int want = i < due.size() ? due.get(i) : -1;
            same(told, what + " " + i + ": " + row.at(i), what + " " + i + ": " + want);
        }
    }

    private static void same(StringBuilder told, String got, String want) {
        if (!got.equals(want)) {
            wrong++;
            System.out.println(told + " answered " + got + ", due is " + want);
        }
    }
}
