import java.util.ArrayList;
import java.util.Arrays;
import java.util.List;

/** What the tests of the document's sentences share: the checks, and heaps to begin with. */
abstract class HeapChecks {
    interface Steps {
        void on(SlidingHeap heap);
    }

    interface Call {
        int on(SlidingHeap heap);
    }

    interface HandleCall {
        void on(SlidingHeap heap, int handle);
    }

    interface SlotCall {
        void on(SlidingHeap heap, int handle, int slot);
    }

    interface Row {
        int at(int i);
    }

    static final int NONE = SlidingHeap.NONE;
    static final int MIN = Integer.MIN_VALUE;
    static final int MAX = Integer.MAX_VALUE;
    static final Class<IllegalArgumentException> ARGUMENT = IllegalArgumentException.class;
    static final Class<IllegalStateException> STATE = IllegalStateException.class;
    static final Class<UnsupportedOperationException> UNSUPPORTED = UnsupportedOperationException.class;
    static final Class<IndexOutOfBoundsException> INDEX = IndexOutOfBoundsException.class;

    static final Steps NEW = heap -> { };

    private static String words = "";
    private static int sentences = 0;
    private static int wrong = 0;

    /** Runs the test of one sentence; one that breaks off does not hide the tests behind it. */
    static void sentence(String its, Runnable test) {
        words = its;
        sentences++;
        try {
            test.run();
        } catch (RuntimeException e) {
            wrong++;
            System.out.println(words + ": the test breaks off with " + e);
        }
    }

    static void finish() {
        System.out.println(sentences + " sentences tested, " + wrong + " answers are not as due");
        if (wrong != 0) {
            System.exit(1);
        }
    }

    static void same(String what, Object got, Object want) {
        if (!got.equals(want)) {
            wrong++;
            System.out.println(words + ": " + what + ": " + got + ", due is " + want);
        }
    }

    /** A row is read up to its first NONE. */
    static void row(String what, Row row, int... due) {
        same(what, read(row), Arrays.stream(due).boxed().toList());
    }

    /** The first few of a row, whatever comes behind them. */
    static void first(String what, Row row, int... due) {
        for (int i = 0; i < due.length; i++) {
            same(what + " " + i, row.at(i), due[i]);
        }
    }

    static List<Integer> read(Row row) {
        List<Integer> values = new ArrayList<>();
        for (int i = 0; i < 100; i++) {
            int value = row.at(i);
            if (value == NONE) {
                break;
            }
            values.add(value);
        }
        return values;
    }

    static void repeat(int times, Runnable step) {
        for (int i = 0; i < times; i++) {
            step.run();
        }
    }

    /** A twin that does not make the call tells what the heap must still be, now and when it goes on. */
    static void refuses(Class<? extends RuntimeException> due, Steps before, Call call) {
        SlidingHeap heap = heapAfter(before);
        same("exception", thrownBy(heap, call), due.getSimpleName());
        sameLook("behind " + due.getSimpleName(), look(heap), look(heapAfter(before)));
        // Looking takes most of the calls that the document allows a heap, so the second look is at another.
        SlidingHeap later = heapAfter(before);
        thrownBy(later, call);
        later.collect();
        SlidingHeap twin = heapAfter(before);
        twin.collect();
        sameLook("behind " + due.getSimpleName() + " and collect()", look(later), look(twin));
    }

    static String thrownBy(SlidingHeap heap, Call call) {
        try {
            return "answer " + call.on(heap);
        } catch (RuntimeException e) {
            return e.getClass().getSimpleName();
        }
    }

    static void refusesNoObject(HandleCall call) {
        for (int handle : new int[] {MIN, -1, 0, 6, 7, 14, 15, 16, MAX}) {
            refuses(INDEX, HeapChecks::busy, heap -> noAnswer(() -> call.on(heap, handle)));
        }
        for (int handle : new int[] {0, 15}) {
            refuses(INDEX, HeapChecks::fourteenLive, heap -> noAnswer(() -> call.on(heap, handle)));
        }
        refuses(INDEX, NEW, heap -> noAnswer(() -> call.on(heap, 1)));
        refuses(INDEX, heap -> {
            busy(heap);
            heap.clear();
        }, heap -> noAnswer(() -> call.on(heap, 1)));
    }

    static void refusesNoSlot(SlotCall call) {
        refusesNoObject((heap, handle) -> call.on(heap, handle, 0));
        for (int slot : new int[] {MIN, -2, -1, 2, 3, 9, MAX}) {
            refuses(INDEX, HeapChecks::busy, heap -> noAnswer(() -> call.on(heap, 1, slot)));
        }
        for (int slot : new int[] {-1, 10, 11}) {
            refuses(INDEX, HeapChecks::busy, heap -> noAnswer(() -> call.on(heap, 5, slot)));
        }
        for (int slot : new int[] {-1, 0, 1}) {
            refuses(INDEX, HeapChecks::busy, heap -> noAnswer(() -> call.on(heap, 4, slot)));
        }
    }

    static int noAnswer(Runnable call) {
        call.run();
        return 0;
    }

    static void sameLook(String what, List<String> got, List<String> want) {
        for (int i = 0; i < want.size(); i++) {
            same(what, got.get(i), want.get(i));
        }
    }

    /** All that a heap tells of itself, with some 400 calls at most. */
    static List<String> look(SlidingHeap heap) {
        List<String> parts = new ArrayList<>();
        parts.add(text("words", 90, heap::word));
        parts.add("roots " + read(heap::root));
        parts.add("queue " + read(heap::queued));
        parts.add(text("counts", 7, heap::count));
        for (int handle = 1; handle <= 14; handle++) {
            parts.add("object " + handle + lookAt(heap, handle));
        }
        return parts;
    }

    private static String text(String what, int many, Row row) {
        StringBuilder text = new StringBuilder(what);
        for (int i = 0; i < many; i++) {
            text.append(' ').append(row.at(i));
        }
        return text.toString();
    }

    private static String lookAt(SlidingHeap heap, int handle) {
        if (isNone(heap, handle)) {
            return ": none";
        }
        String about = text(": about", 6, what -> heap.about(handle, what));
        String kinds = text(" kinds", heap.about(handle, 1), slot -> heap.kind(handle, slot));
        return about + kinds + " far " + heap.far(handle) + " way " + read(k -> heap.way(handle, k));
    }

    static boolean isNone(SlidingHeap heap, int handle) {
        return thrownBy(heap, h -> h.about(handle, 0)).equals(INDEX.getSimpleName());
    }

    static boolean isLive(SlidingHeap heap, int handle) {
        return heap.about(handle, 4) == 1;
    }

    static SlidingHeap heapAfter(Steps steps) {
        SlidingHeap heap = new SlidingHeap();
        steps.on(heap);
        return heap;
    }

    static SlidingHeap heapOf(int... slots) {
        return heapAfter(heap -> fill(heap, slots));
    }

    static void fill(SlidingHeap heap, int... slots) {
        for (int many : slots) {
            heap.alloc(many);
        }
    }

    static void popAll(SlidingHeap heap) {
        while (heap.pop() != NONE) {
            continue;
        }
    }

    /**
     * Something of everything: roots 1 and 2, which refers to 5; 3 in the queue; 4 without slots, lost, with
     * rites, and in a weak slot of 1; 6 gone; 7 to 14 never made.
     */
    static void busy(SlidingHeap heap) {
        fill(heap, 2, 3, 1, 0, 10, 1);
        heap.rites(3, true);
        heap.refer(2, 0, 5, false);
        popAll(heap);
        heap.push(1);
        heap.push(2);
        heap.collect();
        heap.alloc(0);
        heap.pop();
        heap.rites(4, true);
        heap.rites(2, true);
        heap.refer(1, 0, 4, true);
        heap.number(1, 1, -7);
        heap.refer(5, 9, 3, false);
        heap.refer(3, 0, 3, false);
    }

    static void busyWithTenRoots(SlidingHeap heap) {
        busy(heap);
        repeat(8, () -> heap.push(5));
    }

    /** 86 words are in use, and none of them is let go by collecting. */
    static void busyAndFull(SlidingHeap heap) {
        busy(heap);
        fill(heap, 10, 10, 10, 10, 10);
    }

    static void tenRoots(SlidingHeap heap) {
        heap.alloc(1);
        repeat(9, () -> heap.push(1));
    }

    /** Leaves 1, 2 and 3 in the queue and 4 as the only root, each without slots. */
    static void threeQueued(SlidingHeap heap) {
        fill(heap, 0, 0, 0, 0);
        for (int handle = 3; handle >= 1; handle--) {
            heap.rites(handle, true);
        }
        popAll(heap);
        heap.push(4);
        heap.collect();
    }

    static void allLost(SlidingHeap heap, int objects, int slots) {
        repeat(objects, () -> {
            heap.alloc(slots);
            heap.pop();
        });
    }

    static void fourteenWithRites(SlidingHeap heap) {
        allLost(heap, 14, 1);
        for (int handle = 1; handle <= 14; handle++) {
            heap.rites(handle, true);
        }
    }

    /** 1, the only root, refers to 2, that to 3, and so on up to 14, which refers to 1. */
    static void fourteenLive(SlidingHeap heap) {
        allLost(heap, 14, 1);
        for (int handle = 1; handle <= 14; handle++) {
            heap.refer(handle, 0, handle % 14 + 1, false);
        }
        heap.push(1);
    }

    /** Ninety words in seven objects of ten slots and one of four, 1 to 8; each is a root. */
    static void ninetyWords(SlidingHeap heap) {
        fill(heap, 10, 10, 10, 10, 10, 10, 10, 4);
    }
}
