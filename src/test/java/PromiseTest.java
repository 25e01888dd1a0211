import java.util.ArrayList;
import java.util.Arrays;
import java.util.List;

/** One method a promise: ordinary inputs, the edges that the document names, and wrong inputs. */
public final class PromiseTest {
    private interface Steps {
        void on(SlidingHeap heap);
    }

    private interface Call {
        int on(SlidingHeap heap);
    }

    private static final int NONE = SlidingHeap.NONE;
    private static final Steps NOTHING = heap -> { };
    private static final int[] STRANGE = {Integer.MIN_VALUE, -2, -1, 0, 15, 16, 90, Integer.MAX_VALUE};

    private static String promise = "";
    private static int wrong = 0;

    public static void main(String[] args) {
        newObject();
        alloc();
        allocCollects();
        allocRefuses();
        number();
        refer();
        get();
        kind();
        push();
        pop();
        root();
        rites();
        take();
        queued();
        collectSlides();
        collectCutsWeakSlots();
        collectGivesRites();
        collectAges();
        word();
        about();
        far();
        way();
        count();
        clear();
        System.out.println(wrong == 0 ? "all promises hold" : wrong + " answers are not as due");
        if (wrong != 0) {
            System.exit(1);
        }
    }

    private static void newObject() {
        promise = "1 a new object";
        SlidingHeap heap = new SlidingHeap();
        for (int what = 0; what <= 6; what++) {
            same("count(" + what + ")", heap.count(what), 0);
        }
        row("roots", heap::root);
        row("queue", heap::queued);
        for (int i = 0; i < 90; i++) {
            same("word(" + i + ")", heap.word(i), 0);
        }
        SlidingHeap other = new SlidingHeap();
        heap.alloc(3);
        same("objects of another heap", other.count(0), 0);
    }

    private static void alloc() {
        promise = "2 alloc";
        SlidingHeap heap = new SlidingHeap();
        same("alloc(0)", heap.alloc(0), 1);
        same("alloc(10)", heap.alloc(10), 2);
        same("alloc(3)", heap.alloc(3), 3);
        row("roots", heap::root, 1, 2, 3);
        row("starts", i -> i < 3 ? heap.about(i + 1, 0) : NONE, 0, 2, 14);
        row("slots", i -> i < 3 ? heap.about(i + 1, 1) : NONE, 0, 10, 3);
        same("words in use", heap.count(2), 19);
        for (int slot = 0; slot < 10; slot++) {
            same("kind of slot " + slot, heap.kind(2, slot), 0);
            same("value of slot " + slot, heap.get(2, slot), 0);
        }
        same("rites", heap.about(3, 3), 0);
        same("age", heap.about(3, 2), 0);
    }

    private static void allocCollects() {
        promise = "2 alloc, collecting";
        SlidingHeap words = heapOf(10, 10, 10, 10, 10, 10, 10);
        same("words in use", words.count(2), 84);
        words.rites(7, true);
        words.number(7, 0, 9);
        words.refer(7, 1, 7, false);
        words.pop();
        same("alloc(4) fills the last word", words.alloc(4), 8);
        same("no collection was needed", words.count(6), 0);
        words.rites(7, false);
        same("alloc(10) takes the lost one's handle", words.alloc(10), 7);
        same("collections", words.count(6), 1);
        same("the new one's start", words.about(7, 0), 78);
        same("the new one's age", words.about(7, 2), 0);
        same("an old one's age", words.about(1, 2), 1);
        same("the new one's rites", words.about(7, 3), 0);
        same("the new one's slot 0", words.get(7, 0), 0);
        same("the new one's slot 1", words.kind(7, 1), 0);

        SlidingHeap handles = heapOf(0, 0, 0, 0, 0, 0, 0);
        repeat(7, handles::pop);
        for (int handle = 8; handle <= 14; handle++) {
            same("alloc(0)", handles.alloc(0), handle);
        }
        same("no collection was needed", handles.count(6), 0);
        same("alloc(0) without a free handle", handles.alloc(0), 1);
        same("collections", handles.count(6), 1);
        same("objects", handles.count(0), 8);
        same("start", handles.about(1, 0), 14);
    }

    private static void allocRefuses() {
        promise = "2 alloc, wrong inputs";
        for (int slots : new int[] {Integer.MIN_VALUE, -1, 11, Integer.MAX_VALUE}) {
            refuses(IllegalArgumentException.class, NOTHING, heap -> heap.alloc(slots));
            refuses(IllegalArgumentException.class, PromiseTest::tenRoots, heap -> heap.alloc(slots));
        }
        refuses(IllegalStateException.class, PromiseTest::tenRoots, heap -> heap.alloc(0));
        refuses(IllegalStateException.class, heap -> {
            fill(heap, 7, 7, 7, 7, 7, 7, 7, 7, 7, 7);
        }, heap -> heap.alloc(0));

        Steps noWords = heap -> fill(heap, 10, 10, 10, 10, 10, 10, 10);
        refuses(UnsupportedOperationException.class, noWords, heap -> heap.alloc(5));
        Steps someWords = heap -> {
            noWords.on(heap);
            heap.alloc(4);
            heap.pop();
        };
        refuses(UnsupportedOperationException.class, someWords, heap -> heap.alloc(5));
        Steps heldByRites = heap -> {
            noWords.on(heap);
            heap.refer(7, 0, 6, false);
            heap.refer(1, 0, 7, true);
            heap.rites(7, true);
            heap.pop();
            heap.pop();
        };
        refuses(UnsupportedOperationException.class, heldByRites, heap -> heap.alloc(5));
        SlidingHeap heap = new SlidingHeap();
        heldByRites.on(heap);
        same("alloc(4) beside those with rites", heap.alloc(4), 8);
        same("nothing is collected when it fits", heap.count(6), 0);

        Steps noHandle = PromiseTest::fourteenInUse;
        refuses(UnsupportedOperationException.class, noHandle, h -> h.alloc(0));
    }

    private static void number() {
        promise = "3 number";
        SlidingHeap heap = heapOf(2, 1);
        for (int value : new int[] {Integer.MIN_VALUE, -1, 0, 1, 2, 15, Integer.MAX_VALUE}) {
            heap.number(1, 1, value);
            same("get", heap.get(1, 1), value);
            same("kind", heap.kind(1, 1), 0);
            same("the other slot", heap.get(1, 0), 0);
        }
        heap.refer(1, 0, 2, false);
        heap.number(1, 0, 2);
        same("kind behind a reference", heap.kind(1, 0), 0);
        heap.pop();
        same("a number holds nothing", heap.about(2, 4), 0);
        refusesSlots((h, handle, slot) -> h.number(handle, slot, 5));
    }

    private static void refer() {
        promise = "4 refer";
        SlidingHeap heap = heapOf(3, 1);
        heap.refer(1, 0, 2, false);
        heap.refer(1, 1, 2, true);
        heap.refer(1, 2, 1, false);
        row("values", i -> i < 3 ? heap.get(1, i) : NONE, 2, 2, 1);
        row("kinds", i -> i < 3 ? heap.kind(1, i) : NONE, 1, 2, 1);
        heap.refer(1, 0, 0, true);
        heap.refer(1, 1, 0, false);
        row("values 0", i -> i < 2 ? heap.get(1, i) : NONE, 0, 0);
        row("kinds of 0", i -> i < 2 ? heap.kind(1, i) : NONE, 2, 1);
        refusesSlots((h, handle, slot) -> h.refer(handle, slot, 1, false));
        refusesSlots((h, handle, slot) -> h.refer(handle, slot, 99, true));
        for (int target : STRANGE) {
            if (target != 0) {
                refuses(IllegalArgumentException.class, PromiseTest::twoObjects, h -> {
                    h.refer(1, 0, target, false);
                    return 0;
                });
            }
        }
        refuses(IllegalArgumentException.class, PromiseTest::twoObjects, h -> {
            h.refer(1, 0, 3, true);
            return 0;
        });
        SlidingHeap lost = heapOf(1, 0);
        lost.pop();
        lost.refer(1, 0, 2, false);
        same("a lost object that is not gone may be referred to", lost.about(2, 4), 1);
    }

    private static void get() {
        promise = "5 get";
        SlidingHeap heap = heapOf(1, 10);
        heap.number(2, 0, 41);
        heap.number(2, 9, 43);
        heap.refer(1, 0, 2, true);
        same("first slot", heap.get(2, 0), 41);
        same("last slot", heap.get(2, 9), 43);
        same("weak slot", heap.get(1, 0), 2);
        repeat(2, heap::pop);
        same("of a lost object", heap.get(2, 9), 43);
        refusesSlots((h, handle, slot) -> h.get(handle, slot));
    }

    private static void kind() {
        promise = "6 kind";
        SlidingHeap heap = heapOf(3);
        heap.refer(1, 1, 1, false);
        heap.refer(1, 2, 1, true);
        row("kinds", i -> i < 3 ? heap.kind(1, i) : NONE, 0, 1, 2);
        heap.refer(1, 1, 1, true);
        heap.refer(1, 2, 1, false);
        row("kinds changed", i -> i < 3 ? heap.kind(1, i) : NONE, 0, 2, 1);
        refusesSlots((h, handle, slot) -> h.kind(handle, slot));
    }

    private static void push() {
        promise = "7 push";
        SlidingHeap heap = heapOf(0, 0);
        same("push(1)", heap.push(1), 3);
        same("push(1) again", heap.push(1), 4);
        row("roots", heap::root, 1, 2, 1, 1);
        repeat(4, heap::pop);
        same("push of a lost object", heap.push(2), 1);
        for (int many = 2; many <= 10; many++) {
            same("push", heap.push(2), many);
        }
        for (int handle : STRANGE) {
            refuses(IndexOutOfBoundsException.class, PromiseTest::twoObjects, h -> h.push(handle));
            refuses(IndexOutOfBoundsException.class, PromiseTest::tenRoots, h -> h.push(handle));
        }
        refuses(IndexOutOfBoundsException.class, PromiseTest::goneObject, h -> h.push(2));
        refuses(IllegalStateException.class, PromiseTest::tenRoots, h -> h.push(1));
    }

    private static void pop() {
        promise = "8 pop";
        SlidingHeap heap = heapOf(0, 0);
        heap.push(1);
        row("pop", i -> heap.pop(), 1, 2, 1);
        same("pop without roots", heap.pop(), NONE);
        same("roots", heap.count(4), 0);
        same("objects stay until they are collected", heap.count(0), 2);
        same("push behind it", heap.push(2), 1);
    }

    private static void root() {
        promise = "9 root";
        SlidingHeap heap = heapOf(0, 0, 0);
        heap.push(2);
        row("roots", heap::root, 1, 2, 3, 2);
        heap.pop();
        same("behind the last", heap.root(3), NONE);
        for (int i : new int[] {Integer.MIN_VALUE, -1, 10, Integer.MAX_VALUE}) {
            same("root(" + i + ")", heap.root(i), NONE);
        }
        SlidingHeap full = new SlidingHeap();
        tenRoots(full);
        row("ten roots", full::root, 1, 1, 1, 1, 1, 1, 1, 1, 1, 1);
    }

    private static void rites() {
        promise = "10 rites";
        SlidingHeap heap = heapOf(0, 0);
        heap.rites(1, true);
        heap.rites(2, true);
        heap.rites(2, true);
        heap.rites(1, false);
        same("rites taken back", heap.about(1, 3), 0);
        same("rites given", heap.about(2, 3), 1);
        repeat(2, heap::pop);
        heap.collect();
        row("queue", heap::queued, 2);
        same("rites are given once", heap.about(2, 3), 0);
        for (int handle : STRANGE) {
            for (boolean has : new boolean[] {true, false}) {
                refuses(IndexOutOfBoundsException.class, PromiseTest::twoObjects, h -> {
                    h.rites(handle, has);
                    return 0;
                });
            }
        }
        SlidingHeap again = heapOf(0);
        again.rites(1, true);
        again.pop();
        again.collect();
        again.rites(1, true);
        again.collect();
        row("one in the queue is not lost", again::queued, 1);
        same("so it keeps its rites", again.about(1, 3), 1);
        again.take();
        again.pop();
        again.collect();
        row("lost a second time", again::queued, 1);
    }

    private static void take() {
        promise = "11 take";
        SlidingHeap heap = new SlidingHeap();
        same("take of nothing", heap.take(), NONE);
        threeQueued(heap);
        same("take", heap.take(), 1);
        same("take", heap.take(), 2);
        row("roots", heap::root, 4, 1, 2);
        row("queue", heap::queued, 3);
        same("take", heap.take(), 3);
        same("take of nothing", heap.take(), NONE);
        row("roots", heap::root, 4, 1, 2, 3);
        Steps full = h -> {
            threeQueued(h);
            repeat(9, () -> h.push(4));
        };
        refuses(IllegalStateException.class, full, SlidingHeap::take);
        SlidingHeap tenRoots = new SlidingHeap();
        tenRoots(tenRoots);
        same("take of nothing with ten roots", tenRoots.take(), NONE);
    }

    private static void queued() {
        promise = "12 queued";
        SlidingHeap heap = new SlidingHeap();
        threeQueued(heap);
        row("queue", heap::queued, 1, 2, 3);
        for (int i : new int[] {Integer.MIN_VALUE, -1, 3, 14, Integer.MAX_VALUE}) {
            same("queued(" + i + ")", heap.queued(i), NONE);
        }
        heap.rites(4, true);
        heap.pop();
        heap.take();
        heap.collect();
        row("the lost come to the end", heap::queued, 2, 3, 4);
        SlidingHeap full = new SlidingHeap();
        fourteenLost(full);
        full.collect();
        row("all in the queue", full::queued, 1, 2, 3, 4, 5, 6, 7, 8, 9, 10, 11, 12, 13, 14);
    }

    private static void collectSlides() {
        promise = "13 collect, sliding";
        SlidingHeap heap = heapOf(2, 1, 3, 0);
        heap.number(3, 0, 31);
        heap.refer(3, 1, 1, false);
        heap.refer(3, 2, 4, true);
        heap.refer(1, 1, 1, true);
        repeat(4, heap::pop);
        heap.push(3);
        same("answer", heap.collect(), 5);
        row("words", i -> i < 12 ? heap.word(i) : NONE, 2, 1, 0, 1, 3, 3, 31, 1, 0, 0, 0, 0);
        row("kinds", i -> i < 3 ? heap.kind(3, i) : NONE, 0, 1, 2);
        same("kind of a kept one", heap.kind(1, 1), 2);
        same("words in use", heap.count(2), 9);
        row("starts", i -> i == 0 ? heap.about(1, 0) : i == 1 ? heap.about(3, 0) : NONE, 0, 4);
        same("alloc takes the freed handle", heap.alloc(1), 2);
        same("kinds behind the top are gone too", heap.kind(2, 0), 0);
        same("answer when nothing is lost", heap.collect(), 0);
        heap.pop();
        heap.pop();
        heap.push(2);
        same("order is that in the heap", heap.collect(), 9);
        same("order is that in the heap", heap.about(2, 0), 0);
    }

    private static void collectCutsWeakSlots() {
        promise = "13 collect, weak slots";
        SlidingHeap heap = heapOf(2, 0, 0);
        heap.refer(1, 0, 2, true);
        heap.refer(1, 1, 3, true);
        heap.rites(3, true);
        heap.pop();
        heap.pop();
        heap.push(2);
        heap.collect();
        same("weak slot with a live one", heap.get(1, 0), 2);
        same("weak slot with one that is lost and has rites", heap.get(1, 1), 0);
        same("it stays weak", heap.kind(1, 1), 2);

        SlidingHeap lost = heapOf(3, 0, 1, 0, 0);
        lost.refer(1, 0, 2, true);
        lost.refer(1, 1, 3, false);
        lost.refer(1, 2, 4, true);
        lost.refer(3, 0, 5, true);
        lost.rites(1, true);
        lost.rites(2, true);
        repeat(5, lost::pop);
        lost.collect();
        row("of lost ones that come back", i -> i < 3 ? lost.get(1, i) : NONE, 2, 3, 0);
        same("of those that they lead to", lost.get(3, 0), 0);
        row("queue", lost::queued, 1, 2);
        same("objects", lost.count(0), 3);
    }

    private static void collectGivesRites() {
        promise = "13 collect, rites";
        SlidingHeap heap = heapOf(1, 1, 0, 0);
        heap.refer(2, 0, 1, false);
        heap.refer(1, 0, 3, false);
        heap.rites(2, true);
        heap.rites(1, true);
        heap.rites(4, true);
        repeat(4, heap::pop);
        heap.push(4);
        same("nothing comes down", heap.collect(), 0);
        row("all with rites, by their handles", heap::queued, 1, 2);
        same("what they lead to stays", heap.about(3, 4), 1);
        same("a live one keeps its rites", heap.about(4, 3), 1);
        same("a queued one has none", heap.about(2, 3), 0);
        heap.take();
        heap.take();
        heap.pop();
        heap.pop();
        same("without rites they go", heap.collect(), 8);
        row("queue", heap::queued);
    }

    private static void collectAges() {
        promise = "13 collect, ages";
        SlidingHeap heap = heapOf(0);
        for (int i = 1; i <= 101; i++) {
            heap.collect();
            same("age", heap.about(1, 2), Math.min(i, 99));
        }
        same("collections", heap.count(6), 101);
        same("a younger one", heap.about(heap.alloc(0), 2), 0);
        heap.collect();
        same("a younger one", heap.about(2, 2), 1);
        SlidingHeap used = heapOf(0, 0);
        used.collect();
        used.pop();
        used.collect();
        same("a handle that is used again starts anew", used.about(used.alloc(0), 2), 0);
    }

    private static void word() {
        promise = "14 word";
        SlidingHeap heap = heapOf(2, 0, 1);
        heap.number(1, 0, -7);
        heap.refer(1, 1, 3, true);
        heap.refer(3, 0, 2, false);
        row("words", i -> i < 10 ? heap.word(i) : NONE, 2, 1, -7, 3, 0, 2, 1, 3, 2, 0);
        same("the last word", heap.word(89), 0);
        SlidingHeap full = heapOf(7, 7, 7, 7, 7, 7, 7, 7, 7, 7);
        full.number(10, 6, 5);
        same("the last word", full.word(89), 5);
        for (int i : new int[] {Integer.MIN_VALUE, -1, 90, Integer.MAX_VALUE}) {
            refuses(IndexOutOfBoundsException.class, PromiseTest::twoObjects, h -> h.word(i));
        }
    }

    private static void about() {
        promise = "15 about";
        SlidingHeap heap = heapOf(3, 2);
        heap.refer(1, 0, 2, false);
        heap.refer(1, 1, 2, true);
        heap.number(1, 2, 2);
        heap.refer(2, 0, 2, true);
        heap.rites(2, true);
        row("of 1", what -> what < 6 ? heap.about(1, what) : NONE, 0, 3, 0, 0, 1, 0);
        row("of 2", what -> what < 6 ? heap.about(2, what) : NONE, 5, 2, 0, 1, 1, 3);
        heap.pop();
        same("live by a reference", heap.about(2, 4), 1);
        heap.number(1, 0, 0);
        same("not live by weak ones", heap.about(2, 4), 0);
        repeat(1, heap::pop);
        same("slots of lost ones count", heap.about(2, 5), 2);
        heap.collect();
        same("live by the queue", heap.about(2, 4), 1);
        same("age", heap.about(2, 2), 1);
        SlidingHeap ring = heapOf(1, 1);
        ring.refer(1, 0, 2, false);
        ring.refer(2, 0, 1, false);
        repeat(2, ring::pop);
        same("a lost ring is not live", ring.about(1, 4), 0);
        for (int what : new int[] {Integer.MIN_VALUE, -1, 6, Integer.MAX_VALUE}) {
            refuses(IllegalArgumentException.class, PromiseTest::twoObjects, h -> h.about(1, what));
            refuses(IndexOutOfBoundsException.class, PromiseTest::twoObjects, h -> h.about(3, what));
        }
        for (int handle : STRANGE) {
            refuses(IndexOutOfBoundsException.class, PromiseTest::twoObjects, h -> h.about(handle, 0));
        }
        refuses(IndexOutOfBoundsException.class, PromiseTest::goneObject, h -> h.about(2, 4));
    }

    private static void far() {
        promise = "16 far";
        SlidingHeap heap = heapOf(2, 1, 1, 0);
        repeat(4, heap::pop);
        same("lost", heap.far(1), NONE);
        heap.push(1);
        heap.refer(1, 0, 2, false);
        heap.refer(2, 0, 3, false);
        heap.refer(3, 0, 4, false);
        row("in a chain", i -> i < 4 ? heap.far(i + 1) : NONE, 0, 1, 2, 3);
        heap.refer(1, 1, 4, true);
        same("weak ones are no way", heap.far(4), 3);
        heap.refer(1, 1, 3, false);
        same("the shortest", heap.far(4), 2);
        heap.push(3);
        same("from the nearest root", heap.far(4), 1);
        repeat(2, heap::pop);
        heap.rites(2, true);
        heap.collect();
        row("from the queue", i -> i < 3 ? heap.far(i + 2) : NONE, 0, 1, 2);
        SlidingHeap chain = new SlidingHeap();
        longChain(chain);
        same("through all objects", chain.far(14), 13);
        for (int handle : STRANGE) {
            refuses(IndexOutOfBoundsException.class, PromiseTest::twoObjects, h -> h.far(handle));
        }
        refuses(IndexOutOfBoundsException.class, PromiseTest::goneObject, h -> h.far(2));
    }

    private static void way() {
        promise = "17 way";
        SlidingHeap heap = heapOf(2, 2, 1, 1, 0, 0);
        repeat(6, heap::pop);
        row("to a lost one", k -> heap.way(5, k));
        heap.push(2);
        heap.push(1);
        row("to a root", k -> heap.way(2, k), 2);
        heap.refer(1, 0, 4, false);
        heap.refer(2, 0, 3, false);
        heap.refer(4, 0, 5, false);
        heap.refer(3, 0, 5, false);
        row("the least root, though its second is greater", k -> heap.way(5, k), 1, 4, 5);
        heap.refer(1, 1, 3, false);
        row("the least second one, though its slot is later", k -> heap.way(5, k), 1, 3, 5);
        heap.refer(2, 1, 5, false);
        row("the shortest, though its root is greater", k -> heap.way(5, k), 2, 5);
        heap.refer(2, 1, 5, true);
        heap.refer(1, 1, 6, false);
        row("over the one that leads there", k -> heap.way(5, k), 1, 4, 5);
        repeat(2, heap::pop);
        heap.rites(3, true);
        heap.collect();
        row("from the queue", k -> heap.way(5, k), 3, 5);
        heap.push(5);
        row("itself alone", k -> heap.way(5, k), 5);
        for (int k : new int[] {Integer.MIN_VALUE, -1, 1, 14, Integer.MAX_VALUE}) {
            same("way(5, " + k + ")", heap.way(5, k), NONE);
        }
        SlidingHeap beyond = heapOf(2, 1, 1, 0);
        repeat(3, beyond::pop);
        beyond.refer(1, 0, 2, true);
        beyond.refer(1, 1, 3, false);
        beyond.refer(2, 0, 4, false);
        beyond.refer(3, 0, 4, false);
        row("not over a weak one, though it is less", k -> beyond.way(4, k), 1, 3, 4);
        row("it ends with the object, though that leads on", k -> beyond.way(3, k), 1, 3);
        SlidingHeap chain = new SlidingHeap();
        longChain(chain);
        row("through all objects", k -> chain.way(14, k), 1, 2, 3, 4, 5, 6, 7, 8, 9, 10, 11, 12, 13, 14);
        for (int handle : STRANGE) {
            refuses(IndexOutOfBoundsException.class, PromiseTest::twoObjects, h -> h.way(handle, 0));
        }
        refuses(IndexOutOfBoundsException.class, PromiseTest::goneObject, h -> h.way(2, -1));
    }

    private static void count() {
        promise = "18 count";
        SlidingHeap heap = new SlidingHeap();
        threeQueued(heap);
        heap.alloc(3);
        heap.alloc(5);
        heap.push(5);
        heap.pop();
        heap.pop();
        heap.refer(5, 0, 1, false);
        row("counts", what -> what < 7 ? heap.count(what) : NONE, 6, 5, 20, 13, 2, 3, 1);
        heap.collect();
        row("counts", what -> what < 7 ? heap.count(what) : NONE, 5, 5, 13, 13, 2, 3, 2);
        for (int what : new int[] {Integer.MIN_VALUE, -1, 7, Integer.MAX_VALUE}) {
            refuses(IllegalArgumentException.class, PromiseTest::twoObjects, h -> h.count(what));
        }
    }

    private static void clear() {
        promise = "19 clear";
        SlidingHeap heap = new SlidingHeap();
        heap.clear();
        same("of a new heap", snapshot(heap), snapshot(new SlidingHeap()));
        SlidingHeap used = new SlidingHeap();
        threeQueued(used);
        used.alloc(4);
        used.refer(5, 0, 4, true);
        used.refer(5, 1, 5, false);
        used.rites(1, true);
        used.clear();
        same("of a used heap", snapshot(used), snapshot(new SlidingHeap()));
        used.alloc(4);
        same("used anew", snapshot(used), snapshot(heapOf(4)));
    }

    private static SlidingHeap heapOf(int... slots) {
        SlidingHeap heap = new SlidingHeap();
        fill(heap, slots);
        return heap;
    }

    private static void fill(SlidingHeap heap, int... slots) {
        for (int many : slots) {
            heap.alloc(many);
        }
    }

    private static void twoObjects(SlidingHeap heap) {
        fill(heap, 2, 10);
        heap.refer(1, 1, 2, false);
        heap.number(2, 9, 8);
    }

    private static void tenRoots(SlidingHeap heap) {
        heap.alloc(1);
        repeat(9, () -> heap.push(1));
    }

    private static void goneObject(SlidingHeap heap) {
        fill(heap, 1, 1);
        heap.pop();
        heap.collect();
    }

    // Leaves 1, 2 and 3 in the queue and 4 as the only root, each without slots.
    private static void threeQueued(SlidingHeap heap) {
        fill(heap, 0, 0, 0, 0);
        for (int handle = 3; handle >= 1; handle--) {
            heap.rites(handle, true);
        }
        repeat(4, heap::pop);
        heap.push(4);
        heap.collect();
    }

    private static void fourteenLost(SlidingHeap heap) {
        for (int handle = 1; handle <= 14; handle++) {
            heap.alloc(1);
            heap.rites(handle, true);
            heap.pop();
        }
    }

    private static void fourteenInUse(SlidingHeap heap) {
        fourteenLost(heap);
        heap.rites(9, false);
        heap.push(9);
    }

    private static void longChain(SlidingHeap heap) {
        fourteenLost(heap);
        for (int handle = 1; handle < 14; handle++) {
            heap.refer(handle, 0, handle + 1, false);
        }
        heap.refer(14, 0, 1, false);
        heap.push(1);
    }

    private interface SlotCall {
        void on(SlidingHeap heap, int handle, int slot);
    }

    private static void refusesSlots(SlotCall call) {
        for (int strange : STRANGE) {
            refuses(IndexOutOfBoundsException.class, PromiseTest::twoObjects, heap -> {
                call.on(heap, strange, 0);
                return 0;
            });
            if (strange != 0) {
                refuses(IndexOutOfBoundsException.class, PromiseTest::twoObjects, heap -> {
                    call.on(heap, 1, strange);
                    return 0;
                });
            }
        }
        refusesSlot(call, PromiseTest::twoObjects, 1, 2);
        refusesSlot(call, PromiseTest::twoObjects, 2, 10);
        refusesSlot(call, PromiseTest::twoObjects, 3, 0);
        refusesSlot(call, PromiseTest::goneObject, 2, 0);
    }

    private static void refusesSlot(SlotCall call, Steps before, int handle, int slot) {
        refuses(IndexOutOfBoundsException.class, before, heap -> {
            call.on(heap, handle, slot);
            return 0;
        });
    }

    // A twin that does not make the call tells what the heap must still be, as looking at all of it takes
    // most of the calls that the document allows a heap.
    private static void refuses(Class<? extends RuntimeException> due, Steps before, Call call) {
        SlidingHeap heap = new SlidingHeap();
        SlidingHeap twin = new SlidingHeap();
        before.on(heap);
        before.on(twin);
        same("exception", thrownBy(heap, call), due.getSimpleName());
        same("state behind " + due.getSimpleName(), snapshot(heap), snapshot(twin));
    }

    private static String thrownBy(SlidingHeap heap, Call call) {
        try {
            return "answer " + call.on(heap);
        } catch (RuntimeException e) {
            return e.getClass().getSimpleName();
        }
    }

    private static String snapshot(SlidingHeap heap) {
        StringBuilder text = new StringBuilder();
        for (int i = 0; i < 90; i++) {
            text.append(heap.word(i)).append(' ');
        }
        text.append("roots").append(read(heap::root)).append("queue").append(read(heap::queued)).append("counts");
        for (int what = 0; what <= 6; what++) {
            text.append(' ').append(heap.count(what));
        }
        for (int handle = 1; handle <= 14; handle++) {
            text.append(" object ").append(handle).append(objectText(heap, handle));
        }
        return text.toString();
    }

    private static String objectText(SlidingHeap heap, int handle) {
        if (thrownBy(heap, h -> h.about(handle, 0)).startsWith("Index")) {
            return " none";
        }
        StringBuilder text = new StringBuilder();
        for (int what = 1; what <= 5; what++) {
            text.append(' ').append(heap.about(handle, what));
        }
        for (int slot = 0; slot < heap.about(handle, 1); slot++) {
            text.append(' ').append(heap.kind(handle, slot));
        }
        return text.append(" far ").append(heap.far(handle)).append(read(k -> heap.way(handle, k))).toString();
    }

    private interface Row {
        int at(int i);
    }

    private static List<Integer> read(Row row) {
        List<Integer> values = new ArrayList<>();
        for (int i = 0; i < 100; i++) {
            int value = row.at(i);
            if (value == NONE) {
                break;
            }
            values.add(value);
        }
        return values;
    }

    // A row is read up to the first NONE; a due value of -7 or the like is no end.
    private static void row(String what, Row row, int... due) {
        same(what, read(row), Arrays.stream(due).boxed().toList());
    }

    private static void repeat(int times, Runnable step) {
        for (int i = 0; i < times; i++) {
            step.run();
        }
    }

    private static void same(String what, Object got, Object want) {
        if (!got.equals(want)) {
            wrong++;
            System.out.println("promise " + promise + ": " + what + ": " + got + ", due is " + want);
        }
    }
}
