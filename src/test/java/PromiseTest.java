import java.util.List;

/** One test for each sentence of the promises: ordinary inputs, the edges that it names, and wrong inputs. */
public final class PromiseTest extends HeapChecks {
    private static final int[] NO_PLACES = {MIN, -2, -1, 14, 90, MAX};

    public static void main(String[] args) {
        sentence("1 a new object: No objects, no roots, an empty queue", PromiseTest::newObject);
        sentence("1 a new object: it has nothing of another one", PromiseTest::newObjectIsItsOwn);
        sentence("2 alloc: A new object at the top", PromiseTest::allocAtTop);
        sentence("2 alloc: with the least free handle", PromiseTest::allocLeastHandle);
        sentence("2 alloc: numbers 0 in its slots", PromiseTest::allocNumbers);
        sentence("2 alloc: and without rites", PromiseTest::allocWithoutRites);
        sentence("2 alloc: it comes to the end of the roots; answers its handle", PromiseTest::allocIsRoot);
        sentence("2 alloc: When there is no handle it collects first", PromiseTest::allocCollectsForHandle);
        sentence("2 alloc: When there are not as many words it collects first", PromiseTest::allocCollectsForWords);
        sentence("2 alloc: it collects first, with all that belongs to it", PromiseTest::allocCollectsWholly);
        sentence("2 alloc: IllegalArgumentException when slots is not 0 .. 10", PromiseTest::allocWrongSlots);
        sentence("2 alloc: IllegalStateException when there are 10 roots", PromiseTest::allocTenRoots);
        sentence("2 alloc: UnsupportedOperationException when there would be no handle", PromiseTest::allocNoHandle);
        sentence("2 alloc: UnsupportedOperationException, or not as many words", PromiseTest::allocNoWords);
        sentence("3 number: A slot becomes a number", PromiseTest::number);
        sentence("3 number: IndexOutOfBoundsException when there is no such object or slot",
            () -> refusesNoSlot((heap, handle, slot) -> heap.number(handle, slot, 5)));
        sentence("4 refer: A slot becomes a reference, weak or not", PromiseTest::refer);
        sentence("4 refer: IndexOutOfBoundsException when there is no such object or slot",
            () -> refusesNoSlot((heap, handle, slot) -> heap.refer(handle, slot, 0, true)));
        sentence("4 refer: IllegalArgumentException when target is neither 0 nor an object",
            PromiseTest::referNoTarget);
        sentence("5 get: The value of a slot", PromiseTest::get);
        sentence("5 get: IndexOutOfBoundsException when there is no such object or slot",
            () -> refusesNoSlot((heap, handle, slot) -> heap.get(handle, slot)));
        sentence("6 kind: 0 a number, 1 a reference, 2 a weak one", PromiseTest::kind);
        sentence("6 kind: IndexOutOfBoundsException when there is no such object or slot",
            () -> refusesNoSlot((heap, handle, slot) -> heap.kind(handle, slot)));
        sentence("7 push: An object comes to the end of the roots; answers how many there are", PromiseTest::push);
        sentence("7 push: IndexOutOfBoundsException when there is no such object",
            () -> refusesNoObject((heap, handle) -> heap.push(handle)));
        sentence("7 push: IllegalStateException when there are 10", PromiseTest::pushTenRoots);
        sentence("8 pop: The last root goes; answers its handle", PromiseTest::pop);
        sentence("8 pop: NONE when there is none", PromiseTest::popNone);
        sentence("9 root: The i-th root (from 0)", PromiseTest::root);
        sentence("9 root: NONE when there is none", PromiseTest::rootNone);
        sentence("10 rites: An object has rites, or not any more", PromiseTest::rites);
        sentence("10 rites: IndexOutOfBoundsException when there is no such object", PromiseTest::ritesNoObject);
        sentence("11 take: The first of the queue comes to the end of the roots", PromiseTest::take);
        sentence("11 take: NONE when there is none", PromiseTest::takeNone);
        sentence("11 take: IllegalStateException when there is one, and there are 10 roots",
            PromiseTest::takeTenRoots);
        sentence("12 queued: The i-th of the queue (from 0)", PromiseTest::queued);
        sentence("12 queued: NONE when there is none", PromiseTest::queuedNone);
        sentence("13 collect: answers by how many words the top came down", PromiseTest::collect);
        sentence("14 word: Word i of the heap", PromiseTest::word);
        sentence("14 word: IndexOutOfBoundsException when there is none", PromiseTest::wordNone);
        sentence("15 about: 0 where its first word is", PromiseTest::aboutPlace);
        sentence("15 about: 1 how many slots", PromiseTest::aboutSlots);
        sentence("15 about: 2 its age", PromiseTest::aboutAge);
        sentence("15 about: 3 whether it has rites (1 or 0)", PromiseTest::aboutRites);
        sentence("15 about: 4 whether it is live (1 or 0)", PromiseTest::aboutLive);
        sentence("15 about: 5 how many slots of objects have it as their value", PromiseTest::aboutShown);
        sentence("15 about: IndexOutOfBoundsException when there is no such object", PromiseTest::aboutNoObject);
        sentence("15 about: IllegalArgumentException when what is none of these", PromiseTest::aboutWrongWhat);
        sentence("16 far: How many references there are on a shortest way", PromiseTest::far);
        sentence("16 far: from some root or one of the queue", PromiseTest::farFromNearest);
        sentence("16 far: references (not weak)", PromiseTest::farNotWeak);
        sentence("16 far: NONE when there is no way", PromiseTest::farNone);
        sentence("16 far: IndexOutOfBoundsException when there is no such object",
            () -> refusesNoObject((heap, handle) -> heap.far(handle)));
        sentence("17 way: Object k (from 0) of a shortest way, the root first, itself last", PromiseTest::way);
        sentence("17 way: the one with the least root", PromiseTest::wayLeastRoot);
        sentence("17 way: then the least second one, and so on", PromiseTest::wayLeastNext);
        sentence("17 way: NONE when there is none", PromiseTest::wayNone);
        sentence("17 way: IndexOutOfBoundsException when there is no such object", PromiseTest::wayNoObject);
        sentence("18 count: 0 objects, 1 live ones", PromiseTest::countObjects);
        sentence("18 count: 2 words in use, 3 words of live ones", PromiseTest::countWords);
        sentence("18 count: 4 roots, 5 in the queue", PromiseTest::countRows);
        sentence("18 count: 6 collections up to now", PromiseTest::countCollections);
        sentence("18 count: also those before objects were made", PromiseTest::countCollectionsOfAlloc);
        sentence("18 count: IllegalArgumentException when what is none of these", PromiseTest::countWrongWhat);
        sentence("19 clear: Empties everything, as at first", PromiseTest::clear);
        sentence("19 clear: what comes behind it is as at first", PromiseTest::clearedIsNew);
        finish();
    }

    private static void newObject() {
        SlidingHeap heap = new SlidingHeap();
        for (int what = 0; what <= 6; what++) {
            same("count(" + what + ")", heap.count(what), 0);
        }
        row("roots", heap::root);
        row("queue", heap::queued);
        for (int handle = 0; handle <= 15; handle++) {
            same("object " + handle, isNone(heap, handle), true);
        }
        same("pop()", heap.pop(), NONE);
        same("take()", heap.take(), NONE);
        same("collect()", heap.collect(), 0);
    }

    private static void newObjectIsItsOwn() {
        List<String> alone = look(heapAfter(HeapChecks::busy));
        SlidingHeap empty = new SlidingHeap();
        SlidingHeap busy = heapAfter(HeapChecks::busy);
        SlidingHeap chain = heapAfter(HeapChecks::fourteenLive);
        heapAfter(HeapChecks::threeQueued).take();
        sameLook("beside others", look(busy), alone);
        sameLook("made before others", look(empty), look(new SlidingHeap()));
        Steps collected = heap -> {
            busy(heap);
            heap.pop();
            heap.collect();
        };
        List<String> collectedAlone = look(heapAfter(collected));
        SlidingHeap again = heapAfter(HeapChecks::busy);
        fourteenLive(empty);
        again.pop();
        again.collect();
        chain.clear();
        sameLook("collected beside others", look(again), collectedAlone);
    }

    private static void allocAtTop() {
        SlidingHeap heap = heapOf(0, 10, 3);
        row("places", i -> i < 3 ? heap.about(i + 1, 0) : NONE, 0, 2, 14);
        same("top", heap.count(2), 19);
        heap.pop();
        heap.alloc(1);
        same("behind one that is lost", heap.about(4, 0), 19);
        heap.collect();
        heap.alloc(1);
        same("where it is when that one is gone", heap.about(3, 0), 17);
        SlidingHeap last = heapOf(10, 10, 10, 10, 10, 10, 10);
        last.alloc(4);
        same("in the last words", last.about(8, 0), 84);
        same("top", last.count(2), 90);
        SlidingHeap least = heapOf(10, 10, 10, 10, 10, 10, 10, 2);
        least.alloc(0);
        same("in the last two words", least.about(9, 0), 88);
        same("its handle", least.word(89), 9);
    }

    private static void allocLeastHandle() {
        SlidingHeap heap = heapOf(0, 0, 0, 0, 0, 0);
        popAll(heap);
        same("not one that is lost, but not gone", heap.alloc(0), 7);
        popAll(heap);
        heap.push(1);
        heap.push(4);
        heap.push(7);
        heap.collect();
        row("the gaps, then behind them", i -> i < 6 ? heap.alloc(0) : NONE, 2, 3, 5, 6, 8, 9);
        SlidingHeap last = heapAfter(HeapChecks::fourteenLive);
        last.refer(13, 0, 0, false);
        last.collect();
        same("only the last is free", last.alloc(0), 14);
        SlidingHeap first = heapAfter(HeapChecks::fourteenLive);
        first.pop();
        first.push(2);
        first.refer(14, 0, 0, false);
        first.collect();
        same("only the first is free", first.alloc(0), 1);
    }

    private static void allocNumbers() {
        SlidingHeap heap = heapOf(10, 10);
        for (int slot = 0; slot < 10; slot++) {
            heap.refer(1, slot, slot % 3 == 0 ? 0 : 1, slot % 2 == 0);
            heap.number(2, slot, -1);
        }
        popAll(heap);
        heap.collect();
        heap.alloc(10);
        heap.alloc(10);
        for (int slot = 0; slot < 10; slot++) {
            for (int handle = 1; handle <= 2; handle++) {
                same("kind where others were", heap.kind(handle, slot), 0);
                same("value where others were", heap.get(handle, slot), 0);
            }
        }
        SlidingHeap full = heapAfter(HeapChecks::ninetyWords);
        for (int slot = 0; slot < 4; slot++) {
            full.refer(8, slot, 8, slot % 2 == 0);
        }
        full.pop();
        same("alloc that collects", full.alloc(4), 8);
        for (int slot = 0; slot < 4; slot++) {
            same("kind behind collecting", full.kind(8, slot), 0);
            same("value behind collecting", full.get(8, slot), 0);
        }
    }

    private static void allocWithoutRites() {
        SlidingHeap heap = heapOf(0);
        same("at first", heap.about(1, 3), 0);
        heap.rites(1, true);
        heap.clear();
        heap.alloc(0);
        same("where one with rites was cleared away", heap.about(1, 3), 0);
        heap.rites(1, true);
        heap.pop();
        heap.collect();
        heap.take();
        heap.pop();
        heap.collect();
        same("alloc", heap.alloc(0), 1);
        same("where one that had rites is gone", heap.about(1, 3), 0);
    }

    private static void allocIsRoot() {
        SlidingHeap heap = heapOf(0, 0);
        heap.push(1);
        same("its handle", heap.alloc(5), 3);
        row("roots", heap::root, 1, 2, 1, 3);
        repeat(5, () -> heap.push(2));
        same("as the tenth root", heap.alloc(0), 4);
        same("the tenth root", heap.root(9), 4);
        SlidingHeap full = heapAfter(HeapChecks::ninetyWords);
        full.pop();
        full.push(3);
        same("behind collecting", full.alloc(4), 8);
        row("roots behind collecting", full::root, 1, 2, 3, 4, 5, 6, 7, 3, 8);
    }

    private static void allocCollectsForHandle() {
        SlidingHeap heap = new SlidingHeap();
        allLost(heap, 13, 0);
        same("the fourteenth needs none", heap.alloc(0), 14);
        same("collections", heap.count(6), 0);
        same("the fifteenth takes the least that is free then", heap.alloc(0), 1);
        same("collections", heap.count(6), 1);
        same("objects", heap.count(0), 2);
        same("the older one's place", heap.about(14, 0), 0);
        same("its place", heap.about(1, 0), 2);
        SlidingHeap one = heapAfter(HeapChecks::fourteenLive);
        one.refer(13, 0, 0, false);
        same("one is lost", one.alloc(1), 14);
        same("objects", one.count(0), 14);
    }

    private static void allocCollectsForWords() {
        for (int slots = 0; slots <= 10; slots++) {
            SlidingHeap fits = heapAfter(fillsUpTo(90 - slots - 2));
            same("just as many words", fits.alloc(slots), 10);
            same("no collection is needed", fits.count(6), 0);
            same("top", fits.count(2), 90);
            SlidingHeap collects = heapAfter(fillsUpTo(90 - slots - 1));
            same("one word too few", collects.alloc(slots), 1);
            same("a collection is needed", collects.count(6), 1);
            same("its place", collects.about(1, 0), 0);
        }
        SlidingHeap full = heapAfter(HeapChecks::ninetyWords);
        full.pop();
        same("without any word", full.alloc(0), 8);
        same("collections", full.count(6), 1);
        same("its place", full.about(8, 0), 84);
    }

    // Nine objects, all lost, with as many words in use as are asked for: 29 at least.
    private static Steps fillsUpTo(int words) {
        return heap -> {
            int left = words - 9 * 2;
            for (int i = 0; i < 9; i++) {
                int slots = Math.min(10, left);
                left -= slots;
                heap.alloc(slots);
                heap.pop();
            }
        };
    }

    private static void allocCollectsWholly() {
        SlidingHeap heap = heapOf(10, 10, 10, 10, 10, 10, 3, 0, 3);
        heap.refer(1, 0, 8, true);
        heap.refer(1, 1, 9, true);
        heap.rites(8, true);
        repeat(3, heap::pop);
        heap.push(7);
        same("words in use", heap.count(2), 84);
        same("alloc", heap.alloc(6), 9);
        row("queue", heap::queued, 8);
        same("rites are spent", heap.about(8, 3), 0);
        same("a weak slot with one that came to the queue", heap.get(1, 0), 0);
        same("a weak slot with one that is gone", heap.get(1, 1), 0);
        same("age", heap.about(7, 2), 1);
        same("place", heap.about(9, 0), 79);
        same("words in use", heap.count(2), 87);
    }

    private static void allocWrongSlots() {
        for (int slots : new int[] {MIN, -2, -1, 11, 12, 88, MAX - 1, MAX}) {
            refuses(ARGUMENT, NEW, heap -> heap.alloc(slots));
            refuses(ARGUMENT, HeapChecks::busy, heap -> heap.alloc(slots));
        }
        same("alloc(0)", new SlidingHeap().alloc(0), 1);
        same("alloc(10)", new SlidingHeap().alloc(10), 1);
    }

    private static void allocTenRoots() {
        SlidingHeap heap = heapOf(0);
        repeat(8, () -> heap.push(1));
        same("with nine roots", heap.alloc(0), 2);
        for (int slots : new int[] {0, 10}) {
            refuses(STATE, HeapChecks::tenRoots, h -> h.alloc(slots));
            refuses(STATE, HeapChecks::busyWithTenRoots, h -> h.alloc(slots));
        }
        refuses(STATE, h -> fill(h, 7, 7, 7, 7, 7, 7, 7, 7, 7, 7), h -> h.alloc(0));
    }

    private static void allocNoHandle() {
        refuses(UNSUPPORTED, HeapChecks::fourteenLive, heap -> heap.alloc(0));
        refuses(UNSUPPORTED, HeapChecks::fourteenWithRites, heap -> heap.alloc(0));
        refuses(UNSUPPORTED, heap -> {
            fourteenWithRites(heap);
            heap.collect();
        }, heap -> heap.alloc(0));
        // The rites of the first alone hold all the others.
        refuses(UNSUPPORTED, heap -> {
            fourteenLive(heap);
            heap.pop();
            heap.rites(1, true);
        }, heap -> heap.alloc(0));
        SlidingHeap one = heapAfter(HeapChecks::fourteenWithRites);
        one.rites(9, false);
        same("one without rites is enough", one.alloc(0), 9);
        same("the others are in the queue", one.count(5), 13);
    }

    private static void allocNoWords() {
        refuses(UNSUPPORTED, HeapChecks::ninetyWords, heap -> heap.alloc(0));
        for (int slots = 5; slots <= 10; slots++) {
            int many = slots;
            refuses(UNSUPPORTED, heap -> fill(heap, 10, 10, 10, 10, 10, 10, 10), heap -> heap.alloc(many));
            // Collecting would help, but by too little: four slots would fit then.
            refuses(UNSUPPORTED, heap -> {
                ninetyWords(heap);
                heap.pop();
            }, heap -> heap.alloc(many));
        }
        SlidingHeap fits = heapAfter(HeapChecks::ninetyWords);
        fits.pop();
        same("just as many behind collecting", fits.alloc(4), 8);
        same("top", fits.count(2), 90);
        Steps heldByRites = heap -> {
            ninetyWords(heap);
            heap.refer(8, 0, 7, false);
            heap.refer(1, 0, 8, true);
            heap.rites(8, true);
            heap.pop();
            heap.pop();
        };
        refuses(UNSUPPORTED, heldByRites, heap -> heap.alloc(0));
        Steps heldWeakly = heap -> {
            heldByRites.on(heap);
            heap.refer(8, 0, 7, true);
        };
        same("what has rites holds nothing weakly", heapAfter(heldWeakly).alloc(10), 7);
    }

    private static void number() {
        SlidingHeap heap = heapOf(10, 1);
        for (int value : new int[] {MIN, -1, 0, 1, 2, 15, MAX}) {
            heap.number(1, 0, value);
            heap.number(1, 9, -value);
            same("the first slot", heap.get(1, 0), value);
            same("the last slot", heap.get(1, 9), -value);
            same("kind", heap.kind(1, 9), 0);
            same("a slot between", heap.get(1, 5), 0);
            same("the next object", heap.word(12), 1);
        }
        for (boolean weak : new boolean[] {false, true}) {
            heap.refer(1, 4, 2, weak);
            heap.number(1, 4, 2);
            same("kind behind a reference", heap.kind(1, 4), 0);
        }
        heap.pop();
        same("a number holds nothing", isLive(heap, 2), false);
        heap.number(2, 0, 6);
        same("of one that is lost, but not gone", heap.get(2, 0), 6);
    }

    private static void refer() {
        SlidingHeap heap = heapOf(10, 1);
        heap.refer(1, 0, 2, false);
        heap.refer(1, 1, 2, true);
        heap.refer(1, 9, 1, false);
        first("value", slot -> heap.get(1, slot), 2, 2, 0, 0, 0, 0, 0, 0, 0, 1);
        first("kind", slot -> heap.kind(1, slot), 1, 2, 0, 0, 0, 0, 0, 0, 0, 1);
        heap.refer(1, 0, 0, true);
        heap.refer(1, 1, 0, false);
        first("value 0", slot -> heap.get(1, slot), 0, 0);
        first("kind of 0", slot -> heap.kind(1, slot), 2, 1);
        heap.pop();
        heap.refer(1, 0, 2, false);
        same("one that is lost, but not gone, is live again", isLive(heap, 2), true);
        heap.refer(1, 0, 1, false);
        heap.refer(2, 0, 1, false);
        same("a slot of one that is lost, but not gone", heap.get(2, 0), 1);
        SlidingHeap all = heapAfter(HeapChecks::fourteenLive);
        all.refer(14, 0, 14, true);
        same("the greatest handle", all.get(14, 0), 14);
    }

    private static void referNoTarget() {
        for (int target : new int[] {MIN, -2, -1, 6, 7, 14, 15, 16, 90, MAX}) {
            for (boolean weak : new boolean[] {false, true}) {
                refuses(ARGUMENT, HeapChecks::busy, heap -> noAnswer(() -> heap.refer(1, 0, target, weak)));
            }
        }
        refuses(ARGUMENT, HeapChecks::fourteenLive, heap -> noAnswer(() -> heap.refer(1, 0, 15, false)));
    }

    private static void get() {
        SlidingHeap heap = heapOf(1, 10);
        heap.number(2, 0, 41);
        heap.number(2, 9, MIN);
        heap.refer(1, 0, 2, true);
        same("the first slot", heap.get(2, 0), 41);
        same("the last slot", heap.get(2, 9), MIN);
        same("a weak slot", heap.get(1, 0), 2);
        popAll(heap);
        same("of one that is lost, but not gone", heap.get(2, 9), MIN);
        heap.push(2);
        heap.collect();
        same("of one that came down", heap.get(2, 9), MIN);
    }

    private static void kind() {
        SlidingHeap heap = heapOf(0, 10);
        heap.refer(2, 0, 2, false);
        heap.refer(2, 9, 2, true);
        first("kind", slot -> heap.kind(2, slot), 1, 0, 0, 0, 0, 0, 0, 0, 0, 2);
        heap.refer(2, 0, 0, true);
        heap.refer(2, 9, 0, false);
        first("kind", slot -> heap.kind(2, slot), 2, 0, 0, 0, 0, 0, 0, 0, 0, 1);
        popAll(heap);
        same("of one that is lost, but not gone", heap.kind(2, 9), 1);
        heap.push(2);
        heap.collect();
        first("kind of one that came down", slot -> heap.kind(2, slot), 2, 0, 0, 0, 0, 0, 0, 0, 0, 1);
    }

    private static void push() {
        SlidingHeap heap = heapOf(0, 0);
        same("push(1)", heap.push(1), 3);
        same("push(1) again", heap.push(1), 4);
        row("roots", heap::root, 1, 2, 1, 1);
        popAll(heap);
        same("the first root, of one that is lost, but not gone", heap.push(2), 1);
        for (int many = 2; many <= 10; many++) {
            same("push", heap.push(many % 2 + 1), many);
        }
        row("ten roots", heap::root, 2, 1, 2, 1, 2, 1, 2, 1, 2, 1);
        SlidingHeap queue = heapAfter(HeapChecks::threeQueued);
        same("the first of the queue", queue.push(1), 2);
        same("the last of the queue", queue.push(3), 3);
        row("they stay there", queue::queued, 1, 2, 3);
        SlidingHeap all = heapAfter(HeapChecks::fourteenLive);
        same("the greatest handle", all.push(14), 2);
    }

    private static void pushTenRoots() {
        refuses(STATE, HeapChecks::tenRoots, heap -> heap.push(1));
        refuses(STATE, HeapChecks::busyWithTenRoots, heap -> heap.push(3));
        refuses(STATE, HeapChecks::busyWithTenRoots, heap -> heap.push(4));
    }

    private static void pop() {
        SlidingHeap heap = heapOf(0, 0);
        heap.push(1);
        row("pop", i -> heap.pop(), 1, 2, 1);
        same("objects stay until they are collected", heap.count(0), 2);
        SlidingHeap full = heapOf(0, 0, 0, 0, 0, 0, 0, 0, 0, 0);
        row("pop of ten roots", i -> full.pop(), 10, 9, 8, 7, 6, 5, 4, 3, 2, 1);
    }

    private static void popNone() {
        SlidingHeap heap = new SlidingHeap();
        repeat(3, () -> same("without objects", heap.pop(), NONE));
        same("roots", heap.count(4), 0);
        heap.alloc(0);
        heap.pop();
        repeat(3, () -> same("without roots", heap.pop(), NONE));
        same("roots", heap.count(4), 0);
        same("push behind it", heap.push(1), 1);
        row("roots", heap::root, 1);
    }

    private static void root() {
        SlidingHeap heap = heapOf(0, 0, 0);
        heap.push(2);
        row("roots", heap::root, 1, 2, 3, 2);
        SlidingHeap full = heapOf(0, 0, 0, 0, 0, 0, 0, 0, 0, 0);
        same("the first of ten", full.root(0), 1);
        same("the last of ten", full.root(9), 10);
    }

    private static void rootNone() {
        SlidingHeap heap = new SlidingHeap();
        same("the first of none", heap.root(0), NONE);
        heap.alloc(0);
        heap.alloc(0);
        heap.pop();
        same("where one was", heap.root(1), NONE);
        SlidingHeap full = heapAfter(HeapChecks::tenRoots);
        same("behind ten", full.root(10), NONE);
        for (int i : NO_PLACES) {
            same("root(" + i + ")", heap.root(i), NONE);
            same("root(" + i + ") of ten", full.root(i), NONE);
        }
    }

    private static void rites() {
        SlidingHeap heap = heapOf(0, 0);
        repeat(2, () -> heap.rites(1, true));
        repeat(2, () -> heap.rites(2, false));
        same("given twice", heap.about(1, 3), 1);
        same("never given", heap.about(2, 3), 0);
        heap.rites(2, true);
        repeat(2, () -> heap.rites(1, false));
        same("taken back", heap.about(1, 3), 0);
        popAll(heap);
        heap.rites(2, false);
        heap.rites(2, true);
        same("of one that is lost, but not gone", heap.about(2, 3), 1);
        same("one without rites goes", heap.collect(), 2);
        row("queue", heap::queued, 2);
        heap.rites(2, true);
        same("of one in the queue", heap.about(2, 3), 1);
        SlidingHeap all = heapAfter(HeapChecks::fourteenLive);
        all.rites(14, true);
        same("the greatest handle", all.about(14, 3), 1);
        same("its neighbour", all.about(13, 3), 0);
    }

    private static void ritesNoObject() {
        refusesNoObject((heap, handle) -> heap.rites(handle, true));
        refusesNoObject((heap, handle) -> heap.rites(handle, false));
    }

    private static void take() {
        SlidingHeap heap = heapAfter(HeapChecks::threeQueued);
        same("take", heap.take(), 1);
        row("queue", heap::queued, 2, 3);
        row("roots", heap::root, 4, 1);
        same("take", heap.take(), 2);
        same("take of the last", heap.take(), 3);
        row("queue", heap::queued);
        row("roots", heap::root, 4, 1, 2, 3);
        SlidingHeap nine = heapAfter(HeapChecks::threeQueued);
        repeat(8, () -> nine.push(4));
        same("with nine roots", nine.take(), 1);
        same("the tenth root", nine.root(9), 1);
        SlidingHeap all = heapAfter(HeapChecks::fourteenWithRites);
        all.collect();
        row("ten of fourteen", i -> i < 10 ? all.take() : NONE, 1, 2, 3, 4, 5, 6, 7, 8, 9, 10);
        row("queue", all::queued, 11, 12, 13, 14);
    }

    private static void takeNone() {
        SlidingHeap heap = new SlidingHeap();
        repeat(2, () -> same("without objects", heap.take(), NONE));
        same("roots", heap.count(4), 0);
        SlidingHeap taken = heapAfter(HeapChecks::threeQueued);
        repeat(3, taken::take);
        repeat(2, () -> same("when all are taken", taken.take(), NONE));
        row("roots", taken::root, 4, 1, 2, 3);
        row("queue", taken::queued);
        SlidingHeap full = heapAfter(HeapChecks::tenRoots);
        same("with ten roots", full.take(), NONE);
        same("how many there are then", full.count(4), 10);
    }

    private static void takeTenRoots() {
        refuses(STATE, heap -> {
            threeQueued(heap);
            repeat(9, () -> heap.push(4));
        }, SlidingHeap::take);
        refuses(STATE, HeapChecks::busyWithTenRoots, SlidingHeap::take);
    }

    private static void queued() {
        SlidingHeap heap = heapAfter(HeapChecks::threeQueued);
        row("queue", heap::queued, 1, 2, 3);
        heap.take();
        row("the first has gone", heap::queued, 2, 3);
        SlidingHeap all = heapAfter(HeapChecks::fourteenWithRites);
        all.collect();
        same("the first of fourteen", all.queued(0), 1);
        same("the last of fourteen", all.queued(13), 14);
    }

    private static void queuedNone() {
        SlidingHeap heap = new SlidingHeap();
        same("the first of none", heap.queued(0), NONE);
        SlidingHeap three = heapAfter(HeapChecks::threeQueued);
        same("behind the last", three.queued(3), NONE);
        three.take();
        same("where one was", three.queued(2), NONE);
        SlidingHeap all = heapAfter(HeapChecks::fourteenWithRites);
        all.collect();
        for (int i : NO_PLACES) {
            same("queued(" + i + ")", heap.queued(i), NONE);
            same("queued(" + i + ") of fourteen", all.queued(i), NONE);
        }
    }

    private static void collect() {
        SlidingHeap heap = new SlidingHeap();
        same("without objects", heap.collect(), 0);
        fill(heap, 2, 1, 3, 0);
        same("when nothing is lost", heap.collect(), 0);
        heap.pop();
        same("when the least is lost", heap.collect(), 2);
        heap.pop();
        heap.pop();
        heap.push(3);
        same("when one between is lost", heap.collect(), 3);
        same("a second time", heap.collect(), 0);
        heap.rites(3, true);
        heap.pop();
        same("when the lost one has rites", heap.collect(), 0);
        SlidingHeap full = heapAfter(HeapChecks::ninetyWords);
        popAll(full);
        same("when all words go", full.collect(), 90);
        same("a second time", full.collect(), 0);
    }

    private static void word() {
        SlidingHeap heap = heapOf(2, 0);
        heap.number(1, 0, MAX);
        heap.refer(1, 1, 2, true);
        first("word", heap::word, 2, 1, MAX, 2, 0, 2, 0);
        same("the last word, not in use", heap.word(89), 0);
        heap.number(1, 0, 4);
        same("a word that has changed", heap.word(2), 4);
        SlidingHeap full = heapAfter(HeapChecks::ninetyWords);
        full.number(8, 3, MIN);
        same("the first word of a full heap", full.word(0), 10);
        same("the last word of a full heap", full.word(89), MIN);
    }

    private static void wordNone() {
        for (int i : new int[] {MIN, -2, -1, 90, 91, MAX}) {
            refuses(INDEX, NEW, heap -> heap.word(i));
            refuses(INDEX, HeapChecks::busy, heap -> heap.word(i));
            refuses(INDEX, HeapChecks::ninetyWords, heap -> heap.word(i));
        }
    }

    private static void aboutPlace() {
        SlidingHeap heap = heapOf(1, 0, 10);
        row("places", i -> i < 3 ? heap.about(i + 1, 0) : NONE, 0, 3, 5);
        popAll(heap);
        heap.push(3);
        heap.collect();
        same("of one that came down", heap.about(3, 0), 0);
        SlidingHeap last = heapOf(10, 10, 10, 10, 10, 10, 10, 2, 0);
        same("the last place that there is", last.about(9, 0), 88);
    }

    private static void aboutSlots() {
        SlidingHeap heap = heapOf(0, 10, 1);
        row("slots", i -> i < 3 ? heap.about(i + 1, 1) : NONE, 0, 10, 1);
        popAll(heap);
        heap.collect();
        heap.alloc(7);
        same("of a handle that is used again", heap.about(1, 1), 7);
    }

    private static void aboutAge() {
        SlidingHeap heap = heapOf(0);
        same("at first", heap.about(1, 2), 0);
        heap.pop();
        same("of one that is lost, but not gone", heap.about(1, 2), 0);
        heap.push(1);
        heap.collect();
        same("behind collecting", heap.about(1, 2), 1);
        repeat(97, heap::collect);
        same("the last but one", heap.about(1, 2), 98);
        heap.collect();
        same("the last", heap.about(1, 2), 99);
        heap.collect();
        same("and no more", heap.about(1, 2), 99);
    }

    private static void aboutRites() {
        SlidingHeap heap = heapOf(0, 0);
        heap.rites(2, true);
        same("without", heap.about(1, 3), 0);
        same("with", heap.about(2, 3), 1);
        heap.pop();
        same("of one that is lost, but not gone", heap.about(2, 3), 1);
        heap.collect();
        same("of one in the queue", heap.about(2, 3), 0);
    }

    private static void aboutLive() {
        SlidingHeap heap = heapOf(1, 0);
        heap.refer(1, 0, 2, false);
        heap.pop();
        row("a root and what it leads to", i -> i < 2 ? heap.about(i + 1, 4) : NONE, 1, 1);
        heap.refer(1, 0, 2, true);
        row("a root and what it has weakly", i -> i < 2 ? heap.about(i + 1, 4) : NONE, 1, 0);
        heap.rites(2, true);
        same("rites do not make live", heap.about(2, 4), 0);
        heap.collect();
        same("the queue does", heap.about(2, 4), 1);
    }

    private static void aboutShown() {
        SlidingHeap heap = heapOf(10, 2);
        same("none", heap.about(2, 5), 0);
        heap.refer(1, 0, 2, false);
        heap.refer(1, 9, 2, true);
        same("each slot of one object", heap.about(2, 5), 2);
        heap.refer(2, 1, 2, false);
        same("its own too", heap.about(2, 5), 3);
        heap.number(1, 5, 2);
        same("no number", heap.about(2, 5), 3);
        heap.refer(1, 5, 1, false);
        heap.refer(1, 6, 0, false);
        same("no slot with another one", heap.about(2, 5), 3);
        popAll(heap);
        same("those of lost ones", heap.about(2, 5), 3);
        heap.push(2);
        heap.collect();
        same("not those of gone ones", heap.about(2, 5), 1);
        SlidingHeap most = heapOf(10, 10, 10, 10, 10, 10, 10);
        for (int handle = 1; handle <= 7; handle++) {
            for (int slot = 0; slot < 10; slot++) {
                most.refer(handle, slot, 7, slot < 5);
            }
        }
        same("all slots of all objects", most.about(7, 5), 70);
        // The words of the header are no slots, though they may be as great as the handle.
        same("no word of a header", heapOf(2, 2).about(2, 5), 0);
    }

    private static void aboutNoObject() {
        for (int what = 0; what <= 5; what++) {
            int which = what;
            refusesNoObject((heap, handle) -> heap.about(handle, which));
        }
    }

    private static void aboutWrongWhat() {
        for (int what : new int[] {MIN, -2, -1, 6, 7, MAX}) {
            refuses(ARGUMENT, HeapChecks::busy, heap -> heap.about(1, what));
            refuses(ARGUMENT, HeapChecks::busy, heap -> heap.about(4, what));
        }
    }

    private static void far() {
        SlidingHeap heap = heapOf(2, 1, 1, 0);
        repeat(3, heap::pop);
        heap.refer(1, 0, 2, false);
        heap.refer(2, 0, 3, false);
        heap.refer(3, 0, 4, false);
        first("in a chain", i -> heap.far(i + 1), 0, 1, 2, 3);
        heap.refer(1, 1, 3, false);
        first("with a shorter way", i -> heap.far(i + 1), 0, 1, 1, 2);
        SlidingHeap chain = heapAfter(HeapChecks::fourteenLive);
        same("the root, though a ring leads back to it", chain.far(1), 0);
        same("the longest way", chain.far(14), 13);
        SlidingHeap self = heapOf(1);
        self.refer(1, 0, 1, false);
        same("a root that refers to itself", self.far(1), 0);
    }

    private static void farFromNearest() {
        SlidingHeap heap = heapAfter(HeapChecks::fourteenLive);
        heap.push(9);
        first("from the nearest root", i -> heap.far(i + 1), 0, 1, 2, 3, 4, 5, 6, 7, 0, 1, 2, 3, 4, 5);
        heap.pop();
        heap.pop();
        heap.rites(13, true);
        heap.collect();
        first("from the queue", i -> heap.far(i + 1), 2, 3, 4, 5, 6, 7, 8, 9, 10, 11, 12, 13, 0, 1);
        heap.push(12);
        first("from the queue and from a root", i -> heap.far(i + 11), 12, 0, 0, 1);
        SlidingHeap last = heapAfter(HeapChecks::fourteenLive);
        last.push(3);
        repeat(7, () -> last.push(1));
        last.push(14);
        same("from the tenth root", last.far(14), 0);
    }

    private static void farNotWeak() {
        SlidingHeap heap = heapOf(2, 1, 0);
        repeat(2, heap::pop);
        heap.refer(1, 0, 3, true);
        heap.refer(1, 1, 2, false);
        heap.refer(2, 0, 3, false);
        same("not the weak one, though it is shorter", heap.far(3), 2);
        heap.refer(2, 0, 3, true);
        same("weak ones only", heap.far(3), NONE);
        heap.number(2, 0, 3);
        same("a number", heap.far(3), NONE);
    }

    private static void farNone() {
        SlidingHeap heap = heapOf(1, 1);
        heap.refer(1, 0, 2, false);
        heap.refer(2, 0, 1, false);
        popAll(heap);
        same("without roots, in a ring", heap.far(1), NONE);
        heap.rites(1, true);
        same("rites are no way", heap.far(1), NONE);
        heap.alloc(0);
        same("with another root", heap.far(2), NONE);
        heap.pop();
        heap.push(2);
        heap.refer(2, 0, 0, false);
        same("against a reference", heap.far(1), NONE);
    }

    private static void way() {
        SlidingHeap chain = heapAfter(HeapChecks::fourteenLive);
        row("the longest way", k -> chain.way(14, k), 1, 2, 3, 4, 5, 6, 7, 8, 9, 10, 11, 12, 13, 14);
        row("a root alone, though a ring leads back to it", k -> chain.way(1, k), 1);
        chain.push(12);
        row("the shortest, though its root is greater", k -> chain.way(14, k), 12, 13, 14);
        SlidingHeap queue = heapAfter(HeapChecks::fourteenLive);
        queue.rites(13, true);
        queue.pop();
        queue.collect();
        row("from the queue", k -> queue.way(2, k), 13, 14, 1, 2);
        row("one of the queue alone", k -> queue.way(13, k), 13);
        SlidingHeap weak = heapOf(2, 1, 1, 0);
        repeat(3, weak::pop);
        weak.refer(1, 0, 2, true);
        weak.refer(1, 1, 3, false);
        weak.refer(2, 0, 4, false);
        weak.refer(3, 0, 4, false);
        row("not over a weak one, though it is less", k -> weak.way(4, k), 1, 3, 4);
        row("it ends with the object, though that leads on", k -> weak.way(3, k), 1, 3);
    }

    private static void wayLeastRoot() {
        SlidingHeap heap = heapOf(1, 1, 1, 1, 0);
        popAll(heap);
        heap.refer(1, 0, 4, false);
        heap.refer(2, 0, 3, false);
        heap.refer(3, 0, 5, false);
        heap.refer(4, 0, 5, false);
        heap.push(2);
        heap.push(1);
        row("though it is a later root, and its second one is greater", k -> heap.way(5, k), 1, 4, 5);
        SlidingHeap queue = heapOf(1, 1, 0);
        queue.refer(1, 0, 3, false);
        queue.refer(2, 0, 3, false);
        queue.rites(1, true);
        popAll(queue);
        queue.push(2);
        queue.collect();
        row("the one of the queue is less", k -> queue.way(3, k), 1, 3);
        SlidingHeap root = heapOf(1, 1, 0);
        root.refer(1, 0, 3, false);
        root.refer(2, 0, 3, false);
        root.rites(2, true);
        popAll(root);
        root.push(1);
        root.collect();
        row("the root is less", k -> root.way(3, k), 1, 3);
    }

    private static void wayLeastNext() {
        SlidingHeap heap = heapOf(2, 2, 2, 1, 1, 0);
        repeat(5, heap::pop);
        heap.refer(1, 0, 3, false);
        heap.refer(1, 1, 2, false);
        heap.refer(3, 0, 4, false);
        heap.refer(4, 0, 6, false);
        heap.refer(2, 0, 5, false);
        heap.refer(5, 0, 6, false);
        row("the second is less, though its slot is later and its third is greater",
            k -> heap.way(6, k), 1, 2, 5, 6);
        heap.refer(2, 1, 4, false);
        row("the third is less, though its slot is later", k -> heap.way(6, k), 1, 2, 4, 6);
        heap.refer(2, 0, 4, false);
        heap.refer(2, 1, 5, false);
        row("the third is less, and its slot is earlier", k -> heap.way(6, k), 1, 2, 4, 6);
        heap.refer(2, 0, 5, false);
        heap.refer(2, 1, 3, false);
        row("the least second one that is on a shortest way", k -> heap.way(6, k), 1, 2, 5, 6);
        heap.refer(2, 0, 0, false);
        heap.refer(2, 1, 0, false);
        row("not one that leads nowhere, though it is less", k -> heap.way(6, k), 1, 3, 4, 6);
    }

    private static void wayNone() {
        SlidingHeap heap = heapAfter(HeapChecks::fourteenLive);
        same("behind the longest way", heap.way(14, 14), NONE);
        same("behind a root", heap.way(1, 1), NONE);
        SlidingHeap leadsOn = heapOf(2, 0);
        leadsOn.pop();
        leadsOn.refer(1, 0, 2, false);
        leadsOn.refer(1, 1, 0, false);
        for (int k = 1; k <= 3; k++) {
            same("behind a root that leads on", leadsOn.way(1, k), NONE);
        }
        for (int k : new int[] {MIN, -2, -1, 15, 90, MAX}) {
            same("way(14, " + k + ")", heap.way(14, k), NONE);
            same("way(1, " + k + ")", heap.way(1, k), NONE);
        }
        heap.pop();
        for (int k : new int[] {MIN, -1, 0, 1, MAX}) {
            same("way(14, " + k + ") of one that is lost", heap.way(14, k), NONE);
        }
        SlidingHeap weak = heapOf(1, 0);
        weak.pop();
        weak.refer(1, 0, 2, true);
        row("over weak ones only", k -> weak.way(2, k));
    }

    private static void wayNoObject() {
        refusesNoObject((heap, handle) -> heap.way(handle, 0));
        refusesNoObject((heap, handle) -> heap.way(handle, -1));
        refusesNoObject((heap, handle) -> heap.way(handle, 14));
    }

    private static void countObjects() {
        SlidingHeap heap = heapAfter(HeapChecks::fourteenLive);
        first("all live", heap::count, 14, 14);
        heap.pop();
        first("all lost", heap::count, 14, 0);
        heap.push(14);
        heap.refer(1, 0, 0, false);
        first("two live", heap::count, 14, 2);
        heap.push(1);
        heap.push(1);
        first("none counts twice", heap::count, 14, 2);
        heap.collect();
        first("the others are gone", heap::count, 2, 2);
        popAll(heap);
        heap.collect();
        first("none", heap::count, 0, 0);
    }

    private static void countWords() {
        SlidingHeap heap = heapAfter(HeapChecks::ninetyWords);
        same("all in use", heap.count(2), 90);
        same("all of live ones", heap.count(3), 90);
        heap.pop();
        same("in use", heap.count(2), 90);
        same("of live ones", heap.count(3), 84);
        heap.push(1);
        same("none counts twice", heap.count(3), 84);
        popAll(heap);
        same("in use, all lost", heap.count(2), 90);
        same("of live ones, all lost", heap.count(3), 0);
        heap.rites(8, true);
        heap.collect();
        same("in use, one in the queue", heap.count(2), 6);
        same("of live ones, one in the queue", heap.count(3), 6);
    }

    private static void countRows() {
        SlidingHeap heap = heapAfter(HeapChecks::fourteenWithRites);
        same("no roots", heap.count(4), 0);
        same("an empty queue", heap.count(5), 0);
        heap.collect();
        same("all in the queue", heap.count(5), 14);
        repeat(10, heap::take);
        same("ten roots", heap.count(4), 10);
        same("what is left in the queue", heap.count(5), 4);
        heap.pop();
        heap.push(1);
        same("an object that is there twice", heap.count(4), 10);
    }

    private static void countCollections() {
        SlidingHeap heap = new SlidingHeap();
        same("at first", heap.count(6), 0);
        heap.collect();
        same("without objects", heap.count(6), 1);
        heap.alloc(0);
        same("behind alloc", heap.count(6), 1);
        heap.collect();
        heap.collect();
        same("when nothing is lost", heap.count(6), 3);
    }

    private static void countCollectionsOfAlloc() {
        SlidingHeap heap = heapAfter(HeapChecks::ninetyWords);
        for (int times = 1; times <= 3; times++) {
            heap.pop();
            heap.alloc(4);
            same("alloc that collects", heap.count(6), times);
        }
        thrownBy(heap, h -> h.alloc(0));
        same("alloc that throws", heap.count(6), 3);
        heap.pop();
        heap.collect();
        heap.alloc(4);
        same("alloc that does not collect", heap.count(6), 4);
    }

    private static void countWrongWhat() {
        for (int what : new int[] {MIN, -2, -1, 7, 8, MAX}) {
            refuses(ARGUMENT, NEW, heap -> heap.count(what));
            refuses(ARGUMENT, HeapChecks::busy, heap -> heap.count(what));
        }
    }

    private static void clear() {
        List<String> empty = look(new SlidingHeap());
        Steps[] all = {NEW, HeapChecks::busy, HeapChecks::busyWithTenRoots, HeapChecks::busyAndFull,
            HeapChecks::ninetyWords, HeapChecks::fourteenLive, HeapChecks::threeQueued};
        for (Steps before : all) {
            SlidingHeap heap = heapAfter(before);
            heap.clear();
            sameLook("all that is there", look(heap), empty);
        }
    }

    private static void clearedIsNew() {
        List<String> due = look(heapAfter(HeapChecks::busyAndFull));
        Steps[] all = {NEW, HeapChecks::busy, HeapChecks::busyWithTenRoots, HeapChecks::busyAndFull,
            HeapChecks::ninetyWords, HeapChecks::fourteenWithRites};
        for (Steps before : all) {
            SlidingHeap heap = heapAfter(before);
            heap.clear();
            busyAndFull(heap);
            sameLook("used anew", look(heap), due);
        }
        SlidingHeap full = heapAfter(HeapChecks::ninetyWords);
        for (int slot = 0; slot < 10; slot++) {
            full.refer(1, slot, 1, slot % 2 == 0);
        }
        full.clear();
        full.clear();
        same("the first handle", full.alloc(10), 1);
        first("kind where references were", slot -> full.kind(1, slot), 0, 0, 0, 0, 0, 0, 0, 0, 0, 0);
    }
}
