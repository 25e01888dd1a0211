/** One test for each sentence of the document's Terms that names a case at an edge. */
public final class TermsTest extends HeapChecks {
    public static void main(String[] args) {
        sentence("An object is used for at most 512 calls", TermsTest::lastCall);
        sentence("THE HEAP has 90 WORDS, 0 .. 89, at first all 0", TermsTest::words);
        sentence("of which those before its TOP (at first 0) are in use", TermsTest::top);
        sentence("OBJECTS have HANDLES 1 .. 14", TermsTest::handles);
        sentence("each has 0 .. 10 SLOTS, and takes as many words and 2 more", TermsTest::sizes);
        sentence("one behind the other: how many slots, its handle, the slots' values", TermsTest::layout);
        sentence("A slot is a NUMBER, a REFERENCE, or a WEAK one", TermsTest::slotKinds);
        sentence("the value of the last two is the handle of an object, or 0", TermsTest::slotValues);
        sentence("Each object has an AGE, at first 0", TermsTest::firstAge);
        sentence("ROOTS are a row of at most 10 handles", TermsTest::mostRoots);
        sentence("an object may be in it more than once", TermsTest::rootTwice);
        sentence("the QUEUE a row of handles", TermsTest::longestQueue);
        sentence("LIVE when it is in the roots", TermsTest::liveByRoots);
        sentence("LIVE when it is in the queue", TermsTest::liveByQueue);
        sentence("LIVE when a live one has a reference to it", TermsTest::liveByReference);
        sentence("a reference (not weak)", TermsTest::notLiveByWeak);
        sentence("a live one has a reference: not one that is lost", TermsTest::notLiveByLost);
        sentence("1. in all live objects, weak slots with objects that are not live become 0", TermsTest::cutsWeak);
        sentence("1. weak slots with objects that are live stay", TermsTest::keepsWeak);
        sentence("1. weak slots with lost objects that have rites become 0", TermsTest::cutsWeakBeforeRites);
        sentence("2. All objects that are not live and have rites come to the queue", TermsTest::queuesLost);
        sentence("2. by their handles", TermsTest::queuesByHandles);
        sentence("2. come to the end of the queue", TermsTest::queuesAtEnd);
        sentence("2. and have no rites any more", TermsTest::ritesAreSpent);
        sentence("2. They are live then, and what they lead to", TermsTest::lostComeBack);
        sentence("2. weak slots of those become 0, if what is in them is not live now", TermsTest::cutsWeakOfLost);
        sentence("3. All objects that are not live are gone, their handles free", TermsTest::lostAreGone);
        sentence("4. The others come down, in the order in which they are", TermsTest::keepsOrder);
        sentence("4. one directly behind the other from word 0 on", TermsTest::closesGaps);
        sentence("4. the top is behind the last one; words behind it are 0", TermsTest::wipesBehindTop);
        sentence("5. The age of each grows by 1", TermsTest::growsOlder);
        sentence("5. up to 99", TermsTest::oldestAge);
        sentence("A call that throws changes nothing", TermsTest::throwingChangesNothing);
        sentence("the one named first is thrown: alloc", TermsTest::firstNamedOfAlloc);
        sentence("the one named first is thrown: refer", TermsTest::firstNamedOfRefer);
        sentence("the one named first is thrown: push", TermsTest::firstNamedOfPush);
        sentence("the one named first is thrown: about", TermsTest::firstNamedOfAbout);
        finish();
    }

    private static void lastCall() {
        SlidingHeap heap = heapOf(0);
        repeat(510, heap::collect);
        same("the 512th call", heap.count(6), 510);
        SlidingHeap full = heapAfter(HeapChecks::ninetyWords);
        for (int i = 9; i <= 511; i++) {
            full.number(8, 3, i);
        }
        same("the 512th call", full.word(89), 511);
    }

    private static void words() {
        SlidingHeap heap = new SlidingHeap();
        for (int i = 0; i < 90; i++) {
            same("word(" + i + ")", heap.word(i), 0);
        }
        same("before the first", thrownBy(heap, h -> h.word(-1)), INDEX.getSimpleName());
        same("behind the last", thrownBy(heap, h -> h.word(90)), INDEX.getSimpleName());
        SlidingHeap full = heapAfter(HeapChecks::ninetyWords);
        same("words in use", full.count(2), 90);
        same("all of them are had without collecting", full.count(6), 0);
        full.number(8, 3, 5);
        same("the last word", full.word(89), 5);
        same("there are no more", thrownBy(full, h -> h.alloc(0)), UNSUPPORTED.getSimpleName());
    }

    private static void top() {
        SlidingHeap heap = new SlidingHeap();
        same("at first", heap.count(2), 0);
        heap.alloc(0);
        same("the first object's place", heap.about(1, 0), 0);
        same("behind an object without slots", heap.count(2), 2);
        heap.alloc(10);
        same("the second object's place", heap.about(2, 0), 2);
        same("behind the largest object", heap.count(2), 14);
        popAll(heap);
        same("objects that are lost are in use until they are gone", heap.count(2), 14);
        heap.collect();
        same("without objects", heap.count(2), 0);
    }

    private static void handles() {
        SlidingHeap heap = new SlidingHeap();
        for (int handle = 1; handle <= 14; handle++) {
            same("alloc", heap.alloc(1), handle);
            heap.pop();
        }
        same("objects", heap.count(0), 14);
        same("all of them are had without collecting", heap.count(6), 0);
        same("object 0", isNone(heap, 0), true);
        same("object 1", isNone(heap, 1), false);
        same("object 14", isNone(heap, 14), false);
        same("object 15", isNone(heap, 15), true);
        heap.push(14);
        same("the fifteenth takes one that is free again", heap.alloc(1), 1);
        same("there is no fifteenth", thrownBy(heapAfter(HeapChecks::fourteenLive), h -> h.alloc(0)),
            UNSUPPORTED.getSimpleName());
    }

    private static void sizes() {
        for (int slots = 0; slots <= 10; slots++) {
            SlidingHeap heap = heapOf(slots);
            same("slots", heap.about(1, 1), slots);
            same("words", heap.count(2), slots + 2);
        }
    }

    private static void layout() {
        SlidingHeap heap = heapOf(3, 0, 1);
        heap.number(1, 0, -7);
        heap.refer(1, 1, 3, false);
        heap.refer(1, 2, 2, true);
        heap.number(3, 0, MIN);
        first("word", heap::word, 3, 1, -7, 3, 2, 0, 2, 1, 3, MIN, 0);
        SlidingHeap large = heapOf(10);
        for (int slot = 0; slot < 10; slot++) {
            large.number(1, slot, 20 + slot);
        }
        first("word", large::word, 10, 1, 20, 21, 22, 23, 24, 25, 26, 27, 28, 29, 0);
    }

    private static void slotKinds() {
        SlidingHeap heap = heapOf(1, 0);
        for (int before = 0; before <= 2; before++) {
            for (int then = 0; then <= 2; then++) {
                become(heap, before);
                become(heap, then);
                same("from " + before, heap.kind(1, 0), then);
                same("its value", heap.get(1, 0), 2);
            }
        }
    }

    private static void become(SlidingHeap heap, int kind) {
        if (kind == 0) {
            heap.number(1, 0, 2);
        } else {
            heap.refer(1, 0, 2, kind == 2);
        }
    }

    private static void slotValues() {
        SlidingHeap heap = heapAfter(HeapChecks::fourteenLive);
        for (boolean weak : new boolean[] {false, true}) {
            for (int target : new int[] {0, 1, 14}) {
                heap.refer(7, 0, target, weak);
                same("value", heap.get(7, 0), target);
                same("kind", heap.kind(7, 0), weak ? 2 : 1);
            }
        }
    }

    private static void firstAge() {
        SlidingHeap heap = heapOf(0, 0);
        same("of the first object", heap.about(1, 2), 0);
        repeat(3, heap::collect);
        heap.pop();
        heap.collect();
        same("alloc takes the handle of an old one", heap.alloc(0), 2);
        same("of a handle that is used again", heap.about(2, 2), 0);
        SlidingHeap full = heapAfter(HeapChecks::ninetyWords);
        full.collect();
        full.pop();
        same("alloc that collects", full.alloc(4), 8);
        same("of an object for which it was collected", full.about(8, 2), 0);
    }

    private static void mostRoots() {
        SlidingHeap heap = heapOf(0, 0, 0, 0, 0, 0, 0, 0, 0, 0);
        row("ten roots", heap::root, 1, 2, 3, 4, 5, 6, 7, 8, 9, 10);
        same("an eleventh by alloc", thrownBy(heap, h -> h.alloc(0)), STATE.getSimpleName());
        same("an eleventh by push", thrownBy(heap, h -> h.push(1)), STATE.getSimpleName());
        same("how many", heap.count(4), 10);
        heap.pop();
        same("there is room for one again", heap.push(1), 10);
    }

    private static void rootTwice() {
        SlidingHeap heap = heapOf(0);
        repeat(9, () -> heap.push(1));
        row("ten times", heap::root, 1, 1, 1, 1, 1, 1, 1, 1, 1, 1);
        repeat(9, heap::pop);
        same("it is live by its last place", isLive(heap, 1), true);
        same("and stays", heap.collect(), 0);
        heap.pop();
        same("without a place it is not", isLive(heap, 1), false);
    }

    private static void longestQueue() {
        SlidingHeap heap = heapAfter(HeapChecks::fourteenWithRites);
        row("empty", heap::queued);
        heap.collect();
        row("with all objects", heap::queued, 1, 2, 3, 4, 5, 6, 7, 8, 9, 10, 11, 12, 13, 14);
        heap.collect();
        same("none comes into it twice", heap.count(5), 14);
    }

    private static void liveByRoots() {
        SlidingHeap heap = heapOf(0, 0);
        same("the first root", isLive(heap, 1), true);
        same("the last root", isLive(heap, 2), true);
        heap.pop();
        same("no root any more", isLive(heap, 2), false);
        heap.push(2);
        same("a root again", isLive(heap, 2), true);
        SlidingHeap full = heapOf(0, 0, 0, 0, 0, 0, 0, 0, 0, 0);
        same("the tenth root", isLive(full, 10), true);
    }

    private static void liveByQueue() {
        SlidingHeap heap = heapAfter(HeapChecks::threeQueued);
        for (int handle = 1; handle <= 3; handle++) {
            same("in the queue", isLive(heap, handle), true);
        }
        same("it stays", heap.collect(), 0);
        heap.take();
        heap.pop();
        same("no longer in the queue", isLive(heap, 1), false);
        SlidingHeap all = heapAfter(HeapChecks::fourteenWithRites);
        all.collect();
        same("the fourteenth in the queue", isLive(all, 14), true);
    }

    private static void liveByReference() {
        SlidingHeap heap = heapAfter(HeapChecks::fourteenLive);
        same("over thirteen references", isLive(heap, 14), true);
        same("live ones", heap.count(1), 14);
        heap.refer(7, 0, 0, false);
        same("before the break", isLive(heap, 7), true);
        same("behind the break", isLive(heap, 8), false);
        SlidingHeap slots = heapOf(10, 0);
        slots.pop();
        for (int slot = 0; slot < 10; slot++) {
            slots.refer(1, slot, 2, false);
            same("by slot " + slot, isLive(slots, 2), true);
            slots.refer(1, slot, 0, false);
        }
        SlidingHeap queue = heapOf(1, 0);
        queue.refer(1, 0, 2, false);
        queue.rites(1, true);
        popAll(queue);
        queue.collect();
        same("by one in the queue", isLive(queue, 2), true);
    }

    private static void notLiveByWeak() {
        SlidingHeap heap = heapOf(3, 0);
        heap.pop();
        heap.refer(1, 0, 2, true);
        same("by a weak one", isLive(heap, 2), false);
        heap.number(1, 1, 2);
        same("by a number", isLive(heap, 2), false);
        heap.refer(1, 2, 2, false);
        same("by a reference beside them", isLive(heap, 2), true);
        heap.refer(1, 2, 2, true);
        same("by one that has become weak", isLive(heap, 2), false);
    }

    private static void notLiveByLost() {
        SlidingHeap heap = heapOf(1, 1, 1);
        heap.refer(1, 0, 2, false);
        heap.refer(2, 0, 1, false);
        heap.refer(3, 0, 3, false);
        popAll(heap);
        for (int handle = 1; handle <= 3; handle++) {
            same("in a ring without a root", isLive(heap, handle), false);
        }
        heap.rites(1, true);
        same("rites alone do not make live", isLive(heap, 2), false);
        heap.push(1);
        same("in a ring with a root", isLive(heap, 2), true);
    }

    private static void cutsWeak() {
        SlidingHeap heap = heapOf(10, 1, 1, 1, 0);
        for (int slot = 0; slot < 9; slot++) {
            heap.refer(1, slot, 5, true);
        }
        heap.refer(1, 9, 2, false);
        heap.refer(2, 0, 5, true);
        heap.refer(3, 0, 5, true);
        heap.rites(3, true);
        popAll(heap);
        heap.push(1);
        heap.push(5);
        heap.collect();
        same("while it is live", heap.get(1, 0), 5);
        heap.pop();
        heap.collect();
        row("of a root", slot -> slot < 10 ? heap.get(1, slot) : NONE, 0, 0, 0, 0, 0, 0, 0, 0, 0, 2);
        row("they stay weak", slot -> slot < 10 ? heap.kind(1, slot) : NONE, 2, 2, 2, 2, 2, 2, 2, 2, 2, 1);
        same("of one that is referred to", heap.get(2, 0), 0);
        same("of one in the queue", heap.get(3, 0), 0);
        same("the lost one", isNone(heap, 5), true);
    }

    private static void keepsWeak() {
        SlidingHeap heap = heapOf(6, 1, 0, 0);
        heap.refer(1, 0, 1, true);
        heap.refer(1, 1, 2, true);
        heap.refer(1, 2, 3, true);
        heap.refer(1, 3, 4, true);
        heap.refer(1, 4, 0, true);
        heap.number(1, 5, 9);
        heap.refer(2, 0, 3, false);
        heap.rites(4, true);
        popAll(heap);
        heap.push(1);
        heap.push(2);
        heap.collect();
        heap.refer(1, 3, 4, true);
        heap.collect();
        row("itself, a root, a referred one, a queued one, 0, and a number",
            slot -> slot < 6 ? heap.get(1, slot) : NONE, 1, 2, 3, 4, 0, 9);
        row("kinds", slot -> slot < 6 ? heap.kind(1, slot) : NONE, 2, 2, 2, 2, 2, 0);
    }

    private static void cutsWeakBeforeRites() {
        SlidingHeap heap = heapOf(2, 1, 0);
        heap.refer(1, 0, 2, true);
        heap.refer(1, 1, 3, true);
        heap.refer(2, 0, 3, false);
        heap.rites(2, true);
        heap.pop();
        heap.pop();
        heap.collect();
        row("queue", heap::queued, 2);
        same("with one that comes to the queue", heap.get(1, 0), 0);
        same("with one that it leads to", heap.get(1, 1), 0);
        same("they stay weak", heap.kind(1, 0), 2);
    }

    private static void queuesLost() {
        SlidingHeap heap = heapOf(1, 0, 0, 1, 0);
        heap.refer(4, 0, 5, false);
        for (int handle : new int[] {2, 4, 5}) {
            heap.rites(handle, true);
        }
        heap.refer(1, 0, 2, false);
        popAll(heap);
        heap.push(1);
        heap.collect();
        row("not a live one, not one without rites, and also one that another leads to", heap::queued, 4, 5);
        SlidingHeap none = heapOf(0, 0);
        none.rites(1, true);
        none.collect();
        row("none is lost", none::queued);
        none.rites(1, false);
        popAll(none);
        none.collect();
        row("none has rites", none::queued);
        SlidingHeap empty = new SlidingHeap();
        empty.collect();
        row("without objects", empty::queued);
    }

    private static void queuesByHandles() {
        SlidingHeap heap = heapOf(0, 0, 0);
        popAll(heap);
        heap.push(2);
        heap.collect();
        heap.alloc(0);
        heap.alloc(0);
        row("places", handle -> handle < 3 ? heap.about(handle + 1, 0) : NONE, 2, 0, 4);
        for (int handle = 3; handle >= 1; handle--) {
            heap.rites(handle, true);
        }
        popAll(heap);
        heap.collect();
        row("not by their places, nor by when they got rites", heap::queued, 1, 2, 3);
    }

    private static void queuesAtEnd() {
        SlidingHeap heap = heapOf(0, 0, 0);
        heap.rites(3, true);
        heap.pop();
        heap.collect();
        heap.rites(2, true);
        heap.pop();
        heap.collect();
        heap.rites(1, true);
        heap.pop();
        heap.collect();
        row("behind greater ones that came before", heap::queued, 3, 2, 1);
    }

    private static void ritesAreSpent() {
        SlidingHeap heap = heapOf(0, 0);
        heap.rites(1, true);
        heap.rites(2, true);
        heap.pop();
        heap.collect();
        same("of a queued one", heap.about(2, 3), 0);
        same("of a live one", heap.about(1, 3), 1);
        heap.take();
        heap.pop();
        same("lost again it goes", heap.collect(), 2);
        row("and does not come to the queue", heap::queued);
        SlidingHeap again = heapOf(0);
        again.rites(1, true);
        again.pop();
        again.collect();
        again.rites(1, true);
        again.collect();
        row("in the queue it is not lost", again::queued, 1);
        same("so it keeps rites that it gets there", again.about(1, 3), 1);
        again.take();
        again.pop();
        again.collect();
        row("and comes to the queue again", again::queued, 1);
    }

    private static void lostComeBack() {
        SlidingHeap heap = heapAfter(HeapChecks::fourteenLive);
        heap.rites(5, true);
        heap.pop();
        same("nothing comes down", heap.collect(), 0);
        row("queue", heap::queued, 5);
        same("it and what it leads to is live", heap.count(1), 14);
        SlidingHeap weak = heapOf(1, 0);
        weak.refer(1, 0, 2, true);
        weak.rites(1, true);
        popAll(weak);
        same("what it has weakly is not", weak.collect(), 2);
    }

    private static void cutsWeakOfLost() {
        SlidingHeap heap = heapOf(5, 0, 1, 0, 0, 0);
        heap.refer(1, 0, 1, true);
        heap.refer(1, 1, 2, true);
        heap.refer(1, 2, 3, false);
        heap.refer(1, 3, 4, true);
        heap.refer(1, 4, 6, true);
        heap.refer(3, 0, 5, true);
        heap.rites(1, true);
        heap.rites(2, true);
        popAll(heap);
        heap.push(6);
        heap.collect();
        row("queue", heap::queued, 1, 2);
        row("itself, a queued one, a reference, one that is gone, a root",
            slot -> slot < 5 ? heap.get(1, slot) : NONE, 1, 2, 3, 0, 6);
        row("kinds", slot -> slot < 5 ? heap.kind(1, slot) : NONE, 2, 2, 1, 2, 2);
        same("of one that it leads to", heap.get(3, 0), 0);
        same("objects", heap.count(0), 4);
        SlidingHeap led = heapOf(1, 1, 0);
        led.refer(1, 0, 3, true);
        led.refer(2, 0, 3, false);
        led.rites(1, true);
        led.rites(2, true);
        popAll(led);
        led.collect();
        same("one that another lost one leads to is live now", led.get(1, 0), 3);
    }

    private static void lostAreGone() {
        SlidingHeap heap = heapOf(1, 2, 3);
        heap.pop();
        heap.pop();
        heap.push(3);
        heap.collect();
        same("objects", heap.count(0), 2);
        same("the lost one", isNone(heap, 2), true);
        same("the first", isNone(heap, 1), false);
        same("the last", isNone(heap, 3), false);
        same("its handle is free", heap.alloc(0), 2);
        SlidingHeap all = heapAfter(HeapChecks::fourteenLive);
        all.pop();
        all.collect();
        same("all are lost", all.count(0), 0);
        for (int handle = 1; handle <= 14; handle++) {
            same("object " + handle, isNone(all, handle), true);
        }
        same("all handles are free", all.alloc(0), 1);
        SlidingHeap kept = heapAfter(HeapChecks::fourteenLive);
        kept.collect();
        same("none is lost", kept.count(0), 14);
    }

    private static void keepsOrder() {
        SlidingHeap heap = heapOf(1, 0, 2);
        popAll(heap);
        heap.push(3);
        heap.collect();
        heap.alloc(3);
        heap.alloc(4);
        row("places", handle -> handle < 3 ? heap.about(handle + 1, 0) : NONE, 4, 9, 0);
        heap.pop();
        heap.pop();
        heap.push(2);
        heap.collect();
        same("the first is still the first", heap.about(3, 0), 0);
        same("the last comes down behind it", heap.about(2, 0), 4);
        first("word", heap::word, 2, 3, 0, 0, 4, 2, 0);
    }

    private static void closesGaps() {
        SlidingHeap heap = heapOf(1, 1, 1, 1, 1);
        for (int handle = 1; handle <= 5; handle++) {
            heap.number(handle, 0, 10 * handle);
        }
        popAll(heap);
        heap.push(4);
        heap.push(2);
        same("the first, the middle and the last are lost", heap.collect(), 9);
        first("word", heap::word, 1, 2, 20, 1, 4, 40, 0, 0, 0);
        heap.pop();
        heap.collect();
        first("word", heap::word, 1, 4, 40, 0, 0, 0);
        same("value", heap.get(4, 0), 40);
        SlidingHeap over = heapOf(0, 10, 10);
        for (int slot = 0; slot < 10; slot++) {
            over.number(2, slot, slot + 1);
        }
        over.refer(3, 9, 2, false);
        popAll(over);
        over.push(3);
        same("large ones come down by little", over.collect(), 2);
        row("values", slot -> slot < 10 ? over.get(2, slot) : NONE, 1, 2, 3, 4, 5, 6, 7, 8, 9, 10);
        row("kinds", slot -> slot < 10 ? over.kind(3, slot) : NONE, 0, 0, 0, 0, 0, 0, 0, 0, 0, 1);
    }

    private static void wipesBehindTop() {
        SlidingHeap heap = heapAfter(HeapChecks::ninetyWords);
        for (int handle = 1; handle <= 8; handle++) {
            int slots = heap.about(handle, 1);
            for (int slot = 0; slot < slots; slot++) {
                heap.refer(handle, slot, handle, slot % 2 == 0);
            }
        }
        popAll(heap);
        heap.push(8);
        heap.collect();
        same("top", heap.count(2), 6);
        for (int i = 6; i < 90; i++) {
            same("word(" + i + ")", heap.word(i), 0);
        }
        heap.alloc(10);
        for (int slot = 0; slot < 10; slot++) {
            same("kind", heap.kind(1, slot), 0);
        }
        popAll(heap);
        heap.collect();
        same("top without objects", heap.count(2), 0);
        for (int i = 0; i < 18; i++) {
            same("word(" + i + ")", heap.word(i), 0);
        }
    }

    private static void growsOlder() {
        SlidingHeap heap = heapOf(1, 0, 0);
        heap.refer(1, 0, 2, false);
        heap.rites(3, true);
        heap.pop();
        heap.pop();
        heap.collect();
        row("of a root, of what it leads to, of one that comes to the queue",
            i -> i < 3 ? heap.about(i + 1, 2) : NONE, 1, 1, 1);
        heap.alloc(0);
        heap.collect();
        row("of older and younger ones", i -> i < 4 ? heap.about(i + 1, 2) : NONE, 2, 2, 2, 1);
        SlidingHeap full = heapAfter(HeapChecks::ninetyWords);
        full.pop();
        full.alloc(0);
        same("when alloc collects", full.about(1, 2), 1);
        full.alloc(0);
        same("when it does not", full.about(1, 2), 1);
    }

    private static void oldestAge() {
        SlidingHeap heap = heapOf(0);
        for (int i = 1; i <= 102; i++) {
            heap.collect();
            same("age behind " + i + " collections", heap.about(1, 2), Math.min(i, 99));
        }
        same("the collections go on", heap.count(6), 102);
        heap.alloc(0);
        heap.collect();
        same("a younger one's age", heap.about(2, 2), 1);
    }

    private static void throwingChangesNothing() {
        for (Steps before : new Steps[] {HeapChecks::busy, HeapChecks::busyWithTenRoots, HeapChecks::busyAndFull}) {
            refuses(ARGUMENT, before, heap -> heap.alloc(11));
            refuses(INDEX, before, heap -> noAnswer(() -> heap.number(1, 2, 5)));
            refuses(INDEX, before, heap -> noAnswer(() -> heap.refer(14, 0, 1, false)));
            refuses(ARGUMENT, before, heap -> noAnswer(() -> heap.refer(1, 1, 14, false)));
            refuses(INDEX, before, heap -> heap.get(4, 0));
            refuses(INDEX, before, heap -> heap.kind(4, 0));
            refuses(INDEX, before, heap -> heap.push(14));
            refuses(INDEX, before, heap -> noAnswer(() -> heap.rites(14, true)));
            refuses(INDEX, before, heap -> heap.word(90));
            refuses(INDEX, before, heap -> heap.about(14, 4));
            refuses(ARGUMENT, before, heap -> heap.about(1, 6));
            refuses(INDEX, before, heap -> heap.far(14));
            refuses(INDEX, before, heap -> heap.way(14, 0));
            refuses(ARGUMENT, before, heap -> heap.count(7));
        }
        refuses(STATE, HeapChecks::busyWithTenRoots, heap -> heap.alloc(0));
        refuses(STATE, HeapChecks::busyWithTenRoots, heap -> heap.push(1));
        refuses(STATE, HeapChecks::busyWithTenRoots, SlidingHeap::take);
        // Collecting would give rites to 4 and cut the weak slot of 1.
        refuses(UNSUPPORTED, HeapChecks::busyAndFull, heap -> heap.alloc(3));
    }

    private static void firstNamedOfAlloc() {
        Steps fullTwice = heap -> {
            busyAndFull(heap);
            repeat(3, () -> heap.push(1));
        };
        for (int slots : new int[] {-1, 11}) {
            refuses(ARGUMENT, HeapChecks::busyWithTenRoots, heap -> heap.alloc(slots));
            refuses(ARGUMENT, HeapChecks::busyAndFull, heap -> heap.alloc(slots));
            refuses(ARGUMENT, fullTwice, heap -> heap.alloc(slots));
            refuses(ARGUMENT, HeapChecks::fourteenLive, heap -> heap.alloc(slots));
        }
        refuses(STATE, fullTwice, heap -> heap.alloc(10));
        refuses(STATE, heap -> {
            fourteenLive(heap);
            repeat(9, () -> heap.push(1));
        }, heap -> heap.alloc(0));
    }

    private static void firstNamedOfRefer() {
        refuses(INDEX, HeapChecks::busy, heap -> noAnswer(() -> heap.refer(6, 0, 6, false)));
        refuses(INDEX, HeapChecks::busy, heap -> noAnswer(() -> heap.refer(1, 2, 15, false)));
        refuses(INDEX, HeapChecks::busy, heap -> noAnswer(() -> heap.refer(1, -1, -1, true)));
    }

    private static void firstNamedOfPush() {
        for (int handle : new int[] {0, 6, 15}) {
            refuses(INDEX, HeapChecks::busyWithTenRoots, heap -> heap.push(handle));
        }
    }

    private static void firstNamedOfAbout() {
        for (int handle : new int[] {0, 6, 15}) {
            refuses(INDEX, HeapChecks::busy, heap -> heap.about(handle, -1));
            refuses(INDEX, HeapChecks::busy, heap -> heap.about(handle, 6));
        }
    }
}
