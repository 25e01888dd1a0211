import java.util.Arrays;

/** A heap of small objects that a collector slides together; ../shared/DOC.md holds its promises. */
public final class SlidingHeap {
    public static final int NONE = -1;

    private static final int WORDS = 90;
    private static final int HANDLES = 14;
    private static final int MOST_SLOTS = 10;
    private static final int MOST_ROOTS = 10;
    private static final int MOST_AGE = 99;
    private static final int HEADER = 2;

    private static final int NUMBER = 0;
    private static final int REFERENCE = 1;
    private static final int WEAK = 2;

    private final int[] words = new int[WORDS];
    // The kind of each word stands beside it, so that it slides along; header words are numbers.
    private final int[] kinds = new int[WORDS];
    private int top;

    // Rows by handle have a place 0 that no object ever takes, so that handles are indices.
    private final int[] starts = new int[HANDLES + 1];
    private final int[] slotCounts = new int[HANDLES + 1];
    private final int[] ages = new int[HANDLES + 1];
    private final boolean[] rited = new boolean[HANDLES + 1];

    // Handles in the order of their objects in the heap: handles are used again, so they do not tell it.
    private final int[] order = new int[HANDLES];
    private int objectCount;

    private final int[] roots = new int[MOST_ROOTS];
    private int rootCount;

    // An object in the queue is live and so is not queued again: one place for each handle is enough.
    private final int[] queue = new int[HANDLES];
    private int queueCount;

    private int collections;

    // Rows for the work of one call, kept so that no call has to make any.
    private final boolean[] marked = new boolean[HANDLES + 1];
    private final int[] found = new int[HANDLES];
    private int foundCount;
    private final int[] distances = new int[HANDLES + 1];

    public SlidingHeap() {
        Arrays.fill(starts, NONE);
    }

    public int alloc(int slots) throws IllegalArgumentException, IllegalStateException, UnsupportedOperationException {
        if (slots < 0 || slots > MOST_SLOTS) {
            throw new IllegalArgumentException();
        }
        if (rootCount >= MOST_ROOTS) {
            throw new IllegalStateException();
        }
        if (!fits(slots, objectCount, top)) {
            // A call that throws changes nothing, so what collecting would leave is looked at before it is done.
            markSurvivors();
            if (!fits(slots, foundCount, markedWords())) {
                throw new UnsupportedOperationException();
            }
            collect();
        }
        int handle = leastFreeHandle();
        place(handle, slots);
        addRoot(handle);
        return handle;
    }

    public void number(int handle, int slot, int value) throws IndexOutOfBoundsException {
        requireSlot(handle, slot);
        setSlot(handle, slot, NUMBER, value);
    }

    public void refer(int handle, int slot, int target, boolean weak)
            throws IndexOutOfBoundsException, IllegalArgumentException {
        requireSlot(handle, slot);
        if (target != 0 && !isObject(target)) {
            throw new IllegalArgumentException();
        }
        setSlot(handle, slot, weak ? WEAK : REFERENCE, target);
    }

    public int get(int handle, int slot) throws IndexOutOfBoundsException {
        requireSlot(handle, slot);
        return words[firstSlot(handle) + slot];
    }

    public int kind(int handle, int slot) throws IndexOutOfBoundsException {
        requireSlot(handle, slot);
        return kinds[firstSlot(handle) + slot];
    }

    public int push(int handle) throws IndexOutOfBoundsException, IllegalStateException {
        requireObject(handle);
        if (rootCount >= MOST_ROOTS) {
            throw new IllegalStateException();
        }
        addRoot(handle);
        return rootCount;
    }

    public int pop() {
        if (rootCount == 0) {
            return NONE;
        }
        rootCount--;
        return roots[rootCount];
    }

    public int root(int i) {
        return i >= 0 && i < rootCount ? roots[i] : NONE;
    }

    public void rites(int handle, boolean has) throws IndexOutOfBoundsException {
        requireObject(handle);
        rited[handle] = has;
    }

    public int take() throws IllegalStateException {
        if (queueCount == 0) {
            return NONE;
        }
        if (rootCount >= MOST_ROOTS) {
            throw new IllegalStateException();
        }
        int handle = removeFirstQueued();
        addRoot(handle);
        return handle;
    }

    public int queued(int i) {
        return i >= 0 && i < queueCount ? queue[i] : NONE;
    }

    public int collect() {
        int oldTop = top;
        markLive();
        // Weak slots are cut before the rites, so that none shows an object that was lost and came back.
        cutWeakSlots();
        queueLost();
        markLive();
        cutWeakSlots();
        slideDown();
        growOlder();
        collections++;
        return oldTop - top;
    }

    public int word(int i) throws IndexOutOfBoundsException {
        if (i < 0 || i >= WORDS) {
            throw new IndexOutOfBoundsException();
        }
        return words[i];
    }

    public int about(int handle, int what) throws IndexOutOfBoundsException, IllegalArgumentException {
        requireObject(handle);
        switch (what) {
            case 0:
                return starts[handle];
            case 1:
                return slotCounts[handle];
            case 2:
                return ages[handle];
            case 3:
                return rited[handle] ? 1 : 0;
            case 4:
                markLive();
                return marked[handle] ? 1 : 0;
            case 5:
                return slotsThatShow(handle);
            default:
                throw new IllegalArgumentException();
        }
    }

    public int far(int handle) throws IndexOutOfBoundsException {
        requireObject(handle);
        measureTo(handle);
        int start = nearestStart();
        return start == NONE ? NONE : distances[start];
    }

    public int way(int handle, int k) throws IndexOutOfBoundsException {
        requireObject(handle);
        measureTo(handle);
        int at = nearestStart();
        if (at == NONE || k < 0 || k > distances[at]) {
            return NONE;
        }
        for (int step = 0; step < k && at != NONE; step++) {
            at = nextOnWay(at);
        }
        return at;
    }

    public int count(int what) throws IllegalArgumentException {
        switch (what) {
            case 0:
                return objectCount;
            case 1:
                markLive();
                return foundCount;
            case 2:
                return top;
            case 3:
                markLive();
                return markedWords();
            case 4:
                return rootCount;
            case 5:
                return queueCount;
            case 6:
                return collections;
            default:
                throw new IllegalArgumentException();
        }
    }

    public void clear() {
        for (int handle = 1; handle <= HANDLES; handle++) {
            release(handle);
        }
        wipe(0, top);
        top = 0;
        objectCount = 0;
        rootCount = 0;
        queueCount = 0;
        collections = 0;
    }

    private void requireObject(int handle) {
        if (!isObject(handle)) {
            throw new IndexOutOfBoundsException();
        }
    }

    private void requireSlot(int handle, int slot) {
        requireObject(handle);
        if (slot < 0 || slot >= slotCounts[handle]) {
            throw new IndexOutOfBoundsException();
        }
    }

    private boolean isObject(int handle) {
        return handle >= 1 && handle <= HANDLES && starts[handle] != NONE;
    }

    private int firstSlot(int handle) {
        return starts[handle] + HEADER;
    }

    private int sizeOf(int handle) {
        return slotCounts[handle] + HEADER;
    }

    private int endOf(int handle) {
        return starts[handle] + sizeOf(handle);
    }

    private void setSlot(int handle, int slot, int kind, int value) {
        int at = firstSlot(handle) + slot;
        kinds[at] = kind;
        words[at] = value;
    }

    private static boolean fits(int slots, int objects, int usedWords) {
        return objects < HANDLES && usedWords + HEADER + slots <= WORDS;
    }

    private int leastFreeHandle() {
        int handle = 1;
        while (handle < HANDLES && starts[handle] != NONE) {
            handle++;
        }
        return handle;
    }

    // Words behind the top are always numbers 0, so the new slots need no setting.
    private void place(int handle, int slots) {
        starts[handle] = top;
        slotCounts[handle] = slots;
        words[top] = slots;
        words[top + 1] = handle;
        top += sizeOf(handle);
        order[objectCount] = handle;
        objectCount++;
    }

    private void release(int handle) {
        starts[handle] = NONE;
        slotCounts[handle] = 0;
        ages[handle] = 0;
        rited[handle] = false;
    }

    private void addRoot(int handle) {
        roots[rootCount] = handle;
        rootCount++;
    }

    private int removeFirstQueued() {
        int first = queue[0];
        queueCount--;
        for (int i = 0; i < queueCount; i++) {
            queue[i] = queue[i + 1];
        }
        return first;
    }

    private void markLive() {
        for (int handle = 1; handle <= HANDLES; handle++) {
            marked[handle] = false;
        }
        foundCount = 0;
        for (int i = 0; i < rootCount; i++) {
            mark(roots[i]);
        }
        for (int i = 0; i < queueCount; i++) {
            mark(queue[i]);
        }
        spreadMarks();
    }

    private void markSurvivors() {
        markLive();
        for (int handle = 1; handle <= HANDLES; handle++) {
            if (rited[handle]) {
                mark(handle);
            }
        }
        spreadMarks();
    }

    private void mark(int handle) {
        if (isObject(handle) && !marked[handle]) {
            marked[handle] = true;
            found[foundCount] = handle;
            foundCount++;
        }
    }

    // The row of found objects grows while it is walked; each object comes into it at most once.
    private void spreadMarks() {
        for (int i = 0; i < HANDLES && i < foundCount; i++) {
            int handle = found[i];
            for (int at = firstSlot(handle); at < endOf(handle); at++) {
                if (kinds[at] == REFERENCE) {
                    mark(words[at]);
                }
            }
        }
    }

    private int markedWords() {
        int sum = 0;
        for (int i = 0; i < foundCount; i++) {
            sum += sizeOf(found[i]);
        }
        return sum;
    }

    private void cutWeakSlots() {
        for (int i = 0; i < foundCount; i++) {
            int handle = found[i];
            for (int at = firstSlot(handle); at < endOf(handle); at++) {
                if (kinds[at] == WEAK && !marked[words[at]]) {
                    words[at] = 0;
                }
            }
        }
    }

    private void queueLost() {
        for (int handle = 1; handle <= HANDLES; handle++) {
            if (rited[handle] && !marked[handle]) {
                queue[queueCount] = handle;
                queueCount++;
                rited[handle] = false;
            }
        }
    }

    private void slideDown() {
        int newTop = 0;
        int kept = 0;
        for (int i = 0; i < objectCount; i++) {
            int handle = order[i];
            if (marked[handle]) {
                move(handle, newTop);
                newTop += sizeOf(handle);
                order[kept] = handle;
                kept++;
            } else {
                release(handle);
            }
        }
        wipe(newTop, top);
        top = newTop;
        objectCount = kept;
    }

    // Objects only come down, so copying from the low end never overwrites what is still to be copied.
    private void move(int handle, int to) {
        int from = starts[handle];
        int size = sizeOf(handle);
        for (int i = 0; i < size; i++) {
            words[to + i] = words[from + i];
            kinds[to + i] = kinds[from + i];
        }
        starts[handle] = to;
    }

    private void wipe(int from, int end) {
        for (int at = from; at < end; at++) {
            words[at] = 0;
            kinds[at] = NUMBER;
        }
    }

    private void growOlder() {
        for (int i = 0; i < objectCount; i++) {
            int handle = order[i];
            ages[handle] = Math.min(ages[handle] + 1, MOST_AGE);
        }
    }

    private int slotsThatShow(int handle) {
        int sum = 0;
        for (int at = 0; at < top; at++) {
            if (kinds[at] != NUMBER && words[at] == handle) {
                sum++;
            }
        }
        return sum;
    }

    // Distances are measured back from the end of the way: from its start each least step that
    // comes nearer to the end is then on the least of all shortest ways.
    private void measureTo(int end) {
        Arrays.fill(distances, NONE);
        distances[end] = 0;
        for (int distance = 0; distance < HANDLES; distance++) {
            for (int i = 0; i < objectCount; i++) {
                int handle = order[i];
                if (distances[handle] == NONE && refersToDistance(handle, distance)) {
                    distances[handle] = distance + 1;
                }
            }
        }
    }

    private boolean refersToDistance(int handle, int distance) {
        for (int at = firstSlot(handle); at < endOf(handle); at++) {
            // Place 0, where empty references lead, keeps the distance NONE.
            if (kinds[at] == REFERENCE && distances[words[at]] == distance) {
                return true;
            }
        }
        return false;
    }

    private int nearestStart() {
        int best = NONE;
        for (int i = 0; i < rootCount; i++) {
            best = nearer(best, roots[i]);
        }
        for (int i = 0; i < queueCount; i++) {
            best = nearer(best, queue[i]);
        }
        return best;
    }

    private int nearer(int best, int handle) {
        if (distances[handle] == NONE) {
            return best;
        }
        if (best == NONE || distances[handle] < distances[best]) {
            return handle;
        }
        return distances[handle] == distances[best] ? Math.min(best, handle) : best;
    }

    private int nextOnWay(int handle) {
        int least = NONE;
        for (int at = firstSlot(handle); at < endOf(handle); at++) {
            if (kinds[at] == REFERENCE && distances[words[at]] == distances[handle] - 1) {
                least = least == NONE ? words[at] : Math.min(least, words[at]);
            }
        }
        return least;
    }
}
