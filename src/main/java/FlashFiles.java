import java.util.Arrays;

/**
 * A file system for flash. The device holds a superblock, two checkpoint packs that are written by
 * turns, and a main area of segments that are written once, block by block, and erased as a whole.
 * Every change goes to the end of the log at once; what makes it last is a commit: a checkpoint
 * pack, or the marked inode of one file, which mount() follows from the latest checkpoint on.
 *
 * <p>No segment is freed between two checkpoints, so whatever the latest checkpoint or a later
 * fsync leads to is still there when the power fails.
 */
public final class FlashFiles {
    // Sizes of the device. A block of 256 bytes is held as 64 words.
    private static final int WORDS = 64;
    private static final int BLOCK_BYTES = 256;
    private static final int SEGMENT = 16;
    private static final int LEAST_SEGMENTS = 48;
    private static final int MOST_SEGMENTS = 128;
    private static final int LEAST_RESERVE = 24;
    // Node numbers: up to IDS an inode's number is its id, those above are given to other nodes.
    private static final int IDS = 250;
    private static final int NUMBERS = 2048;
    private static final int PACK = 2 + NUMBERS / WORDS;
    private static final int MAIN = 1 + 2 * PACK;
    private static final int BLOCKS = MAIN + MOST_SEGMENTS * SEGMENT;
    private static final int ROOT = 1;

    // Limits of the document.
    private static final int TAPE_BYTES = 2060;
    private static final int SPAN = 2000;
    private static final int NAME_BYTES = 20;
    private static final int NAME_WORDS = 5;
    private static final int NAMES = 48;
    private static final int FILE_BYTES = 100000;
    private static final int SMALL_BYTES = 96;
    private static final int NEED_NAME = 4;
    private static final int NEED_RENAME = 8;
    private static final int NEED_NODES = 6;
    private static final int NEED_FSYNC = 1;

    // What a block of the main area is used for.
    private static final int NODE = 1;
    private static final int DATA = 2;

    // An inode's words. A directory's slots stand where a file's pointers stand.
    private static final int KIND = 0;
    private static final int SIZE = 1;
    private static final int LINKS = 2;
    private static final int PARENT = 2;
    private static final int SMALL = 3;
    private static final int THERE = 4;
    private static final int POINTERS = 6;
    private static final int DIRECTS = 20;
    private static final int LOWER = 26;
    private static final int INDIRECT = 28;
    private static final int INLINE = 30;
    private static final int FAN = 56;
    // The last words of every node.
    private static final int LEVEL = 58;
    private static final int MARK = 59;
    private static final int NUMBER = 60;
    private static final int OWNER = 61;
    private static final int SERIAL = 62;
    private static final int NEXT = 63;

    private static final int FILE = 1;
    private static final int DIRECTORY = 2;
    private static final int LEVEL_DIRECT = 1;
    private static final int LEVEL_INDIRECT = 2;

    // A pointer's low bits are a place; a directory's slot has the name's hash above them.
    private static final int PLACE_BITS = 12;
    private static final int PLACE = 0xFFF;
    // A name's block: the id it leads to, its length, its bytes.
    private static final int ENTRY_ID = 0;
    private static final int ENTRY_LENGTH = 1;
    private static final int ENTRY_NAME = 2;

    private static final int NO_DEVICE = 0;
    private static final int OFF = 1;
    private static final int ON = 2;
    private static final int NO_CUT = -1;

    private final Row onTape;
    private final Row told;
    private final int[] first;
    private final int[] second;
    private final Device device;
    private final Table table;
    private final Log log;
    private final Files files;
    private final Tree tree;
    private final Checkpoints checkpoints;
    private final Inspector inspector;
    private int state;
    private int cutAfter;
    private int broughtForward;

    public FlashFiles() {
        onTape = new Row(TAPE_BYTES);
        told = new Row(SPAN);
        first = new int[NAME_WORDS + 1];
        second = new int[NAME_WORDS + 1];
        device = new Device();
        table = new Table();
        log = new Log(device, table);
        files = new Files(device, table, log);
        tree = new Tree(device, table, log);
        checkpoints = new Checkpoints(device, table, log, tree, new Cleaner(device, table, log));
        inspector = new Inspector(device, table, log, checkpoints);
        state = NO_DEVICE;
        cutAfter = NO_CUT;
        broughtForward = 0;
    }

    public void format(int s, int r) throws IllegalArgumentException {
        if (s < LEAST_SEGMENTS || s > MOST_SEGMENTS || r < LEAST_RESERVE || r > s / 2) {
            throw new IllegalArgumentException("no such device");
        }
        cutAfter = NO_CUT;
        broughtForward = 0;
        checkpoints.startAnew(s, r);
        tree.makeRoot();
        checkpoints.take();
        state = ON;
    }

    public int feed(int a, int b, int c, int d, int e) throws IllegalStateException {
        if (onTape.length() > TAPE_BYTES - NAME_BYTES) {
            throw new IllegalStateException("the tape is full");
        }
        onTape.addWord(a);
        onTape.addWord(b);
        onTape.addWord(c);
        onTape.addWord(d);
        onTape.addWord(e);
        return onTape.length();
    }

    public int tape(int k) {
        if (k > 0 && k < onTape.length()) {
            onTape.setLength(k);
        }
        return onTape.length();
    }

    public int make(int directory, int n)
            throws IllegalArgumentException, IllegalStateException, UnsupportedOperationException {
        requireNewName(directory, takeName(n));
        requireNewId();
        reserve(NEED_NAME);
        return tree.addNew(directory, first, FILE);
    }

    public int makeDirectory(int directory, int n)
            throws IllegalArgumentException, IllegalStateException, UnsupportedOperationException {
        requireNewName(directory, takeName(n));
        requireNewId();
        reserve(NEED_NAME);
        return tree.addNew(directory, first, DIRECTORY);
    }

    public int link(int file, int directory, int n)
            throws IllegalArgumentException, IllegalStateException, UnsupportedOperationException {
        boolean named = takeName(n);
        requireFile(file);
        requireNewName(directory, named);
        reserve(NEED_NAME);
        tree.addName(directory, first, file);
        return tree.changeLinks(file, 1);
    }

    public int unlink(int directory, int n)
            throws IllegalArgumentException, IllegalStateException, UnsupportedOperationException {
        requireNamed(directory, takeName(n));
        int slot = requireOld(directory, FILE);
        reserve(NEED_NAME);
        int file = tree.idIn(directory, slot);
        tree.dropName(directory, slot);
        return loseLink(file);
    }

    public void removeDirectory(int directory, int n)
            throws IllegalArgumentException, IllegalStateException, UnsupportedOperationException {
        requireNamed(directory, takeName(n));
        int slot = requireOld(directory, DIRECTORY);
        int removed = tree.idIn(directory, slot);
        if (tree.wordOf(removed, SIZE) > 0) {
            throw new IllegalStateException("the directory has names");
        }
        reserve(NEED_NAME);
        tree.dropName(directory, slot);
        log.dropNode(removed);
    }

    public void rename(int directory, int n, int other, int m)
            throws IllegalArgumentException, IllegalStateException, UnsupportedOperationException {
        requireNamed(directory, takeTwoNames(n, m));
        requireNamed(other, true);
        int from = tree.slotOf(directory, first);
        int to = tree.slotOf(other, second);
        int id = tree.idIn(directory, from);
        int lost = tree.idIn(other, to);
        boolean same = id != 0 && id == lost;
        if (!same) {
            requireMovable(id, lost);
            requireTarget(directory, other, id, lost);
        }
        reserve(NEED_RENAME);
        if (same) {
            return;
        }
        tree.dropName(directory, from);
        if (lost != 0) {
            tree.dropName(other, to);
            lose(lost);
        }
        tree.addName(other, second, id);
        tree.moved(id, other);
    }

    public int find(int directory, int n) throws IllegalArgumentException, IllegalStateException {
        requireNamed(directory, takeName(n));
        int slot = tree.slotOf(directory, first);
        return slot < 0 ? -1 : tree.idIn(directory, slot);
    }

    public int write(int file, int at, int n)
            throws IllegalArgumentException, IllegalStateException, UnsupportedOperationException {
        requirePower();
        int had = onTape.length();
        onTape.setLength(0);
        requireFile(file);
        if (n < 1 || n > SPAN || n > had || at < 0 || at > FILE_BYTES - n) {
            throw new IllegalArgumentException("no such bytes or place");
        }
        reserve((at + n - 1) / BLOCK_BYTES - at / BLOCK_BYTES + 1 + NEED_NODES);
        return files.putBytes(file, at, n, onTape);
    }

    public int read(int file, int at, int n) throws IllegalArgumentException, IllegalStateException {
        requirePower();
        requireFile(file);
        if (n < 1 || n > SPAN || at < 0) {
            throw new IllegalArgumentException("no such bytes or place");
        }
        return files.tellBytes(file, at, n, told);
    }

    public int byteAt(int i) throws IllegalArgumentException {
        if (i < 0) {
            throw new IllegalArgumentException("below 0");
        }
        return i < told.length() ? told.at(i) : -1;
    }

    public void truncate(int file, int size)
            throws IllegalArgumentException, IllegalStateException, UnsupportedOperationException {
        requirePower();
        requireFile(file);
        if (size < 0 || size > FILE_BYTES) {
            throw new IllegalArgumentException("no such size");
        }
        reserve(NEED_NODES);
        files.resize(file, size);
    }

    public int fsync(int file)
            throws IllegalArgumentException, IllegalStateException, UnsupportedOperationException {
        requirePower();
        requireFile(file);
        reserve(NEED_FSYNC);
        if (table.isStirred(file)) {
            failAtCut(true);
            checkpoints.take();
            return 1;
        }
        failAtCut(false);
        files.commitAlone(file);
        return 0;
    }

    public int sync() throws IllegalStateException, UnsupportedOperationException {
        requirePower();
        failAtCut(true);
        checkpoints.take();
        return checkpoints.taken();
    }

    public int name(int directory, int k) throws IllegalArgumentException, IllegalStateException {
        requirePower();
        if (tree.kindOf(directory) != DIRECTORY || k < 0) {
            throw new IllegalArgumentException("no such directory or number");
        }
        return tree.tellName(directory, k, told);
    }

    public int look(int id, int what) throws IllegalArgumentException, IllegalStateException {
        requirePower();
        if (what < 0 || what > 4) {
            throw new IllegalArgumentException("no such what");
        }
        int kind = tree.kindOf(id);
        switch (what) {
            case 0:
                return kind;
            case 1:
                return tree.wordOf(id, SIZE);
            case 2:
                return kind == DIRECTORY ? 1 : tree.wordOf(id, LINKS);
            case 3:
                return tree.blocksOf(id);
            default:
                return tree.wordOf(id, SMALL);
        }
    }

    public int count(int what) throws IllegalArgumentException, IllegalStateException {
        requirePower();
        switch (what) {
            case 0:
                return tree.blocksInUse();
            case 1:
                return checkpoints.used();
            case 2:
                return checkpoints.fresh();
            case 3:
                return checkpoints.taken();
            case 4:
                return broughtForward;
            case 5:
                return table.idsInUse();
            default:
                throw new IllegalArgumentException("no such what");
        }
    }

    public void power() throws IllegalStateException {
        requirePower();
        losePower();
    }

    public void cut(int blocks) throws IllegalStateException {
        requirePower();
        cutAfter = blocks < 0 ? NO_CUT : blocks;
    }

    public int mount() throws IllegalStateException {
        if (state != OFF) {
            throw new IllegalStateException("no device, or mounted");
        }
        broughtForward = checkpoints.bringBack();
        checkpoints.take();
        state = ON;
        return broughtForward;
    }

    public void clean() throws IllegalStateException {
        requirePower();
        checkpoints.cleanWithin();
    }

    public int faults() throws IllegalStateException {
        requirePower();
        return inspector.inspect();
    }

    private void requirePower() {
        if (state != ON) {
            throw new IllegalStateException("no power");
        }
    }

    private void requireFile(int file) {
        if (tree.kindOf(file) != FILE) {
            throw new IllegalArgumentException("no such file");
        }
    }

    private void requireNamed(int directory, boolean named) {
        if (!named || tree.kindOf(directory) != DIRECTORY) {
            throw new IllegalArgumentException("no such directory or name");
        }
    }

    private void requireNewName(int directory, boolean named) {
        requireNamed(directory, named);
        if (tree.slotOf(directory, first) >= 0 || tree.wordOf(directory, SIZE) >= NAMES) {
            throw new IllegalStateException("the name is there, or the directory is full");
        }
    }

    private void requireNewId() {
        if (table.lowestId() == 0) {
            throw new IllegalStateException("all ids are in use");
        }
    }

    /** The slot of the first name, which must lead to that kind. */
    private int requireOld(int directory, int kind) {
        int slot = tree.slotOf(directory, first);
        if (tree.kindOf(tree.idIn(directory, slot)) != kind) {
            throw new IllegalStateException("the name is not there, or of the other kind");
        }
        return slot;
    }

    private void requireMovable(int id, int lost) {
        if (id == 0) {
            throw new IllegalStateException("the name is not there");
        }
        int kind = tree.kindOf(lost);
        if (lost != 0 && kind != tree.kindOf(id)) {
            throw new IllegalStateException("the second name is of the other kind");
        }
        if (kind == DIRECTORY && tree.wordOf(lost, SIZE) > 0) {
            throw new IllegalStateException("the second name's directory has names");
        }
    }

    private void requireTarget(int directory, int other, int id, int lost) {
        if (lost == 0 && other != directory && tree.wordOf(other, SIZE) >= NAMES) {
            throw new IllegalStateException("the other directory is full");
        }
        if (tree.kindOf(id) == DIRECTORY && tree.isWithin(other, id)) {
            throw new IllegalStateException("a directory cannot come into itself");
        }
    }

    /** Uses the tape up, also for a call that throws later: whether its first n bytes are a name. */
    private boolean takeName(int n) {
        requirePower();
        boolean named = onTape.packName(0, n, first);
        onTape.setLength(0);
        return named;
    }

    private boolean takeTwoNames(int n, int m) {
        requirePower();
        boolean named = onTape.packName(0, n, first) && onTape.packName(n, m, second);
        onTape.setLength(0);
        return named;
    }

    /** Makes sure of room for a call that will be done now, by a checkpoint if need be. */
    private void reserve(int need) {
        if (!checkpoints.fits(need)) {
            failAtCut(true);
            checkpoints.take();
            if (!checkpoints.fits(need)) {
                throw new IllegalStateException("no room");
            }
        }
        checkpoints.addFresh(need);
    }

    /**
     * Stands ahead of every commit. A pack may be written but for its last block; the commit of one
     * file is its marked inode, a single block, so nothing of it is written.
     */
    private void failAtCut(boolean isPack) {
        if (cutAfter == NO_CUT) {
            return;
        }
        if (isPack) {
            checkpoints.storePart(cutAfter);
        }
        losePower();
        throw new UnsupportedOperationException("the power failed");
    }

    private void losePower() {
        state = OFF;
        cutAfter = NO_CUT;
        table.forget();
        log.forget();
        checkpoints.forget();
    }

    private void lose(int id) {
        if (tree.kindOf(id) == DIRECTORY) {
            log.dropNode(id);
        } else {
            loseLink(id);
        }
    }

    private int loseLink(int file) {
        if (tree.wordOf(file, LINKS) > 1) {
            return tree.changeLinks(file, -1);
        }
        files.drop(file);
        return 0;
    }

    private static int segmentOf(int place) {
        return place < MAIN || place >= BLOCKS ? -1 : (place - MAIN) / SEGMENT;
    }

    private static int firstOf(int segment) {
        return MAIN + segment * SEGMENT;
    }

    private static int beginOfPack(int serial) {
        return 1 + (serial & 1) * PACK;
    }

    /** Where a node's pointers to data begin: an inode has its own facts ahead of them. */
    private static int pointersFrom(int level) {
        return level == 0 ? POINTERS : 0;
    }

    private static int pointersIn(int level, int kind) {
        if (level == 0) {
            return kind == DIRECTORY ? NAMES : DIRECTS;
        }
        return level == LEVEL_DIRECT ? FAN : 0;
    }

    private static int blocksBegun(int size) {
        return (size + BLOCK_BYTES - 1) / BLOCK_BYTES;
    }

    private static int hashOf(int[] words, int from) {
        int hash = 17;
        for (int i = 0; i < NAME_WORDS; i++) {
            hash = (hash ^ words[from + i]) * 0x9E3779B1;
            hash ^= hash >>> 15;
        }
        return hash >>> PLACE_BITS;
    }

    private static int getByte(int[] words, int from, int i) {
        return words[from + (i >> 2)] >>> (24 - 8 * (i & 3)) & 255;
    }

    private static void putByte(int[] words, int from, int i, int value) {
        int shift = 24 - 8 * (i & 3);
        int at = from + (i >> 2);
        words[at] = words[at] & ~(255 << shift) | (value & 255) << shift;
    }

    /** A row of bytes that grows at its end: the tape, and what was told last. */
    private static final class Row {
        private final int[] bytes;
        private int length;

        Row(int most) {
            bytes = new int[most];
            length = 0;
        }

        int length() {
            return length;
        }

        /** Bytes behind the length stay readable: write() uses the tape up before it reads it. */
        int at(int i) {
            return i < 0 || i >= bytes.length ? 0 : bytes[i];
        }

        void setLength(int n) {
            length = n;
        }

        void add(int value) {
            if (length < bytes.length) {
                bytes[length] = value & 255;
                length++;
            }
        }

        void addWord(int word) {
            for (int shift = 24; shift >= 0; shift -= 8) {
                add(word >>> shift);
            }
        }

        /** Packs n bytes into a name of zero-filled words, its length behind them. */
        boolean packName(int from, int n, int[] name) {
            if (n < 1 || n > NAME_BYTES || from > length - n) {
                return false;
            }
            Arrays.fill(name, 0);
            for (int i = 0; i < n; i++) {
                int value = at(from + i);
                if (value == 0 || value == '/') {
                    return false;
                }
                putByte(name, 0, i, value);
            }
            name[NAME_WORDS] = n;
            return true;
        }
    }

    /** The flash itself: all that stays when the power fails. */
    private static final class Device {
        private final int[] words;
        private final boolean[] written;
        private int spoiled;

        Device() {
            words = new int[BLOCKS * WORDS];
            written = new boolean[BLOCKS];
            spoiled = 0;
        }

        int word(int block, int i) {
            return block < 0 || block >= BLOCKS || i < 0 || i >= WORDS ? 0 : words[block * WORDS + i];
        }

        boolean isWritten(int block) {
            return block >= 0 && block < BLOCKS && written[block];
        }

        /** How often a block was written that had not been erased: flash does not bear that. */
        int spoiled() {
            return spoiled;
        }

        void load(int block, int[] into) {
            if (block >= 0 && block < BLOCKS) {
                System.arraycopy(words, block * WORDS, into, 0, WORDS);
            }
        }

        void program(int block, int[] from, int at) {
            if (block < 0 || block >= BLOCKS || at < 0 || at > from.length - WORDS) {
                return;
            }
            if (written[block]) {
                spoiled++;
            }
            System.arraycopy(from, at, words, block * WORDS, WORDS);
            written[block] = true;
        }

        void erase(int block, int blocks) {
            for (int b = Math.max(block, 0); b < Math.min(block + blocks, BLOCKS); b++) {
                if (written[b]) {
                    Arrays.fill(words, b * WORDS, b * WORDS + WORDS, 0);
                    written[b] = false;
                }
            }
        }

        void restart() {
            erase(0, BLOCKS);
            spoiled = 0;
        }
    }

    /** Tells where each node is, now and at the latest checkpoint. */
    private static final class Table {
        private final int[] places;
        /** At the latest checkpoint; above the ids not 0 also for numbers given since then. */
        private final int[] kept;
        /** Ids of files whose names changed since the latest checkpoint. */
        private final boolean[] stirred;

        Table() {
            places = new int[NUMBERS];
            kept = new int[NUMBERS];
            stirred = new boolean[IDS + 1];
        }

        int placeOf(int number) {
            return number < 1 || number >= NUMBERS ? 0 : places[number];
        }

        void setPlace(int number, int place) {
            if (number >= 1 && number < NUMBERS) {
                places[number] = place;
            }
        }

        /** The lowest id in use neither now nor at the latest checkpoint, 0 when there is none. */
        int lowestId() {
            for (int id = 1; id <= IDS; id++) {
                if (places[id] == 0 && kept[id] == 0) {
                    return id;
                }
            }
            return 0;
        }

        /**
         * A number for a new node, which no node had since the latest checkpoint: what is brought
         * forward must not meet another file's node under the same number. There is always one, as
         * every number that is kept has a block of its own among the blocks that USED and FRESH count.
         */
        int giveNumber() {
            for (int number = IDS + 1; number < NUMBERS; number++) {
                if (kept[number] == 0) {
                    kept[number] = 1;
                    return number;
                }
            }
            return 0;
        }

        int idsInUse() {
            int ids = 0;
            for (int id = 1; id <= IDS; id++) {
                if (places[id] != 0) {
                    ids++;
                }
            }
            return ids;
        }

        boolean isStirred(int id) {
            return id >= 1 && id <= IDS && stirred[id];
        }

        void stir(int id) {
            if (id >= 1 && id <= IDS) {
                stirred[id] = true;
            }
        }

        void settle() {
            System.arraycopy(places, 0, kept, 0, NUMBERS);
            for (int id = 0; id <= IDS; id++) {
                stirred[id] = false;
            }
        }

        void forget() {
            Arrays.fill(places, 0);
            settle();
        }

        void copyInto(int[] pack) {
            System.arraycopy(places, 0, pack, WORDS, NUMBERS);
        }

        /** Sets all but the inodes aside, to be taken up again by those that lead to them. */
        void setAside() {
            System.arraycopy(places, 0, kept, 0, NUMBERS);
            Arrays.fill(places, IDS + 1, NUMBERS, 0);
        }

        int takeUp(int number) {
            if (number <= IDS || number >= NUMBERS) {
                return 0;
            }
            places[number] = kept[number];
            return places[number];
        }
    }

    /** The log's two ends, of nodes and of data, and what is in use in each segment. */
    private static final class Log {
        private final Device device;
        private final Table table;
        private final int[] use;
        private final int[] nodes;
        private final int[] data;
        private final boolean[] free;
        private int segments;
        private int freeSegments;
        private int nodeEnd;
        private int dataEnd;
        private int lastOpened;
        private int serial;

        Log(Device device, Table table) {
            this.device = device;
            this.table = table;
            use = new int[BLOCKS];
            nodes = new int[MOST_SEGMENTS];
            data = new int[MOST_SEGMENTS];
            free = new boolean[MOST_SEGMENTS];
        }

        void forget() {
            Arrays.fill(use, 0);
            Arrays.fill(nodes, 0);
            Arrays.fill(data, 0);
            for (int s = 0; s < MOST_SEGMENTS; s++) {
                free[s] = false;
            }
            segments = 0;
            freeSegments = 0;
            nodeEnd = 0;
            dataEnd = 0;
            lastOpened = 0;
            serial = 0;
        }

        int segments() {
            return segments;
        }

        int freeSegments() {
            return freeSegments;
        }

        int nodeEnd() {
            return nodeEnd;
        }

        int serial() {
            return serial;
        }

        void setSegments(int count) {
            segments = Math.min(count, MOST_SEGMENTS);
        }

        void setSerial(int number) {
            serial = number;
        }

        int useOf(int place) {
            return place < 0 || place >= BLOCKS ? 0 : use[place];
        }

        int nodesIn(int segment) {
            return segment < 0 || segment >= MOST_SEGMENTS ? 0 : nodes[segment];
        }

        int dataIn(int segment) {
            return segment < 0 || segment >= MOST_SEGMENTS ? 0 : data[segment];
        }

        boolean isFree(int segment) {
            return segment >= 0 && segment < segments && free[segment];
        }

        boolean isEnd(int segment) {
            return segment == segmentOf(nodeEnd) || segment == segmentOf(dataEnd);
        }

        /** Nothing in it is in use, and nothing will be written into it. */
        boolean isDead(int segment) {
            return nodesIn(segment) + dataIn(segment) == 0 && !isEnd(segment);
        }

        void setFree(int segment) {
            if (segment >= 0 && segment < segments && !free[segment]) {
                device.erase(firstOf(segment), SEGMENT);
                free[segment] = true;
                freeSegments++;
            }
        }

        void freeDead() {
            for (int s = 0; s < segments; s++) {
                if (isDead(s)) {
                    setFree(s);
                }
            }
        }

        /** Mounting never goes on in an old segment: where its data ended is not on the device. */
        void openEnds() {
            nodeEnd = openSegment();
            dataEnd = openSegment();
        }

        void claim(int place, int kind) {
            int segment = segmentOf(place);
            if (segment < 0) {
                return;
            }
            use[place] = kind;
            if (kind == NODE) {
                nodes[segment]++;
            } else {
                data[segment]++;
            }
        }

        void drop(int place) {
            int segment = segmentOf(place);
            if (segment < 0 || use[place] == 0) {
                return;
            }
            if (use[place] == NODE) {
                nodes[segment]--;
            } else {
                data[segment]--;
            }
            use[place] = 0;
        }

        void dropNode(int number) {
            drop(table.placeOf(number));
            table.setPlace(number, 0);
        }

        /** The last block of a segment tells where the next one is, so that is opened with it. */
        void putNode(int number, int[] node, int mark) {
            int place = nodeEnd;
            nodeEnd = isLast(place) ? openSegment() : place + 1;
            node[MARK] = mark;
            node[NUMBER] = number;
            node[SERIAL] = serial;
            node[NEXT] = nodeEnd;
            device.program(place, node, 0);
            claim(place, NODE);
            drop(table.placeOf(number));
            table.setPlace(number, place);
        }

        int putData(int[] block) {
            int place = dataEnd;
            dataEnd = isLast(place) ? openSegment() : place + 1;
            device.program(place, block, 0);
            claim(place, DATA);
            return place;
        }

        private boolean isLast(int place) {
            return (place - MAIN) % SEGMENT == SEGMENT - 1;
        }

        /** By turns, so that all segments wear alike. The reserve sees to it that one is free. */
        private int openSegment() {
            for (int i = 1; i <= segments; i++) {
                int segment = (lastOpened + i) % segments;
                if (free[segment]) {
                    free[segment] = false;
                    freeSegments--;
                    lastOpened = segment;
                    return firstOf(segment);
                }
            }
            return BLOCKS;
        }
    }

    /** Files' bytes, and the way to them through direct and indirect nodes. */
    private static final class Files {
        private final Device device;
        private final Table table;
        private final Log log;
        private final int[] inode;
        private final int[] indirect;
        private final int[] direct;
        private final int[] block;
        private int id;
        private int opened;
        private boolean directChanged;
        private boolean indirectChanged;

        Files(Device device, Table table, Log log) {
            this.device = device;
            this.table = table;
            this.log = log;
            inode = new int[WORDS];
            indirect = new int[WORDS];
            direct = new int[WORDS];
            block = new int[WORDS];
        }

        int putBytes(int file, int at, int n, Row from) {
            begin(file);
            if (inode[SMALL] == 1 && at + n <= SMALL_BYTES) {
                for (int i = 0; i < n; i++) {
                    putByte(inode, INLINE, at + i, from.at(i));
                }
            } else {
                if (inode[SMALL] == 1) {
                    leaveSmall();
                }
                int last = (at + n - 1) / BLOCK_BYTES;
                for (int k = at / BLOCK_BYTES; k <= last; k++) {
                    turnTo(k);
                    fillBlock(k, at, n, from);
                    setPlace(k, log.putData(block));
                }
            }
            inode[SIZE] = Math.max(inode[SIZE], at + n);
            finish(0);
            return inode[SIZE];
        }

        int tellBytes(int file, int at, int n, Row into) {
            begin(file);
            into.setLength(0);
            int end = at >= inode[SIZE] ? at : at + Math.min(n, inode[SIZE] - at);
            for (int i = at; i < end; i++) {
                if (inode[SMALL] == 1) {
                    into.add(getByte(inode, INLINE, i));
                } else {
                    if (i == at || i % BLOCK_BYTES == 0) {
                        turnTo(i / BLOCK_BYTES);
                        loadBlock(placeOf(i / BLOCK_BYTES));
                    }
                    into.add(getByte(block, 0, i % BLOCK_BYTES));
                }
            }
            return into.length();
        }

        void resize(int file, int size) {
            begin(file);
            if (inode[SMALL] == 1) {
                if (size > SMALL_BYTES) {
                    leaveSmall();
                } else {
                    clearFrom(inode, INLINE, size, SMALL_BYTES);
                }
            } else if (size < inode[SIZE]) {
                turnTo(size / BLOCK_BYTES);
                clearTail(size);
                int end = blocksBegun(inode[SIZE]);
                for (int k = blocksBegun(size); k < end; k++) {
                    turnTo(k);
                    cutBlock(k);
                }
                inode[SMALL] = size == 0 ? 1 : 0;
            }
            inode[SIZE] = size;
            finish(0);
        }

        void commitAlone(int file) {
            begin(file);
            finish(1);
        }

        void drop(int file) {
            int inodePlace = table.placeOf(file);
            int indirectPlace = table.placeOf(device.word(inodePlace, INDIRECT));
            for (int i = 0; indirectPlace != 0 && i < FAN; i++) {
                dropWithData(device.word(indirectPlace, i));
            }
            for (int i = LOWER; i <= INDIRECT; i++) {
                dropWithData(device.word(inodePlace, i));
            }
            dropWithData(file);
            table.stir(file);
        }

        private void dropWithData(int number) {
            int place = table.placeOf(number);
            int level = device.word(place, LEVEL);
            int from = pointersFrom(level);
            int end = place == 0 ? from : from + pointersIn(level, FILE);
            for (int i = from; i < end; i++) {
                log.drop(device.word(place, i));
            }
            log.dropNode(number);
        }

        private void begin(int file) {
            id = file;
            opened = 0;
            directChanged = false;
            indirectChanged = false;
            device.load(table.placeOf(file), inode);
            loadNode(inode[INDIRECT], indirect);
        }

        /** Makes the node that leads to block k the open one; the one before is stored if changed. */
        private void turnTo(int k) {
            int node = k < DIRECTS ? 0 : 1 + (k - DIRECTS) / FAN;
            if (node == 0 || node == opened) {
                return;
            }
            closeNode();
            opened = node;
            loadNode(numberOf(node), direct);
        }

        private int placeOf(int k) {
            if (k < DIRECTS) {
                return k < 0 ? 0 : inode[POINTERS + k];
            }
            return direct[(k - DIRECTS) % FAN];
        }

        private void setPlace(int k, int place) {
            if (k < DIRECTS) {
                inode[POINTERS + k] = place;
            } else {
                direct[(k - DIRECTS) % FAN] = place;
                directChanged = true;
            }
        }

        private void loadNode(int number, int[] node) {
            if (number == 0) {
                Arrays.fill(node, 0);
            } else {
                device.load(table.placeOf(number), node);
            }
        }

        private void closeNode() {
            if (directChanged) {
                setNumber(opened, storeNode(numberOf(opened), direct, LEVEL_DIRECT));
                directChanged = false;
            }
        }

        /** The inode comes last: its mark is what commits all that was stored before it. */
        private void finish(int mark) {
            closeNode();
            if (indirectChanged) {
                inode[INDIRECT] = storeNode(inode[INDIRECT], indirect, LEVEL_INDIRECT);
            }
            log.putNode(id, inode, mark);
        }

        private int numberOf(int node) {
            return node < 3 ? inode[LOWER + node - 1] : indirect[node - 3];
        }

        private void setNumber(int node, int number) {
            if (node < 3) {
                inode[LOWER + node - 1] = number;
            } else if (indirect[node - 3] != number) {
                indirect[node - 3] = number;
                indirectChanged = true;
            }
        }

        /** The node's number then: a node that leads nowhere goes, a new one is given a number. */
        private int storeNode(int number, int[] node, int level) {
            if (isEmpty(node)) {
                log.dropNode(number);
                return 0;
            }
            int own = number == 0 ? table.giveNumber() : number;
            node[OWNER] = id;
            node[LEVEL] = level;
            log.putNode(own, node, 0);
            return own;
        }

        private boolean isEmpty(int[] node) {
            for (int i = 0; i < FAN; i++) {
                if (node[i] != 0) {
                    return false;
                }
            }
            return true;
        }

        private void leaveSmall() {
            Arrays.fill(block, 0);
            System.arraycopy(inode, INLINE, block, 0, SMALL_BYTES / 4);
            clearFrom(inode, INLINE, 0, SMALL_BYTES);
            inode[POINTERS] = log.putData(block);
            inode[SMALL] = 0;
            inode[THERE] = 1;
        }

        /** Block k as it will be when n bytes stand from a place on; its old place is given up. */
        private void fillBlock(int k, int at, int n, Row from) {
            int old = placeOf(k);
            loadBlock(old);
            log.drop(old);
            if (old == 0) {
                inode[THERE]++;
            }
            int begin = k * BLOCK_BYTES;
            int end = Math.min(at + n, begin + BLOCK_BYTES);
            for (int i = Math.max(at, begin); i < end; i++) {
                putByte(block, 0, i - begin, from.at(i - at));
            }
        }

        private void loadBlock(int place) {
            if (place == 0) {
                Arrays.fill(block, 0);
            } else {
                device.load(place, block);
            }
        }

        /** What is cut off must read as zeros when the file becomes longer again. */
        private void clearTail(int size) {
            int k = size / BLOCK_BYTES;
            int old = placeOf(k);
            if (old != 0 && size % BLOCK_BYTES != 0) {
                loadBlock(old);
                clearFrom(block, 0, size % BLOCK_BYTES, BLOCK_BYTES);
                log.drop(old);
                setPlace(k, log.putData(block));
            }
        }

        private void cutBlock(int k) {
            int old = placeOf(k);
            if (old != 0) {
                log.drop(old);
                setPlace(k, 0);
                inode[THERE]--;
            }
        }

        private void clearFrom(int[] words, int from, int begin, int end) {
            for (int i = begin; i < end; i++) {
                putByte(words, from, i, 0);
            }
        }
    }

    /** Directories and the facts of inodes. */
    private static final class Tree {
        private final Device device;
        private final Table table;
        private final Log log;
        private final int[] inode;
        private final int[] entry;

        Tree(Device device, Table table, Log log) {
            this.device = device;
            this.table = table;
            this.log = log;
            inode = new int[WORDS];
            entry = new int[WORDS];
        }

        int wordOf(int id, int i) {
            return id < 1 || id > IDS || table.placeOf(id) == 0 ? 0 : device.word(table.placeOf(id), i);
        }

        int kindOf(int id) {
            return wordOf(id, KIND);
        }

        int blocksOf(int id) {
            int kind = kindOf(id);
            if (kind == DIRECTORY) {
                return 1 + wordOf(id, SIZE);
            }
            if (kind == 0 || wordOf(id, SMALL) == 1) {
                return kind;
            }
            return 1 + wordOf(id, THERE) + nodesFor(blocksBegun(wordOf(id, SIZE)));
        }

        private int nodesFor(int blocks) {
            if (blocks <= DIRECTS) {
                return 0;
            }
            int direct = (blocks - DIRECTS + FAN - 1) / FAN;
            return direct <= 2 ? direct : direct + 1;
        }

        int blocksInUse() {
            int blocks = 0;
            for (int id = 1; id <= IDS; id++) {
                blocks += blocksOf(id);
            }
            return blocks;
        }

        void makeRoot() {
            putNew(ROOT, DIRECTORY, 0);
        }

        int addNew(int directory, int[] name, int kind) {
            int id = table.lowestId();
            putNew(id, kind, kind == DIRECTORY ? directory : 1);
            table.stir(id);
            addName(directory, name, id);
            return id;
        }

        private void putNew(int id, int kind, int linksOrParent) {
            Arrays.fill(inode, 0);
            inode[KIND] = kind;
            inode[LINKS] = linksOrParent;
            inode[SMALL] = kind == FILE ? 1 : 0;
            inode[OWNER] = id;
            log.putNode(id, inode, 0);
        }

        private void putWord(int id, int i, int value) {
            device.load(table.placeOf(id), inode);
            inode[i] = value;
            log.putNode(id, inode, 0);
        }

        int changeLinks(int file, int by) {
            int links = wordOf(file, LINKS) + by;
            putWord(file, LINKS, links);
            table.stir(file);
            return links;
        }

        void moved(int id, int directory) {
            if (kindOf(id) == FILE) {
                table.stir(id);
            } else if (wordOf(id, PARENT) != directory) {
                putWord(id, PARENT, directory);
            }
        }

        boolean isWithin(int directory, int top) {
            int at = directory;
            for (int i = 0; i < IDS && at != 0; i++) {
                if (at == top) {
                    return true;
                }
                at = wordOf(at, PARENT);
            }
            return false;
        }

        private int slotWord(int directory, int slot) {
            return slot < 0 || slot >= NAMES ? 0 : wordOf(directory, POINTERS + slot);
        }

        int idIn(int directory, int slot) {
            int word = slotWord(directory, slot);
            return word == 0 ? 0 : device.word(word & PLACE, ENTRY_ID);
        }

        /** The slot of a name, -1 when it is not there. Only names of the same hash are read. */
        int slotOf(int directory, int[] name) {
            int hash = hashOf(name, 0);
            int slot = hash % NAMES;
            int left = wordOf(directory, SIZE);
            for (int i = 0; i < NAMES && left > 0; i++) {
                int word = slotWord(directory, slot);
                if (word != 0) {
                    left--;
                    if (word >>> PLACE_BITS == hash && isName(word & PLACE, name)) {
                        return slot;
                    }
                }
                slot = slot == NAMES - 1 ? 0 : slot + 1;
            }
            return -1;
        }

        private boolean isName(int place, int[] name) {
            for (int i = 0; i < NAME_WORDS; i++) {
                if (device.word(place, ENTRY_NAME + i) != name[i]) {
                    return false;
                }
            }
            return true;
        }

        void addName(int directory, int[] name, int id) {
            Arrays.fill(entry, 0);
            entry[ENTRY_ID] = id;
            entry[ENTRY_LENGTH] = name[NAME_WORDS];
            System.arraycopy(name, 0, entry, ENTRY_NAME, NAME_WORDS);
            int hash = hashOf(name, 0);
            int slot = hash % NAMES;
            device.load(table.placeOf(directory), inode);
            for (int i = 0; i < NAMES && inode[POINTERS + slot] != 0; i++) {
                slot = slot == NAMES - 1 ? 0 : slot + 1;
            }
            inode[POINTERS + slot] = hash << PLACE_BITS | log.putData(entry);
            inode[SIZE]++;
            log.putNode(directory, inode, 0);
        }

        void dropName(int directory, int slot) {
            if (slotWord(directory, slot) == 0) {
                return;
            }
            device.load(table.placeOf(directory), inode);
            log.drop(inode[POINTERS + slot] & PLACE);
            inode[POINTERS + slot] = 0;
            inode[SIZE]--;
            log.putNode(directory, inode, 0);
        }

        int tellName(int directory, int k, Row into) {
            into.setLength(0);
            if (k >= wordOf(directory, SIZE)) {
                return -1;
            }
            device.load(table.placeOf(directory), inode);
            for (int slot = 0; slot < NAMES; slot++) {
                int place = inode[POINTERS + slot] & PLACE;
                if (place != 0 && namesBefore(place) == k) {
                    device.load(place, entry);
                    int length = Math.min(entry[ENTRY_LENGTH], NAME_BYTES);
                    for (int i = 0; i < length; i++) {
                        into.add(getByte(entry, ENTRY_NAME, i));
                    }
                }
            }
            return into.length();
        }

        /** How many names of the directory that was loaded last stand before the one at a place. */
        private int namesBefore(int place) {
            int before = 0;
            for (int i = POINTERS; i < POINTERS + NAMES; i++) {
                if (inode[i] != 0 && isBefore(inode[i] & PLACE, place)) {
                    before++;
                }
            }
            return before;
        }

        /** Names are filled up with zeros, which no name has, so their words tell the order. */
        private boolean isBefore(int one, int two) {
            for (int i = ENTRY_NAME; i < ENTRY_NAME + NAME_WORDS; i++) {
                // The highest bit turned round orders words as bytes from 0 to 255 do.
                int a = device.word(one, i) ^ 1 << 31;
                int b = device.word(two, i) ^ 1 << 31;
                if (a != b) {
                    return a < b;
                }
            }
            return false;
        }
    }

    /** Moves what is in use out of segments that are mostly dead. */
    private static final class Cleaner {
        private final Device device;
        private final Table table;
        private final Log log;
        private final boolean[] victims;
        private final int[] node;
        private final int[] block;

        Cleaner(Device device, Table table, Log log) {
            this.device = device;
            this.table = table;
            this.log = log;
            victims = new boolean[MOST_SEGMENTS];
            node = new int[WORDS];
            block = new int[WORDS];
        }

        /** Whether segments were found that cost at most dearest blocks each, and most in all. */
        boolean emptySegments(int most, int dearest) {
            int left = most;
            boolean found = false;
            for (int s = 0; s < MOST_SEGMENTS; s++) {
                victims[s] = false;
            }
            for (int i = 0; i < MOST_SEGMENTS; i++) {
                int segment = cheapest(Math.min(left, dearest));
                if (segment < 0) {
                    break;
                }
                victims[segment] = true;
                left -= cost(segment);
                found = true;
            }
            for (int number = 1; found && number < NUMBERS; number++) {
                moveNode(number);
            }
            return found;
        }

        /** At most: moving data may make its node move, too. */
        private int cost(int segment) {
            return log.nodesIn(segment) + 2 * log.dataIn(segment);
        }

        private int cheapest(int dearest) {
            int found = -1;
            int best = dearest + 1;
            for (int s = 0; s < log.segments(); s++) {
                int used = log.nodesIn(s) + log.dataIn(s);
                boolean worth = used > 0 && used < SEGMENT && !victims[s] && !log.isEnd(s);
                if (worth && cost(s) < best) {
                    found = s;
                    best = cost(s);
                }
            }
            return found;
        }

        private boolean mustLeave(int place) {
            int segment = segmentOf(place);
            return segment >= 0 && victims[segment];
        }

        private void moveNode(int number) {
            int place = table.placeOf(number);
            if (place == 0) {
                return;
            }
            boolean changed = mustLeave(place);
            int level = device.word(place, LEVEL);
            int from = pointersFrom(level);
            int end = from + pointersIn(level, device.word(place, KIND));
            device.load(place, node);
            for (int i = from; i < end; i++) {
                int old = node[i] & PLACE;
                if (mustLeave(old)) {
                    device.load(old, block);
                    log.drop(old);
                    node[i] = node[i] & ~PLACE | log.putData(block);
                    changed = true;
                }
            }
            if (changed) {
                log.putNode(number, node, 0);
            }
        }
    }

    /** The packs on the device, what they say, and the reckoning since the latest one. */
    private static final class Checkpoints {
        // A pack's first words; its last block has the serial again, which makes it whole.
        private static final int PACK_SERIAL = 0;
        private static final int PACK_TAKEN = 1;
        private static final int PACK_NODE_END = 2;
        private static final int PACK_FREE = 4;
        private static final int SUPER_SEGMENTS = 0;
        private static final int SUPER_RESERVE = 1;
        // Segments that cleaning may fill, beyond those that the calls until the next checkpoint need.
        private static final int WORKING = 8;
        // Each of the log's two ends may leave a segment begun.
        private static final int BEGUN = 2;
        private static final int ROUNDS = 10000;
        private static final int ANY_COST = 2 * SEGMENT;

        private final Device device;
        private final Table table;
        private final Log log;
        private final Tree tree;
        private final Cleaner cleaner;
        private final int[] pack;
        private final int[] lastMark;
        private int room;
        private int used;
        private int fresh;
        private int taken;

        Checkpoints(Device device, Table table, Log log, Tree tree, Cleaner cleaner) {
            this.device = device;
            this.table = table;
            this.log = log;
            this.tree = tree;
            this.cleaner = cleaner;
            pack = new int[PACK * WORDS];
            lastMark = new int[IDS + 1];
        }

        int used() {
            return used;
        }

        int fresh() {
            return fresh;
        }

        int taken() {
            return taken;
        }

        boolean fits(int need) {
            return used + fresh + need <= room;
        }

        void addFresh(int need) {
            fresh += need;
        }

        void forget() {
            room = 0;
            used = 0;
            fresh = 0;
            taken = 0;
        }

        void startAnew(int segments, int reserve) {
            device.restart();
            Arrays.fill(pack, 0);
            pack[SUPER_SEGMENTS] = segments;
            pack[SUPER_RESERVE] = reserve;
            device.program(0, pack, 0);
            table.forget();
            log.forget();
            forget();
            readSuper();
            log.freeDead();
            log.openEnds();
        }

        private void readSuper() {
            int segments = device.word(0, SUPER_SEGMENTS);
            log.setSegments(segments);
            room = SEGMENT * (segments - device.word(0, SUPER_RESERVE));
        }

        /**
         * Commits all that is so now. Then segments are cleaned until the calls that fit before the
         * next checkpoint find room for sure; every round ends with a pack that tells the same tree.
         */
        void take() {
            taken++;
            used = tree.blocksInUse();
            fresh = 0;
            commit();
            table.settle();
            for (int i = 0; i < ROUNDS && log.freeSegments() < mustBeFree(); i++) {
                if (!cleaner.emptySegments(SEGMENT * (log.freeSegments() - BEGUN), ANY_COST)) {
                    break;
                }
                commit();
            }
        }

        private int mustBeFree() {
            int left = Math.max(0, room - used - fresh);
            return (left + SEGMENT - 1) / SEGMENT + BEGUN + WORKING;
        }

        /** Without a commit nothing becomes free, so only room that nobody needs is spent on it. */
        void cleanWithin() {
            int spare = log.freeSegments() - mustBeFree() - BEGUN;
            if (spare > 0) {
                cleaner.emptySegments(SEGMENT * spare, SEGMENT / 2);
            }
        }

        private void commit() {
            fillPack();
            storeBlocks(PACK);
            log.setSerial(log.serial() + 1);
            log.freeDead();
        }

        void storePart(int blocks) {
            fillPack();
            storeBlocks(Math.min(blocks, PACK - 1));
        }

        private void storeBlocks(int blocks) {
            int begin = beginOfPack(log.serial() + 1);
            device.erase(begin, PACK);
            for (int i = 0; i < blocks; i++) {
                device.program(begin + i, pack, i * WORDS);
            }
        }

        private void fillPack() {
            Arrays.fill(pack, 0);
            pack[PACK_SERIAL] = log.serial() + 1;
            pack[PACK_TAKEN] = taken;
            pack[PACK_NODE_END] = log.nodeEnd();
            for (int s = 0; s < log.segments(); s++) {
                if (log.isDead(s)) {
                    pack[PACK_FREE + (s >> 5)] |= 1 << (s & 31);
                }
            }
            table.copyInto(pack);
            pack[(PACK - 1) * WORDS] = log.serial() + 1;
        }

        /** The serial of a pack if it is whole, otherwise 0. */
        int wholeSerial(int turn) {
            int begin = beginOfPack(turn);
            int serial = device.word(begin, PACK_SERIAL);
            return device.word(begin + PACK - 1, 0) == serial ? serial : 0;
        }

        /** Mounts: how many files were brought forward. */
        int bringBack() {
            readSuper();
            int serial = Math.max(wholeSerial(0), wholeSerial(1));
            int begin = beginOfPack(serial);
            log.setSerial(serial);
            taken = device.word(begin, PACK_TAKEN);
            for (int number = 1; number < NUMBERS; number++) {
                table.setPlace(number, device.word(begin + 1 + number / WORDS, number % WORDS));
            }
            int files = findMarks(device.word(begin, PACK_NODE_END));
            bringForward(device.word(begin, PACK_NODE_END));
            claimAll();
            for (int s = 0; s < log.segments(); s++) {
                boolean was = (device.word(begin, PACK_FREE + (s >> 5)) >>> (s & 31) & 1) == 1;
                if (was && log.isDead(s)) {
                    log.setFree(s);
                }
            }
            log.openEnds();
            return files;
        }

        /** Whether a node was written there since the latest checkpoint. */
        private boolean goesOn(int place) {
            int owner = device.word(place, OWNER);
            return segmentOf(place) >= 0 && device.word(place, SERIAL) == log.serial()
                    && owner >= 1 && owner <= IDS;
        }

        private int findMarks(int end) {
            Arrays.fill(lastMark, 0);
            int place = end;
            int files = 0;
            for (int i = 1; i <= BLOCKS && goesOn(place); i++) {
                if (device.word(place, MARK) == 1) {
                    int owner = device.word(place, OWNER);
                    files += lastMark[owner] == 0 ? 1 : 0;
                    lastMark[owner] = i;
                }
                place = device.word(place, NEXT);
            }
            return files;
        }

        private void bringForward(int end) {
            int place = end;
            for (int i = 1; i <= BLOCKS && goesOn(place); i++) {
                if (i <= lastMark[device.word(place, OWNER)]) {
                    table.setPlace(device.word(place, NUMBER), place);
                }
                place = device.word(place, NEXT);
            }
        }

        /** Only nodes that an inode leads to count: a file brought forward may have lost some. */
        private void claimAll() {
            table.setAside();
            for (int id = 1; id <= IDS; id++) {
                int inode = table.placeOf(id);
                claimNode(inode);
                if (device.word(inode, KIND) == FILE && inode != 0) {
                    claimNode(table.takeUp(device.word(inode, LOWER)));
                    claimNode(table.takeUp(device.word(inode, LOWER + 1)));
                    int indirect = table.takeUp(device.word(inode, INDIRECT));
                    claimNode(indirect);
                    for (int i = 0; i < FAN && indirect != 0; i++) {
                        claimNode(table.takeUp(device.word(indirect, i)));
                    }
                }
            }
        }

        private void claimNode(int place) {
            if (place == 0) {
                return;
            }
            log.claim(place, NODE);
            int level = device.word(place, LEVEL);
            int from = pointersFrom(level);
            int end = from + pointersIn(level, device.word(place, KIND));
            for (int i = from; i < end; i++) {
                log.claim(device.word(place, i) & PLACE, DATA);
            }
        }
    }

    /** Counts what contradicts itself on the device and in memory. */
    private static final class Inspector {
        private final Device device;
        private final Table table;
        private final Log log;
        private final Checkpoints checkpoints;
        private final int[] owned;
        private final int[] led;
        private final int[] entry;
        private int found;

        Inspector(Device device, Table table, Log log, Checkpoints checkpoints) {
            this.device = device;
            this.table = table;
            this.log = log;
            this.checkpoints = checkpoints;
            owned = new int[BLOCKS];
            led = new int[NUMBERS];
            entry = new int[WORDS];
        }

        int inspect() {
            Arrays.fill(owned, 0);
            Arrays.fill(led, 0);
            found = device.spoiled();
            for (int number = 1; number < NUMBERS; number++) {
                if (table.placeOf(number) != 0) {
                    inspectNode(number, table.placeOf(number));
                }
            }
            for (int number = 1; number < NUMBERS; number++) {
                inspectLed(number, table.placeOf(number));
            }
            for (int s = 0; s < log.segments(); s++) {
                inspectSegment(s);
            }
            inspectFree();
            expect(Math.max(checkpoints.wholeSerial(0), checkpoints.wholeSerial(1)) == log.serial());
            return found;
        }

        private void expect(boolean right) {
            if (!right) {
                found++;
            }
        }

        private void own(int place, int kind) {
            expect(segmentOf(place) >= 0 && device.isWritten(place));
            if (segmentOf(place) >= 0) {
                expect(owned[place] == 0);
                owned[place] = kind;
            }
        }

        private void lead(int number) {
            if (number != 0) {
                expect(number > 0 && number < NUMBERS && table.placeOf(number) != 0);
                led[number & NUMBERS - 1]++;
            }
        }

        private void inspectNode(int number, int place) {
            int level = device.word(place, LEVEL);
            int owner = device.word(place, OWNER);
            own(place, NODE);
            expect(device.word(place, NUMBER) == number);
            expect(level == 0 ? owner == number : owner >= 1 && owner <= IDS && number > IDS);
            int from = pointersFrom(level);
            int end = from + pointersIn(level, device.word(place, KIND));
            for (int i = from; i < end; i++) {
                if (device.word(place, i) != 0) {
                    own(device.word(place, i) & PLACE, DATA);
                }
            }
            if (level == LEVEL_INDIRECT) {
                inspectIndirect(place, owner);
            } else if (level == 0 && device.word(place, KIND) == DIRECTORY) {
                inspectDirectory(number, place);
            } else if (level == 0) {
                inspectFile(number, place);
            }
        }

        private void inspectIndirect(int place, int owner) {
            for (int i = 0; i < FAN; i++) {
                int number = device.word(place, i);
                lead(number);
                expect(number == 0 || device.word(table.placeOf(number), OWNER) == owner);
            }
        }

        private void inspectDirectory(int id, int place) {
            int names = 0;
            for (int slot = 0; slot < NAMES; slot++) {
                int word = device.word(place, POINTERS + slot);
                if (word != 0) {
                    names++;
                    device.load(word & PLACE, entry);
                    int child = entry[ENTRY_ID];
                    int childPlace = table.placeOf(child);
                    lead(child);
                    expect(child > ROOT && child <= IDS);
                    expect(hashOf(entry, ENTRY_NAME) == word >>> PLACE_BITS);
                    expect(device.word(childPlace, KIND) != DIRECTORY
                            || device.word(childPlace, PARENT) == id);
                }
            }
            expect(device.word(place, SIZE) == names);
        }

        private void inspectFile(int id, int place) {
            boolean hasNodes = false;
            for (int i = LOWER; i <= INDIRECT; i++) {
                int number = device.word(place, i);
                lead(number);
                expect(number == 0 || device.word(table.placeOf(number), OWNER) == id);
                hasNodes |= number != 0;
            }
            int size = device.word(place, SIZE);
            int reach = hasNodes ? blocksBegun(FILE_BYTES) : DIRECTS;
            int there = 0;
            for (int k = 0; k < reach; k++) {
                if (placeOfBlock(place, k) != 0) {
                    there++;
                    expect(k < blocksBegun(size));
                }
            }
            expect(there == device.word(place, THERE));
            expect(device.word(place, SMALL) == 0 || there == 0 && size <= SMALL_BYTES);
        }

        private int placeOfBlock(int inode, int k) {
            if (k < DIRECTS) {
                return device.word(inode, POINTERS + k);
            }
            int node = (k - DIRECTS) / FAN;
            int upper = node < 2 ? inode : table.placeOf(device.word(inode, INDIRECT));
            int lower = upper == 0 ? 0 : device.word(upper, node < 2 ? LOWER + node : node - 2);
            return lower == 0 ? 0 : device.word(table.placeOf(lower), (k - DIRECTS) % FAN);
        }

        /** As many names or nodes lead to a node as it says. */
        private void inspectLed(int number, int place) {
            int due = place == 0 || number == ROOT ? 0 : 1;
            if (place != 0 && number <= IDS && device.word(place, KIND) == FILE) {
                due = device.word(place, LINKS);
            }
            expect(led[number] == due);
        }

        private void inspectSegment(int segment) {
            int nodes = 0;
            int data = 0;
            for (int place = firstOf(segment); place < firstOf(segment + 1); place++) {
                expect(owned[place] == log.useOf(place));
                nodes += owned[place] == NODE ? 1 : 0;
                data += owned[place] == DATA ? 1 : 0;
            }
            expect(nodes == log.nodesIn(segment) && data == log.dataIn(segment));
            expect(!log.isFree(segment) || nodes + data == 0);
        }

        private void inspectFree() {
            int free = 0;
            for (int s = 0; s < log.segments(); s++) {
                free += log.isFree(s) ? 1 : 0;
            }
            expect(free == log.freeSegments());
        }
    }
}
