import java.util.Arrays;
import java.util.NoSuchElementException;

/** Makes disc images from a tree of files, directories and links, and reads them back by one of three views. */
public final class DiscMaker {
    public static final int NONE = -1;
    public static final int NAMED = -2, FULL = -3, WRONG = -4;

    private static final int SECTOR = 2048;
    private static final int FIRST_DESCRIPTOR = 16;
    private static final int FIRST_DIRECTORY = 23;
    private static final int BLOCK_SIZE_FIELD = 128;
    private static final int ROOT_FIELD = 156;
    private static final int LAST_SORT = 255;

    private static final int DIRECTORY = 0, FILE = 1, LINK = 2;
    private static final int DIRECTORY_MARK = 2;
    private static final int HERE = 2, UP = 4, TOP = 8;

    private static final int SP = 'S' << 8 | 'P';
    private static final int PX = 'P' << 8 | 'X';
    private static final int NM = 'N' << 8 | 'M';
    private static final int SL = 'S' << 8 | 'L';
    private static final int CE = 'C' << 8 | 'E';
    private static final int PX_BYTES = 36, CE_BYTES = 28;
    private static final int SORT_BITS = 61440, DIRECTORY_BITS = 16384, FILE_BITS = 32768, LINK_BITS = 40960;
    private static final int PERMISSIONS = 4096;

    private static final int MAX_TEXT = 400;
    private static final int MAX_NAME = 30;
    private static final int MAX_TARGET = 200;
    private static final int MAX_LINK_PART = 250;
    private static final int MAX_NODES = 40;
    private static final int MAX_DIRECTORIES = 12;
    private static final int MAX_ABOVE = 7;
    private static final int MAX_OWNERSHIP = 1000000;
    private static final int MAX_FILE = 4100;
    private static final int MAX_SEED = 255;
    private static final int MAX_RECORD = 254;

    private static final int MAX_FOUND = 99;
    private static final int MAX_FOUND_DEPTH = 8;
    private static final int MAX_FOUND_NAME = 60;
    private static final int MAX_FOUND_TARGET = 400;
    private static final int MAX_CONTINUATIONS = 5;

    private static final byte[] STANDARD = {'C', 'D', '0', '0', '1', 1};
    private static final byte[] LONG_NAMES = {'%', '/', 'E'};
    private static final byte[] DAY = {100, 1, 1, 0, 0, 0, 0};

    private final Text text;
    private final Tree tree;
    private final Bytes image;
    private final Maker maker;
    private final Reader reader;

    public DiscMaker() {
        text = new Text();
        tree = new Tree();
        image = new Bytes(0);
        maker = new Maker(tree, image);
        reader = new Reader(image);
    }

    public boolean feed(int a, int b, int c, int d, int e) {
        return text.append(a, b, c, d, e);
    }

    public boolean end(int n) {
        return text.shorten(n);
    }

    public int directory(int in, int mode, int owner, int group) {
        int length = text.useUp();
        if (!isOwnership(mode, owner, group)) {
            return WRONG;
        }
        return grow(in, new Node(DIRECTORY, text.part(0, length), mode, owner, group));
    }

    public int file(int in, int size, int seed) {
        int length = text.useUp();
        if (!isWithin(size, MAX_FILE) || !isWithin(seed, MAX_SEED)) {
            return WRONG;
        }
        Node fresh = new Node(FILE, text.part(0, length), 420, 0, 0);
        fresh.size = size;
        fresh.seed = seed;
        return grow(in, fresh);
    }

    public int link(int in) {
        int length = text.useUp();
        int zero = text.findZero(length);
        byte[] goal = text.part(zero + 1, length);
        if (!isTarget(goal) || maker.linkPartBytes(goal) > MAX_LINK_PART) {
            return WRONG;
        }
        Node fresh = new Node(LINK, text.part(0, zero), 511, 0, 0);
        fresh.target = goal;
        return grow(in, fresh);
    }

    public boolean own(int node, int mode, int owner, int group) {
        if (!tree.has(node) || !isOwnership(mode, owner, group)) {
            return false;
        }
        tree.nodes[node].setOwnership(mode, owner, group);
        return true;
    }

    public int master() {
        return maker.make();
    }

    public int sectors() {
        return image.length / SECTOR;
    }

    public int byteAt(int address) {
        return image.has(address) ? image.at(address) : NONE;
    }

    public int poke(int address, int value) {
        if (!image.has(address)) {
            return NONE;
        }
        int before = image.at(address);
        image.put(address, value);
        return before;
    }

    public boolean cut(int n) {
        if (n < 0 || n > image.length / SECTOR) {
            return false;
        }
        image.shorten(n * SECTOR);
        return true;
    }

    public int mount(int view) throws IllegalArgumentException {
        if (view < Reader.SHORT || view > Reader.OWNERS) {
            throw new IllegalArgumentException();
        }
        return reader.open(view);
    }

    public int node(int k, int what) throws NoSuchElementException {
        Found found = reader.find(k);
        if (found == null || what < 0 || what > 8) {
            throw new NoSuchElementException();
        }
        return found.number(what);
    }

    public int name(int k, int i) throws NoSuchElementException {
        Found found = reader.find(k);
        if (found == null || i < 0 || i >= found.nameLength) {
            throw new NoSuchElementException();
        }
        return found.name[i] & 255;
    }

    public int target(int k, int i) throws NoSuchElementException {
        Found found = reader.find(k);
        if (found == null || i < 0 || i >= found.targetLength) {
            throw new NoSuchElementException();
        }
        return found.target[i] & 255;
    }

    public int read(int k, int i) throws NoSuchElementException {
        Found found = reader.find(k);
        if (found == null || found.sort != FILE || i < 0 || i >= found.size) {
            throw new NoSuchElementException();
        }
        return image.at(found.sector * SECTOR + i);
    }

    private int grow(int in, Node fresh) {
        if (!tree.hasDirectory(in) || !isName(fresh.name)) {
            return WRONG;
        }
        return tree.add(in, fresh);
    }

    private static boolean isWithin(int number, int most) {
        return number >= 0 && number <= most;
    }

    private static boolean isOwnership(int mode, int owner, int group) {
        return isWithin(mode, MAX_OWNERSHIP) && isWithin(owner, MAX_OWNERSHIP) && isWithin(group, MAX_OWNERSHIP);
    }

    private static boolean isName(byte[] row) {
        if (row.length < 1 || row.length > MAX_NAME) {
            return false;
        }
        int dots = 0;
        for (int i = 0; i < row.length; i++) {
            if (!isNameCharacter(row[i])) {
                return false;
            }
            dots += row[i] == '.' ? 1 : 0;
        }
        return row.length > 2 || dots < row.length;
    }

    private static boolean isNameCharacter(int c) {
        return isLetter(c) || isDigit(c) || c == '.' || c == '-' || c == '_' || c == '+';
    }

    private static boolean isLetter(int c) {
        return c >= 'a' && c <= 'z' || c >= 'A' && c <= 'Z';
    }

    private static boolean isDigit(int c) {
        return c >= '0' && c <= '9';
    }

    private static boolean isTarget(byte[] row) {
        if (row.length < 1 || row.length > MAX_TARGET) {
            return false;
        }
        for (int i = 0; i < row.length; i++) {
            if (row[i] < 33 || row[i] > 126) {
                return false;
            }
        }
        return true;
    }

    private static int even(int n) {
        return n + (n & 1);
    }

    private static int sectorsFor(int bytes) {
        return (bytes + SECTOR - 1) / SECTOR;
    }

    /** What was fed and not yet used. */
    private static final class Text {
        private final byte[] row = new byte[MAX_TEXT];
        private int length;

        boolean append(int a, int b, int c, int d, int e) {
            if (length + 20 > MAX_TEXT) {
                return false;
            }
            addFour(a);
            addFour(b);
            addFour(c);
            addFour(d);
            addFour(e);
            return true;
        }

        private void addFour(int number) {
            for (int shift = 24; shift >= 0; shift -= 8) {
                row[length] = (byte) (number >> shift);
                length++;
            }
        }

        boolean shorten(int n) {
            if (n < 0 || n > length) {
                return false;
            }
            length = n;
            return true;
        }

        /** How many bytes the text had; they stay in the row until the next one is fed. */
        int useUp() {
            int used = length;
            length = 0;
            return used;
        }

        int findZero(int until) {
            for (int i = 0; i < until; i++) {
                if (row[i] == 0) {
                    return i;
                }
            }
            return until;
        }

        byte[] part(int from, int to) {
            return from < to ? Arrays.copyOfRange(row, from, to) : new byte[0];
        }
    }

    /** Bytes in a row. What lies outside reads as 0 and takes nothing, so a spoilt image can lead nowhere. */
    private static final class Bytes {
        private byte[] row;
        private int length;

        Bytes(int room) {
            row = new byte[room];
        }

        /** Grows by doubling at least, so that many images of growing size stay within the room of a run. */
        void reset(int n) {
            if (n > row.length) {
                row = new byte[Math.max(n, 2 * row.length)];
            } else {
                Arrays.fill(row, (byte) 0);
            }
            length = n;
        }

        void shorten(int n) {
            length = n;
        }

        boolean has(int i) {
            return i >= 0 && i < length;
        }

        int at(int i) {
            return i >= 0 && i < length ? row[i] & 255 : 0;
        }

        void put(int i, int value) {
            if (i >= 0 && i < length) {
                row[i] = (byte) value;
            }
        }

        /** Where the new bytes begin, which are 0. */
        int extend(int n) {
            int begin = length;
            length = length + n > row.length ? row.length : length + n;
            for (int i = begin; i < length; i++) {
                row[i] = 0;
            }
            return begin;
        }

        void fill(int from, int to, int value) {
            for (int i = from; i < to; i++) {
                put(i, value);
            }
        }

        void putRow(int at, byte[] values) {
            for (int i = 0; i < values.length; i++) {
                put(at + i, values[i]);
            }
        }

        void putLow(int at, int value, int width) {
            for (int i = 0; i < width; i++) {
                put(at + i, value >> 8 * i);
            }
        }

        void putHigh(int at, int value, int width) {
            for (int i = 0; i < width; i++) {
                put(at + width - 1 - i, value >> 8 * i);
            }
        }

        void putBoth(int at, int value, int width) {
            for (int i = 0; i < width; i++) {
                put(at + i, value >> 8 * i);
                put(at + 2 * width - 1 - i, value >> 8 * i);
            }
        }

        void copyTo(Bytes other, int from, int to, int count) {
            for (int i = 0; i < count; i++) {
                other.put(to + i, at(from + i));
            }
        }

        int low(int at, int width) {
            if (at < 0 || at + width > length) {
                return 0;
            }
            int value = 0;
            for (int i = 0; i < width; i++) {
                value |= (row[at + i] & 255) << 8 * i;
            }
            return value;
        }

        boolean halvesAgree(int at, int width) {
            if (at < 0 || at + 2 * width > length) {
                return false;
            }
            for (int i = 0; i < width; i++) {
                if (row[at + i] != row[at + 2 * width - 1 - i]) {
                    return false;
                }
            }
            return true;
        }

        boolean holds(int at, byte[] values) {
            for (int i = 0; i < values.length; i++) {
                if (at(at + i) != values[i]) {
                    return false;
                }
            }
            return true;
        }
    }

    /** A node of the tree that is to become an image. */
    private static final class Node {
        private static final int BASE = 8, EXTENSION = 3, KEPT_OF_BASE = 5;

        private final int sort;
        private final byte[] name;
        /** Base and extension with their blanks: it orders the first tree, and two are alike as their keys are. */
        private final byte[] key;
        private byte[] target;
        private int number, parent, above;
        private int mode, owner, group;
        private int size, seed;

        Node(int sort, byte[] name, int mode, int owner, int group) {
            this.sort = sort;
            this.name = name;
            this.mode = mode;
            this.owner = owner;
            this.group = group;
            target = new byte[0];
            key = new byte[BASE + EXTENSION];
        }

        void setOwnership(int newMode, int newOwner, int newGroup) {
            mode = newMode;
            owner = newOwner;
            group = newGroup;
        }

        void setPlainKey() {
            int dot = sort == DIRECTORY ? name.length : findDot();
            Arrays.fill(key, (byte) ' ');
            for (int i = 0; i < BASE && i < dot; i++) {
                key[i] = capital(name[i]);
            }
            for (int i = 0; i < EXTENSION && dot + 1 + i < name.length; i++) {
                key[BASE + i] = capital(name[dot + 1 + i]);
            }
        }

        int keptOfBase() {
            return Math.min(KEPT_OF_BASE, lengthOf(0, BASE));
        }

        void setNumberedKey(int at, int n) {
            key[at] = (byte) ('0' + n / 100 % 10);
            key[at + 1] = (byte) ('0' + n / 10 % 10);
            key[at + 2] = (byte) ('0' + n % 10);
        }

        boolean isAlike(Node other) {
            return compareRows(key, other.key) == 0;
        }

        /** The identifier of the first tree. */
        void addShortTo(Bytes row) {
            addKeyTo(row, 0, BASE);
            if (sort != DIRECTORY) {
                row.put(row.extend(1), '.');
                addKeyTo(row, BASE, EXTENSION);
                row.put(row.extend(1), ';');
                row.put(row.extend(1), '1');
            }
        }

        /** The identifier of the second tree. */
        void addLongTo(Bytes row) {
            for (int i = 0; i < name.length; i++) {
                row.putHigh(row.extend(2), name[i], 2);
            }
        }

        private void addKeyTo(Bytes row, int from, int most) {
            int count = lengthOf(from, most);
            for (int i = 0; i < count; i++) {
                row.put(row.extend(1), key[from + i]);
            }
        }

        private int lengthOf(int from, int most) {
            int count = 0;
            while (count < most && key[from + count] != ' ') {
                count++;
            }
            return count;
        }

        private int findDot() {
            for (int i = name.length - 1; i > 0; i--) {
                if (name[i] == '.') {
                    return i;
                }
            }
            return name.length;
        }

        private static byte capital(byte c) {
            if (c >= 'a' && c <= 'z') {
                return (byte) (c - 'a' + 'A');
            }
            return isLetter(c) || isDigit(c) ? c : (byte) '_';
        }

        static int compareRows(byte[] a, byte[] b) {
            int common = Math.min(a.length, b.length);
            for (int i = 0; i < common; i++) {
                if (a[i] != b[i]) {
                    return a[i] - b[i];
                }
            }
            return a.length - b.length;
        }
    }

    /** The nodes that were made; the root is its own parent here. */
    private static final class Tree {
        private final Node[] nodes = new Node[MAX_NODES];
        private int count;
        private int directories;

        Tree() {
            nodes[0] = new Node(DIRECTORY, new byte[0], 16877, 0, 0);
            count = 1;
            directories = 1;
        }

        boolean has(int n) {
            return n >= 0 && n < count;
        }

        boolean hasDirectory(int n) {
            return has(n) && nodes[n].sort == DIRECTORY;
        }

        int add(int in, Node fresh) {
            fresh.parent = in;
            fresh.above = nodes[in].above + 1;
            fresh.number = count;
            if (isNamed(fresh)) {
                return NAMED;
            }
            if (isFullFor(fresh)) {
                return FULL;
            }
            makeDifferent(fresh);
            nodes[count] = fresh;
            count++;
            directories += fresh.sort == DIRECTORY ? 1 : 0;
            return fresh.number;
        }

        int directoriesIn(int in) {
            int found = 0;
            for (int n = 1; n < count; n++) {
                if (nodes[n].parent == in && nodes[n].sort == DIRECTORY) {
                    found++;
                }
            }
            return found;
        }

        private boolean isNamed(Node fresh) {
            for (int n = 1; n < count; n++) {
                if (nodes[n].parent == fresh.parent && Node.compareRows(nodes[n].name, fresh.name) == 0) {
                    return true;
                }
            }
            return false;
        }

        private boolean isFullFor(Node fresh) {
            if (count >= MAX_NODES) {
                return true;
            }
            return fresh.sort == DIRECTORY && (directories >= MAX_DIRECTORIES || fresh.above > MAX_ABOVE);
        }

        /** Nodes never leave and lower numbers come first, so an identifier is settled once and for all. */
        private void makeDifferent(Node fresh) {
            fresh.setPlainKey();
            int kept = fresh.keptOfBase();
            for (int n = 0; n < 1000 && isTaken(fresh); n++) {
                fresh.setNumberedKey(kept, n);
            }
        }

        private boolean isTaken(Node fresh) {
            for (int n = 1; n < count; n++) {
                if (nodes[n].parent == fresh.parent && nodes[n].isAlike(fresh)) {
                    return true;
                }
            }
            return false;
        }
    }

    /** Where the directories of one of the two trees lie, and in which order. */
    private static final class Layout {
        private final boolean longNames;
        private final int descriptor;
        private final int table;
        private final int[] order = new int[MAX_NODES];
        private final int[] path = new int[MAX_DIRECTORIES];
        private final int[] tableNumber = new int[MAX_NODES];
        private final int[] begin = new int[MAX_NODES];
        private final int[] extent = new int[MAX_NODES];
        private int count;
        private int directories;

        Layout(boolean longNames, int descriptor, int table) {
            this.longNames = longNames;
            this.descriptor = descriptor;
            this.table = table;
        }

        void arrange(Tree tree) {
            count = 0;
            for (int n = 1; n < tree.count; n++) {
                if (!longNames || tree.nodes[n].sort != LINK) {
                    insert(tree, tree.nodes[n]);
                }
            }
            directories = 0;
            addDirectory(0);
            for (int i = 0; i < directories && i < MAX_DIRECTORIES; i++) {
                addDirectoriesIn(tree, path[i]);
            }
        }

        private void insert(Tree tree, Node fresh) {
            int at = count;
            while (at > 0 && Node.compareRows(orderOf(tree.nodes[order[at - 1]]), orderOf(fresh)) > 0) {
                order[at] = order[at - 1];
                at--;
            }
            order[at] = fresh.number;
            count++;
        }

        private byte[] orderOf(Node n) {
            return longNames ? n.name : n.key;
        }

        private void addDirectoriesIn(Tree tree, int in) {
            for (int j = 0; j < count; j++) {
                if (tree.nodes[order[j]].parent == in && tree.nodes[order[j]].sort == DIRECTORY) {
                    addDirectory(order[j]);
                }
            }
        }

        private void addDirectory(int n) {
            if (directories < MAX_DIRECTORIES) {
                path[directories] = n;
                directories++;
                tableNumber[n] = directories;
            }
        }
    }

    /** The parts behind a record's identifier, built for one record after the other. */
    private static final class SystemUse {
        private static final int MOST = 400;

        private final Bytes parts = new Bytes(MOST);
        private final int[] ends = new int[4];
        private int count;
        /** How many bytes of the parts stay in the record, a CE not counted. */
        private int kept;

        void clear() {
            parts.shorten(0);
            count = 0;
            kept = 0;
        }

        int bytesInRecord() {
            return kept < parts.length ? kept + CE_BYTES : kept;
        }

        int bytesBehind() {
            return parts.length - kept;
        }

        void fit(int room) {
            kept = parts.length;
            if (kept > room) {
                kept = 0;
                for (int i = 0; i < count && ends[i] + CE_BYTES <= room; i++) {
                    kept = ends[i];
                }
            }
        }

        void addRootsMark() {
            int at = open(SP, 7);
            parts.put(at + 4, 190);
            parts.put(at + 5, 239);
            close(at);
        }

        void addOwnership(Node n, int links) {
            int at = open(PX, PX_BYTES);
            parts.putBoth(at + 4, modeBits(n.sort) + n.mode % PERMISSIONS, 4);
            parts.putBoth(at + 12, links, 4);
            parts.putBoth(at + 20, n.owner, 4);
            parts.putBoth(at + 28, n.group, 4);
            close(at);
        }

        void addName(byte[] row) {
            int at = open(NM, 5 + row.length);
            parts.putRow(at + 5, row);
            close(at);
        }

        void addTarget(byte[] row) {
            int at = open(SL, 5);
            if (row.length > 0 && row[0] == '/') {
                addComponent(row, TOP, 0, 0);
            }
            int from = 0;
            for (int i = 0; i <= row.length; i++) {
                if (i == row.length || row[i] == '/') {
                    if (i > from) {
                        addComponent(row, marksOf(row, from, i), from, i);
                    }
                    from = i + 1;
                }
            }
            close(at);
        }

        private void addComponent(byte[] row, int marks, int from, int to) {
            int bytes = marks == 0 ? to - from : 0;
            int at = parts.extend(2 + bytes);
            parts.put(at, marks);
            parts.put(at + 1, bytes);
            for (int i = 0; i < bytes; i++) {
                parts.put(at + 2 + i, row[from + i]);
            }
        }

        private static int marksOf(byte[] row, int from, int to) {
            if (row[from] != '.' || to - from > 2) {
                return 0;
            }
            if (to - from == 1) {
                return HERE;
            }
            return row[from + 1] == '.' ? UP : 0;
        }

        private int open(int letters, int bytes) {
            int at = parts.extend(bytes);
            parts.put(at, letters >> 8);
            parts.put(at + 1, letters);
            parts.put(at + 3, 1);
            return at;
        }

        private void close(int at) {
            parts.put(at + 2, parts.length - at);
            if (count < ends.length) {
                ends[count] = parts.length;
                count++;
            }
        }

        private static int modeBits(int sort) {
            return sort == DIRECTORY ? DIRECTORY_BITS : sort == FILE ? FILE_BITS : LINK_BITS;
        }
    }

    /** Makes the tree the image. */
    private static final class Maker {
        private static final int SELF = 0, PARENT = 1, CHILD = 2;
        private static final int MOST_OF_IDENTIFIER = 60;

        private final Tree tree;
        private final Bytes image;
        private final Layout first = new Layout(false, FIRST_DESCRIPTOR, 19);
        private final Layout second = new Layout(true, FIRST_DESCRIPTOR + 1, 21);
        private final SystemUse use = new SystemUse();
        private final Bytes identifier = new Bytes(MOST_OF_IDENTIFIER);
        private final int[] contents = new int[MAX_NODES];
        /** Where the next record, and the next run of the continuation, may begin. */
        private int recordAt, runAt;
        /** The same walk measures the directories first and then writes them. */
        private boolean writing;

        Maker(Tree tree, Bytes image) {
            this.tree = tree;
            this.image = image;
        }

        /** How many bytes the SL of a target has. */
        int linkPartBytes(byte[] row) {
            use.clear();
            use.addTarget(row);
            return use.parts.length;
        }

        int make() {
            first.arrange(tree);
            second.arrange(tree);
            writing = false;
            runAt = 0;
            int middle = walk(first, FIRST_DIRECTORY);
            int continuation = walk(second, middle);
            int total = placeContents(continuation + sectorsFor(runAt));
            image.reset(total * SECTOR);
            writing = true;
            runAt = continuation * SECTOR;
            walk(first, FIRST_DIRECTORY);
            walk(second, middle);
            writeDescriptor(first, writePathTables(first));
            writeDescriptor(second, writePathTables(second));
            writeDescriptorHead(FIRST_DESCRIPTOR + 2, LAST_SORT);
            writeContents();
            return total;
        }

        /** Where the directories end; on the second walk all lie where the first one put them. */
        private int walk(Layout layout, int from) {
            int next = from;
            for (int i = 0; i < layout.directories; i++) {
                Node directory = tree.nodes[layout.path[i]];
                recordAt = next * SECTOR;
                passRecord(layout, directory, SELF);
                passRecord(layout, tree.nodes[directory.parent], PARENT);
                for (int j = 0; j < layout.count; j++) {
                    Node child = tree.nodes[layout.order[j]];
                    if (child.parent == directory.number) {
                        passRecord(layout, child, CHILD);
                    }
                }
                layout.begin[directory.number] = next;
                layout.extent[directory.number] = sectorsFor(recordAt) - next;
                next = sectorsFor(recordAt);
            }
            return next;
        }

        private int placeContents(int from) {
            int next = from;
            for (int n = 0; n < tree.count; n++) {
                int twin = firstWithContents(n);
                contents[n] = twin == n ? next : twin == NONE ? 0 : contents[twin];
                next += twin == n ? sectorsFor(tree.nodes[n].size) : 0;
            }
            return next;
        }

        /** The lowest file with the same contents; none for what has no contents. */
        private int firstWithContents(int n) {
            Node wanted = tree.nodes[n];
            if (wanted.sort != FILE || wanted.size == 0) {
                return NONE;
            }
            for (int m = 0; m < n; m++) {
                Node other = tree.nodes[m];
                if (other.sort == FILE && other.size == wanted.size && other.seed == wanted.seed) {
                    return m;
                }
            }
            return n;
        }

        private void passRecord(Layout layout, Node n, int role) {
            identify(layout, n, role);
            int head = even(33 + identifier.length);
            use.clear();
            if (!layout.longNames) {
                buildParts(n, role);
                use.fit(MAX_RECORD - head);
            }
            int bytes = head + even(use.bytesInRecord());
            recordAt = withinOneSector(recordAt, bytes);
            runAt = withinOneSector(runAt, use.bytesBehind());
            if (writing) {
                writeRecord(layout, n, recordAt, bytes);
                writeParts(recordAt + head);
            }
            recordAt += bytes;
            runAt += use.bytesBehind();
        }

        private static int withinOneSector(int at, int bytes) {
            return at % SECTOR + bytes > SECTOR ? sectorsFor(at) * SECTOR : at;
        }

        private void identify(Layout layout, Node n, int role) {
            identifier.shorten(0);
            if (role != CHILD) {
                identifier.put(identifier.extend(1), role);
            } else if (layout.longNames) {
                n.addLongTo(identifier);
            } else {
                n.addShortTo(identifier);
            }
        }

        private void buildParts(Node n, int role) {
            if (role == SELF && n.number == 0) {
                use.addRootsMark();
            }
            use.addOwnership(n, n.sort == DIRECTORY ? tree.directoriesIn(n.number) + 2 : 1);
            if (role == CHILD) {
                use.addName(n.name);
            }
            if (n.sort == LINK) {
                use.addTarget(n.target);
            }
        }

        /** Writes the record with the identifier that was made last, up to where system use begins. */
        private void writeRecord(Layout layout, Node n, int at, int bytes) {
            boolean directory = n.sort == DIRECTORY;
            image.put(at, bytes);
            image.putBoth(at + 2, directory ? layout.begin[n.number] : contents[n.number], 4);
            image.putBoth(at + 10, directory ? layout.extent[n.number] * SECTOR : n.size, 4);
            image.putRow(at + 18, DAY);
            image.put(at + 25, directory ? DIRECTORY_MARK : 0);
            image.putBoth(at + 28, 1, 2);
            image.put(at + 32, identifier.length);
            identifier.copyTo(image, 0, at + 33, identifier.length);
        }

        private void writeParts(int at) {
            use.parts.copyTo(image, 0, at, use.kept);
            int behind = use.bytesBehind();
            if (behind > 0) {
                int ce = at + use.kept;
                image.putHigh(ce, CE, 2);
                image.put(ce + 2, CE_BYTES);
                image.put(ce + 3, 1);
                image.putBoth(ce + 4, runAt / SECTOR, 4);
                image.putBoth(ce + 12, runAt % SECTOR, 4);
                image.putBoth(ce + 20, behind, 4);
                use.parts.copyTo(image, use.kept, runAt, behind);
            }
        }

        private int writePathTables(Layout layout) {
            int low = layout.table * SECTOR;
            int high = low + SECTOR;
            int at = 0;
            for (int i = 0; i < layout.directories; i++) {
                Node n = tree.nodes[layout.path[i]];
                identify(layout, n, n.number == 0 ? SELF : CHILD);
                writePathHead(low + at);
                writePathHead(high + at);
                image.putLow(low + at + 2, layout.begin[n.number], 4);
                image.putHigh(high + at + 2, layout.begin[n.number], 4);
                image.putLow(low + at + 6, layout.tableNumber[n.parent], 2);
                image.putHigh(high + at + 6, layout.tableNumber[n.parent], 2);
                at += 8 + even(identifier.length);
            }
            return at;
        }

        private void writePathHead(int at) {
            image.put(at, identifier.length);
            identifier.copyTo(image, 0, at + 8, identifier.length);
        }

        private void writeDescriptorHead(int sector, int sort) {
            image.put(sector * SECTOR, sort);
            image.putRow(sector * SECTOR + 1, STANDARD);
        }

        private void writeDescriptor(Layout layout, int tableBytes) {
            int at = layout.descriptor * SECTOR;
            writeDescriptorHead(layout.descriptor, layout.longNames ? 2 : 1);
            image.fill(at + 8, at + 72, ' ');
            image.putBoth(at + 80, image.length / SECTOR, 4);
            if (layout.longNames) {
                image.putRow(at + 88, LONG_NAMES);
            }
            image.putBoth(at + 120, 1, 2);
            image.putBoth(at + 124, 1, 2);
            image.putBoth(at + BLOCK_SIZE_FIELD, SECTOR, 2);
            image.putBoth(at + 132, tableBytes, 4);
            image.putLow(at + 140, layout.table, 4);
            image.putHigh(at + 148, layout.table + 1, 4);
            identify(layout, tree.nodes[0], SELF);
            writeRecord(layout, tree.nodes[0], at + ROOT_FIELD, 34);
            image.fill(at + 190, at + 813, ' ');
            for (int i = 0; i < 4; i++) {
                image.fill(at + 813 + 17 * i, at + 829 + 17 * i, '0');
            }
            image.put(at + 881, 1);
        }

        private void writeContents() {
            for (int n = 0; n < tree.count; n++) {
                if (firstWithContents(n) == n) {
                    writeBytes(tree.nodes[n], contents[n] * SECTOR);
                }
            }
        }

        private void writeBytes(Node n, int at) {
            for (int i = 0; i < n.size; i++) {
                image.put(at + i, n.seed + i * i + i / 256);
            }
        }
    }

    /** A node that was read. */
    private static final class Found {
        private final byte[] name = new byte[MAX_FOUND_NAME];
        private final byte[] target = new byte[MAX_FOUND_TARGET];
        private int parent, depth, sort, size, sector;
        private int mode, owner, group;
        private int nameLength, targetLength;
        /** By the record's mark: the sort may become a link's by the mode, and the sector stays taken. */
        private boolean marked;

        void begin(int newParent, int newDepth, boolean directory, int newSize, int newSector) {
            parent = newParent;
            depth = newDepth;
            sort = directory ? DIRECTORY : FILE;
            marked = directory;
            size = newSize;
            sector = newSector;
            mode = 0;
            owner = 0;
            group = 0;
            nameLength = 0;
            targetLength = 0;
        }

        /** Counts on past the end of the row: whoever adds looks at the length afterwards. */
        void addToName(int c) {
            if (nameLength < name.length) {
                name[nameLength] = (byte) c;
            }
            nameLength++;
        }

        void addToTarget(int c) {
            if (targetLength < target.length) {
                target[targetLength] = (byte) c;
            }
            targetLength++;
        }

        boolean isNameTooLong() {
            return nameLength > name.length;
        }

        boolean isTargetTooLong() {
            return targetLength > target.length;
        }

        int number(int what) {
            switch (what) {
                case 0: return parent;
                case 1: return sort;
                case 2: return size;
                case 3: return sector;
                case 4: return mode;
                case 5: return owner;
                case 6: return group;
                case 7: return nameLength;
                default: return targetLength;
            }
        }
    }

    /** Goes through the system use of a record, wherever its CEs lead. */
    private static final class PartsReader {
        private final Bytes image;
        private Found found;
        private boolean named;
        private int components;
        private boolean topAlone;
        private int lastContinuation;

        PartsReader(Bytes image) {
            this.image = image;
        }

        /** The place that is wrong, or NONE. */
        int goThrough(Found of, int begin, int end) {
            found = of;
            named = false;
            components = 0;
            topAlone = false;
            int from = begin;
            int to = end;
            for (int run = 0; run <= MAX_CONTINUATIONS; run++) {
                lastContinuation = NONE;
                int at = from;
                while (at + 4 <= to) {
                    int bytes = image.at(at + 2);
                    if (bytes < 4 || at + bytes > to || !takePart(at, bytes)) {
                        return at;
                    }
                    at += bytes;
                }
                if (lastContinuation == NONE) {
                    break;
                }
                // Only a CE that is followed counts: one that a later one replaces does not use the record's five up.
                if (run == MAX_CONTINUATIONS) {
                    return lastContinuation;
                }
                from = image.low(lastContinuation + 4, 4) * SECTOR + image.low(lastContinuation + 12, 4);
                to = from + image.low(lastContinuation + 20, 4);
            }
            if (topAlone) {
                found.addToTarget('/');
            }
            if ((found.mode & SORT_BITS) == LINK_BITS) {
                found.sort = LINK;
            }
            return NONE;
        }

        private boolean takePart(int at, int bytes) {
            switch (image.at(at) << 8 | image.at(at + 1)) {
                case NM: return takeName(at, bytes);
                case PX: return takeOwnership(at, bytes);
                case SL: return takeTarget(at, bytes);
                case CE: return takeContinuation(at, bytes);
                default: return true;
            }
        }

        private boolean takeName(int at, int bytes) {
            if (bytes < 5 || image.at(at + 4) != 0) {
                return false;
            }
            for (int i = 5; i < bytes; i++) {
                found.addToName(image.at(at + i));
            }
            named = true;
            return !found.isNameTooLong();
        }

        private boolean takeOwnership(int at, int bytes) {
            if (bytes != PX_BYTES) {
                return false;
            }
            for (int i = 4; i < PX_BYTES; i += 8) {
                if (!image.halvesAgree(at + i, 4)) {
                    return false;
                }
            }
            found.mode = image.low(at + 4, 4);
            found.owner = image.low(at + 20, 4);
            found.group = image.low(at + 28, 4);
            return true;
        }

        private boolean takeTarget(int at, int bytes) {
            if (bytes < 5 || image.at(at + 4) != 0) {
                return false;
            }
            int end = at + bytes;
            int next = at + 5;
            while (next < end) {
                int marks = image.at(next);
                int length = image.at(next + 1);
                if (next + 2 + length > end || !isComponent(marks, length)) {
                    return false;
                }
                topAlone = components == 0 && marks == TOP;
                if (components > 0) {
                    found.addToTarget('/');
                }
                for (int dots = dotsOf(marks); dots > 0; dots--) {
                    found.addToTarget('.');
                }
                for (int i = 0; i < length; i++) {
                    found.addToTarget(image.at(next + 2 + i));
                }
                components++;
                next += 2 + length;
            }
            return !found.isTargetTooLong();
        }

        private static boolean isComponent(int marks, int length) {
            return marks == 0 || length == 0 && (marks == HERE || marks == UP || marks == TOP);
        }

        private static int dotsOf(int marks) {
            return marks == HERE ? 1 : marks == UP ? 2 : 0;
        }

        private boolean takeContinuation(int at, int bytes) {
            if (bytes != CE_BYTES) {
                return false;
            }
            for (int i = 4; i < CE_BYTES; i += 8) {
                if (!image.halvesAgree(at + i, 4)) {
                    return false;
                }
            }
            lastContinuation = at;
            int sector = image.low(at + 4, 4);
            long place = image.low(at + 12, 4);
            long count = image.low(at + 20, 4);
            return sector >= 0 && sector < image.length / SECTOR && place >= 0 && count >= 0 && place + count <= SECTOR;
        }
    }

    /** Reads the image by a view. Its checks answer the place that is wrong, or NONE. */
    private static final class Reader {
        private static final int SHORT = 0, LONG = 1, OWNERS = 2;

        private final Bytes image;
        private final PartsReader parts;
        private final Found[] rows = new Found[MAX_FOUND];
        private int count;
        private int view;
        private int wrong;

        Reader(Bytes image) {
            this.image = image;
            parts = new PartsReader(image);
        }

        Found find(int k) {
            return k >= 0 && k < count ? rows[k] : null;
        }

        int open(int newView) {
            view = newView;
            count = 0;
            wrong = NONE;
            int descriptor = findDescriptor();
            if (wrong == NONE) {
                wrong = readRoot(descriptor);
            }
            for (int k = 0; k < count && wrong == NONE; k++) {
                if (rows[k].sort == DIRECTORY) {
                    wrong = readDirectory(k);
                }
            }
            if (wrong != NONE) {
                count = 0;
                return -1 - wrong;
            }
            return count;
        }

        private int findDescriptor() {
            int wanted = NONE;
            int at = FIRST_DESCRIPTOR * SECTOR;
            while (at < image.length && image.holds(at + 1, STANDARD)) {
                if (image.at(at) == LAST_SORT) {
                    wrong = wanted == NONE ? at : NONE;
                    return wanted;
                }
                if (wanted == NONE && isWanted(at)) {
                    wanted = at;
                }
                at += SECTOR;
            }
            wrong = at;
            return NONE;
        }

        private boolean isWanted(int at) {
            if (view == LONG) {
                return image.at(at) == 2 && image.holds(at + 88, LONG_NAMES);
            }
            return image.at(at) == 1;
        }

        private int readRoot(int descriptor) {
            int field = descriptor + BLOCK_SIZE_FIELD;
            if (image.low(field, 2) != SECTOR || !image.halvesAgree(field, 2)) {
                return field;
            }
            int at = descriptor + ROOT_FIELD;
            if (!isRecord(at) || !isDirectory(at)) {
                return at;
            }
            addRow(NONE, 1, at);
            return NONE;
        }

        private int readDirectory(int k) {
            int begin = rows[k].sector * SECTOR;
            int end = begin + rows[k].size;
            int at = begin;
            int records = 0;
            while (at < end) {
                int bytes = image.at(at);
                if (bytes == 0) {
                    at += SECTOR - at % SECTOR;
                    continue;
                }
                if (!isRecord(at) || !(records < 2 ? isOwnRecord(k, at, records) : addNode(k, at))) {
                    return at;
                }
                int place = NONE;
                if (records >= 2) {
                    place = describe(rows[count - 1], at);
                } else if (k == 0 && records == 0) {
                    place = describeRoot(at);
                }
                if (place != NONE) {
                    return place;
                }
                records++;
                at += bytes;
            }
            return records < 2 ? begin : NONE;
        }

        private boolean isRecord(int at) {
            int bytes = image.at(at);
            int identifier = image.at(at + 32);
            if (bytes < 34 || at % SECTOR + bytes > SECTOR || identifier < 1 || bytes < 33 + identifier) {
                return false;
            }
            if (!image.halvesAgree(at + 2, 4) || !image.halvesAgree(at + 10, 4) || !image.halvesAgree(at + 28, 2)) {
                return false;
            }
            long size = sizeAt(at);
            long sector = sectorAt(at);
            if (isDirectory(at) ? size <= 0 || size % SECTOR != 0 : size < 0) {
                return false;
            }
            return size == 0 || sector >= 0 && sector * SECTOR + size <= image.length;
        }

        private boolean isDirectory(int at) {
            return image.at(at + 25) == DIRECTORY_MARK;
        }

        private int sectorAt(int at) {
            return image.low(at + 2, 4);
        }

        private int sizeAt(int at) {
            return image.low(at + 10, 4);
        }

        private boolean isOwnRecord(int k, int at, int identifier) {
            if (image.at(at + 32) != 1 || image.at(at + 33) != identifier || !isDirectory(at)) {
                return false;
            }
            return identifier == 1 || sectorAt(at) == rows[k].sector;
        }

        private boolean addNode(int in, int at) {
            int depth = rows[in].depth + 1;
            if (count == MAX_FOUND || isDirectory(at) && (depth > MAX_FOUND_DEPTH || isTaken(sectorAt(at)))) {
                return false;
            }
            addRow(in, depth, at);
            return true;
        }

        private boolean isTaken(int sector) {
            for (int k = 0; k < count; k++) {
                if (rows[k].marked && rows[k].sector == sector) {
                    return true;
                }
            }
            return false;
        }

        /** Rows are made once and used again by every reading. */
        private void addRow(int in, int depth, int at) {
            if (rows[count] == null) {
                rows[count] = new Found();
            }
            Found fresh = rows[count];
            count++;
            fresh.begin(in, depth, isDirectory(at), sizeAt(at), sectorAt(at));
        }

        private boolean takeShortName(Found fresh, int at) {
            int end = at + 33 + image.at(at + 32);
            if (image.at(at + 32) >= 2 && image.at(end - 2) == ';' && image.at(end - 1) == '1') {
                end -= 2;
            }
            if (end > at + 33 && image.at(end - 1) == '.') {
                end--;
            }
            for (int i = at + 33; i < end; i++) {
                fresh.addToName(image.at(i));
            }
            return !fresh.isNameTooLong();
        }

        private boolean takeLongName(Found fresh, int at) {
            int bytes = image.at(at + 32);
            for (int i = 0; i < bytes; i += 2) {
                int c = image.at(at + 33 + i) << 8 | image.at(at + 34 + i);
                if (c < 33 || c > 126) {
                    return false;
                }
                fresh.addToName(c);
            }
            return bytes % 2 == 0 && !fresh.isNameTooLong();
        }

        /** Gives a node its name and, in the owner's view, what else its record tells. */
        private int describe(Found fresh, int at) {
            if (view == LONG) {
                return takeLongName(fresh, at) ? NONE : at;
            }
            if (view == OWNERS) {
                int begin = at + even(33 + image.at(at + 32));
                int place = parts.goThrough(fresh, begin, at + image.at(at));
                if (place != NONE || parts.named) {
                    return place;
                }
            }
            return takeShortName(fresh, at) ? NONE : at;
        }

        /** The root has no record in a parent: only the owner's view learns of it, by its record of itself. */
        private int describeRoot(int at) {
            int place = NONE;
            if (view == OWNERS) {
                place = parts.goThrough(rows[0], at + 34, at + image.at(at));
            }
            rows[0].nameLength = 0;
            return place;
        }
    }
}
