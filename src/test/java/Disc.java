import java.util.ArrayList;
import java.util.HashSet;
import java.util.List;
import java.util.Set;

/**
 * A DiscMaker that is spoken to in texts, and an eye for the bytes of its image. The document promises nothing of an
 * object behind its 512th call: then a new one takes its place, brought by the calls that still matter to where it was.
 */
final class Disc {
    static final int SECTOR = 2048;
    static final int FIRST = 16 * SECTOR;
    static final int SECOND = 17 * SECTOR;
    static final int LAST = 18 * SECTOR;

    private static final int MOST_CALLS = 512;
    private static final int FEED = 0, END = 1, DIRECTORY = 2, FILE = 3, LINK = 4, OWN = 5;
    private static final int MASTER = 6, POKE = 7, CUT = 8, MOUNT = 9;

    private DiscMaker x = new DiscMaker();
    private int calls;
    private List<int[]> changes = new ArrayList<>();

    boolean feed(int a, int b, int c, int d, int e) {
        return change(FEED, a, b, c, d, e) == 1;
    }

    boolean end(int n) {
        return change(END, n) == 1;
    }

    int directory(int in, int mode, int owner, int group) {
        return change(DIRECTORY, in, mode, owner, group);
    }

    int file(int in, int size, int seed) {
        return change(FILE, in, size, seed);
    }

    int link(int in) {
        return change(LINK, in);
    }

    boolean own(int node, int mode, int owner, int group) {
        return change(OWN, node, mode, owner, group) == 1;
    }

    int master() {
        return change(MASTER);
    }

    int sectors() {
        return ready().sectors();
    }

    int byteAt(int address) {
        return ready().byteAt(address);
    }

    int poke(int address, int value) {
        return change(POKE, address, value);
    }

    boolean cut(int n) {
        return change(CUT, n) == 1;
    }

    int mount(int view) {
        return view >= 0 && view <= 2 ? change(MOUNT, view) : ready().mount(view);
    }

    int node(int k, int what) {
        return ready().node(k, what);
    }

    int name(int k, int i) {
        return ready().name(k, i);
    }

    int target(int k, int i) {
        return ready().target(k, i);
    }

    int read(int k, int i) {
        return ready().read(k, i);
    }

    private int change(int... call) {
        int answer = perform(ready(), call);
        changes.add(call);
        return answer;
    }

    private DiscMaker ready() {
        if (calls == MOST_CALLS) {
            forget();
            x = new DiscMaker();
            for (int[] call : changes) {
                perform(x, call);
            }
            calls = changes.size();
            if (calls == MOST_CALLS) {
                throw new IllegalStateException("a test changes one object more often than it may be called");
            }
        }
        calls++;
        return x;
    }

    private static int perform(DiscMaker x, int[] c) {
        switch (c[0]) {
            case FEED: return x.feed(c[1], c[2], c[3], c[4], c[5]) ? 1 : 0;
            case END: return x.end(c[1]) ? 1 : 0;
            case DIRECTORY: return x.directory(c[1], c[2], c[3], c[4]);
            case FILE: return x.file(c[1], c[2], c[3]);
            case LINK: return x.link(c[1]);
            case OWN: return x.own(c[1], c[2], c[3], c[4]) ? 1 : 0;
            case MASTER: return x.master();
            case POKE: return x.poke(c[1], c[2]);
            case CUT: return x.cut(c[1]) ? 1 : 0;
            default: return x.mount(c[1]);
        }
    }

    /** Leaves out what a later mount, master or poke has made as if it had never been. */
    private void forget() {
        List<int[]> kept = new ArrayList<>();
        Set<Integer> poked = new HashSet<>();
        boolean mounted = false;
        boolean mastered = false;
        for (int i = changes.size() - 1; i >= 0; i--) {
            int[] call = changes.get(i);
            boolean matters = true;
            switch (call[0]) {
                case MOUNT:
                    matters = !mounted;
                    break;
                case MASTER:
                    matters = !mastered;
                    mastered = true;
                    break;
                case POKE:
                    matters = !mastered && poked.add(call[1]);
                    break;
                case CUT:
                    matters = !mastered;
                    break;
                default:
            }
            if (matters) {
                kept.add(0, call);
            }
            if (call[0] == MOUNT && !mounted) {
                mounted = true;
                mastered = false;
                poked.clear();
            }
        }
        changes = kept;
    }

    void say(String text) {
        for (int from = 0; from < text.length(); from += 20) {
            int[] fed = new int[5];
            for (int i = 0; i < 20; i++) {
                int c = from + i < text.length() ? text.charAt(from + i) : 0;
                fed[i / 4] |= c << 24 - 8 * (i % 4);
            }
            Check.yes("feed", feed(fed[0], fed[1], fed[2], fed[3], fed[4]));
        }
        Check.yes("end", end(text.length()));
    }

    int directory(int in, String name) {
        return directory(in, name, 493, 0, 0);
    }

    int directory(int in, String name, int mode, int owner, int group) {
        say(name);
        return directory(in, mode, owner, group);
    }

    int file(int in, String name, int size, int seed) {
        say(name);
        return file(in, size, seed);
    }

    int link(int in, String name, String target) {
        say(name + "\0" + target);
        return link(in);
    }

    /** A number of the image, the lowest byte first. */
    int low(int at, int width) {
        int value = 0;
        for (int i = 0; i < width; i++) {
            value |= byteAt(at + i) << 8 * i;
        }
        return value;
    }

    /** A number of the image, the highest byte first. */
    int high(int at, int width) {
        int value = 0;
        for (int i = 0; i < width; i++) {
            value = value << 8 | byteAt(at + i);
        }
        return value;
    }

    void both(String what, int at, int width, int want) {
        Check.same(what + ", lowest first", low(at, width), want);
        Check.same(what + ", highest first", high(at + width, width), want);
    }

    void bytes(String what, int at, int... want) {
        for (int i = 0; i < want.length; i++) {
            Check.same(what + ", byte " + i, byteAt(at + i), want[i]);
        }
    }

    void filled(String what, int from, int to, int want) {
        int others = 0;
        for (int i = from; i <= to; i++) {
            others += byteAt(i) == want ? 0 : 1;
        }
        Check.same(what + ", other bytes than " + want, others, 0);
    }

    String text(int at, int length) {
        StringBuilder row = new StringBuilder();
        for (int i = 0; i < length; i++) {
            row.append((char) byteAt(at + i));
        }
        return row.toString();
    }

    void write(int at, int... values) {
        for (int i = 0; i < values.length; i++) {
            poke(at + i, values[i]);
        }
    }

    void write(int at, String values) {
        for (int i = 0; i < values.length(); i++) {
            poke(at + i, values.charAt(i));
        }
    }

    void writeBoth(int at, int width, int value) {
        for (int i = 0; i < width; i++) {
            poke(at + i, value >> 8 * i);
            poke(at + 2 * width - 1 - i, value >> 8 * i);
        }
    }

    /** A part of system use, where there is room for it. */
    void writePart(int at, String letters, int... data) {
        write(at, letters);
        write(at + 2, 4 + data.length, 1);
        write(at + 4, data);
    }

    void writeContinuation(int at, int sector, int place, int bytes) {
        write(at, "CE");
        write(at + 2, 28, 1);
        writeBoth(at + 4, 4, sector);
        writeBoth(at + 12, 4, place);
        writeBoth(at + 20, 4, bytes);
    }

    /** Where record number k of the directory lies that begins at a sector. */
    int record(int sector, int k) {
        int at = sector * SECTOR;
        for (int i = 0; i < k; i++) {
            at += byteAt(at);
            if (byteAt(at) == 0) {
                at += SECTOR - at % SECTOR;
            }
        }
        return at;
    }

    String identifier(int record) {
        return text(record + 33, byteAt(record + 32));
    }

    /** The identifiers of a directory of n nodes. */
    String identifiers(int sector, int n) {
        StringBuilder row = new StringBuilder();
        for (int k = 2; k < n + 2; k++) {
            row.append(k == 2 ? "" : " ").append(identifier(record(sector, k)).replace("\0", ""));
        }
        return row.toString();
    }

    int systemUse(int record) {
        int at = 33 + byteAt(record + 32);
        return record + at + at % 2;
    }

    /** Where the part of a record lies that has these letters. */
    int part(int record, String letters) {
        int end = record + byteAt(record);
        for (int at = systemUse(record); at + 4 <= end; at += byteAt(at + 2)) {
            if (text(at, 2).equals(letters)) {
                return at;
            }
        }
        return -1;
    }

    /** The letters of a record's parts. */
    String parts(int record) {
        StringBuilder row = new StringBuilder();
        int end = record + byteAt(record);
        for (int at = systemUse(record); at + 4 <= end; at += byteAt(at + 2)) {
            row.append(text(at, 2));
        }
        return row.toString();
    }

    void mounts(String what, int view, int nodes) {
        Check.same(what + ": mount(" + view + ")", mount(view), nodes);
    }

    /** The place is wrong by this view, and nothing is read then. */
    void wrong(String what, int view, int place) {
        Check.same(what + ": mount(" + view + ")", mount(view), -1 - place);
        Check.noSuch(what + ": node(0, 1)", () -> node(0, 1));
    }

    String nameOf(int k) {
        StringBuilder row = new StringBuilder();
        for (int i = 0; i < node(k, 7); i++) {
            row.append((char) name(k, i));
        }
        return row.toString();
    }

    String targetOf(int k) {
        StringBuilder row = new StringBuilder();
        for (int i = 0; i < node(k, 8); i++) {
            row.append((char) target(k, i));
        }
        return row.toString();
    }

    /** The names of all nodes by a view, each behind its parent's number. */
    String tree(int view) {
        StringBuilder row = new StringBuilder();
        int nodes = mount(view);
        for (int k = 1; k < nodes; k++) {
            row.append(k == 1 ? "" : " ").append(node(k, 0)).append(':').append(nameOf(k));
        }
        return row.toString();
    }
}
