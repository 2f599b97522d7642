/** A DiscMaker that is spoken to in texts, and an eye for the bytes of its image. */
final class Disc {
    static final int SECTOR = 2048;
    static final int FIRST = 16 * SECTOR;
    static final int SECOND = 17 * SECTOR;
    static final int LAST = 18 * SECTOR;

    final DiscMaker x = new DiscMaker();

    void say(String text) {
        for (int from = 0; from < text.length(); from += 20) {
            int[] fed = new int[5];
            for (int i = 0; i < 20; i++) {
                int c = from + i < text.length() ? text.charAt(from + i) : 0;
                fed[i / 4] |= c << 24 - 8 * (i % 4);
            }
            Check.yes("feed", x.feed(fed[0], fed[1], fed[2], fed[3], fed[4]));
        }
        Check.yes("end", x.end(text.length()));
    }

    int directory(int in, String name) {
        return directory(in, name, 493, 0, 0);
    }

    int directory(int in, String name, int mode, int owner, int group) {
        say(name);
        return x.directory(in, mode, owner, group);
    }

    int file(int in, String name, int size, int seed) {
        say(name);
        return x.file(in, size, seed);
    }

    int link(int in, String name, String target) {
        say(name + "\0" + target);
        return x.link(in);
    }

    /** A number of the image, the lowest byte first. */
    int low(int at, int width) {
        int value = 0;
        for (int i = 0; i < width; i++) {
            value |= x.byteAt(at + i) << 8 * i;
        }
        return value;
    }

    /** A number of the image, the highest byte first. */
    int high(int at, int width) {
        int value = 0;
        for (int i = 0; i < width; i++) {
            value = value << 8 | x.byteAt(at + i);
        }
        return value;
    }

    void both(String what, int at, int width, int want) {
        Check.same(what + ", lowest first", low(at, width), want);
        Check.same(what + ", highest first", high(at + width, width), want);
    }

    void bytes(String what, int at, int... want) {
        for (int i = 0; i < want.length; i++) {
            Check.same(what + ", byte " + i, x.byteAt(at + i), want[i]);
        }
    }

    void filled(String what, int from, int to, int want) {
        int others = 0;
        for (int i = from; i <= to; i++) {
            others += x.byteAt(i) == want ? 0 : 1;
        }
        Check.same(what + ", other bytes than " + want, others, 0);
    }

    String text(int at, int length) {
        StringBuilder row = new StringBuilder();
        for (int i = 0; i < length; i++) {
            row.append((char) x.byteAt(at + i));
        }
        return row.toString();
    }

    void write(int at, int... values) {
        for (int i = 0; i < values.length; i++) {
            x.poke(at + i, values[i]);
        }
    }

    void write(int at, String values) {
        for (int i = 0; i < values.length(); i++) {
            x.poke(at + i, values.charAt(i));
        }
    }

    void writeBoth(int at, int width, int value) {
        for (int i = 0; i < width; i++) {
            x.poke(at + i, value >> 8 * i);
            x.poke(at + 2 * width - 1 - i, value >> 8 * i);
        }
    }

    /** A part of system use, where there is room for it. */
    void writePart(int at, String letters, int... data) {
        write(at, letters);
        write(at + 2, 4 + data.length, 1);
        write(at + 4, data);
    }

    void writeContinuation(int at, int sector, int place, int bytes) {
        write(at, "CE");
        write(at + 2, 28, 1);
        writeBoth(at + 4, 4, sector);
        writeBoth(at + 12, 4, place);
        writeBoth(at + 20, 4, bytes);
    }

    /** Where record number k of the directory lies that begins at a sector. */
    int record(int sector, int k) {
        int at = sector * SECTOR;
        for (int i = 0; i < k; i++) {
            at += x.byteAt(at);
            if (x.byteAt(at) == 0) {
                at += SECTOR - at % SECTOR;
            }
        }
        return at;
    }

    String identifier(int record) {
        return text(record + 33, x.byteAt(record + 32));
    }

    /** The identifiers of a directory of n nodes. */
    String identifiers(int sector, int n) {
        StringBuilder row = new StringBuilder();
        for (int k = 2; k < n + 2; k++) {
            row.append(k == 2 ? "" : " ").append(identifier(record(sector, k)).replace("\0", ""));
        }
        return row.toString();
    }

    int systemUse(int record) {
        int at = 33 + x.byteAt(record + 32);
        return record + at + at % 2;
    }

    /** Where the part of a record lies that has these letters. */
    int part(int record, String letters) {
        int end = record + x.byteAt(record);
        for (int at = systemUse(record); at + 4 <= end; at += x.byteAt(at + 2)) {
            if (text(at, 2).equals(letters)) {
                return at;
            }
        }
        return -1;
    }

    /** The letters of a record's parts. */
    String parts(int record) {
        StringBuilder row = new StringBuilder();
        int end = record + x.byteAt(record);
        for (int at = systemUse(record); at + 4 <= end; at += x.byteAt(at + 2)) {
            row.append(text(at, 2));
        }
        return row.toString();
    }

    void mounts(String what, int view, int nodes) {
        Check.same(what + ": mount(" + view + ")", x.mount(view), nodes);
    }

    /** The place is wrong by this view, and nothing is read then. */
    void wrong(String what, int view, int place) {
        Check.same(what + ": mount(" + view + ")", x.mount(view), -1 - place);
        Check.noSuch(what + ": node(0, 1)", () -> x.node(0, 1));
    }

    String nameOf(int k) {
        StringBuilder row = new StringBuilder();
        for (int i = 0; i < x.node(k, 7); i++) {
            row.append((char) x.name(k, i));
        }
        return row.toString();
    }

    String targetOf(int k) {
        StringBuilder row = new StringBuilder();
        for (int i = 0; i < x.node(k, 8); i++) {
            row.append((char) x.target(k, i));
        }
        return row.toString();
    }

    /** The names of all nodes by a view, each behind its parent's number. */
    String tree(int view) {
        StringBuilder row = new StringBuilder();
        int nodes = x.mount(view);
        for (int k = 1; k < nodes; k++) {
            row.append(k == 1 ? "" : " ").append(x.node(k, 0)).append(':').append(nameOf(k));
        }
        return row.toString();
    }
}
