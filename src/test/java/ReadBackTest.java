/** Promises 14 to 17: node, name, target and read. */
public final class ReadBackTest {
    private static final int SECTOR = Disc.SECTOR;

    public static void main(String[] args) {
        numbers();
        numbersThatAreNone();
        names();
        targets();
        contents();
        contentsOfNoFile();
        contentsAsTheImageHasThemNow();
        nothingIsReadBehindAFault();
        everyTargetComesBack();
        Check.finish();
    }

    private static Disc sample() {
        Disc d = new Disc();
        d.directory(0, "Bin.d", 448, 11, 12);
        d.file(1, "Inner.file", 3000, 5);
        d.file(0, "Alpha.text", 10, 6);
        d.link(0, "zlink", "/usr/../x");
        d.own(3, 256, 21, 22);
        d.own(0, 7, 31, 32);
        d.master();
        return d;
    }

    private static void node(Disc d, int k, int... due) {
        for (int what = 0; what < due.length; what++) {
            Check.same("node(" + k + ", " + what + ")", d.node(k, what), due[what]);
        }
    }

    private static void numbers() {
        Disc d = sample();
        d.mount(0);
        node(d, 0, DiscMaker.NONE, 0, 2048, 23, 0, 0, 0, 0, 0);
        node(d, 1, 0, 1, 10, 29, 0, 0, 0, 9, 0);
        node(d, 2, 0, 0, 2048, 24, 0, 0, 0, 5, 0);
        node(d, 3, 0, 1, 0, 0, 0, 0, 0, 5, 0);
        node(d, 4, 2, 1, 3000, 27, 0, 0, 0, 9, 0);
        d.mount(1);
        node(d, 0, DiscMaker.NONE, 0, 2048, 25, 0, 0, 0, 0, 0);
        node(d, 1, 0, 1, 10, 29, 0, 0, 0, 10, 0);
        node(d, 2, 0, 0, 2048, 26, 0, 0, 0, 5, 0);
        node(d, 3, 2, 1, 3000, 27, 0, 0, 0, 10, 0);
        d.mount(2);
        node(d, 0, DiscMaker.NONE, 0, 2048, 23, 16384 + 7, 31, 32, 0, 0);
        node(d, 1, 0, 1, 10, 29, 32768 + 256, 21, 22, 10, 0);
        node(d, 2, 0, 0, 2048, 24, 16384 + 448, 11, 12, 5, 0);
        node(d, 3, 0, 2, 0, 0, 40960 + 511, 0, 0, 5, 9);
        node(d, 4, 2, 1, 3000, 27, 32768 + 420, 0, 0, 10, 0);
        d.mount(0);
        node(d, 0, DiscMaker.NONE, 0, 2048, 23, 0, 0, 0, 0, 0);
        node(d, 3, 0, 1, 0, 0, 0, 0, 0, 5, 0);
    }

    private static void numbersThatAreNone() {
        Disc d = sample();
        d.mount(1);
        for (int k : new int[] {-1, 4, 99, Integer.MIN_VALUE, Integer.MAX_VALUE}) {
            Check.noSuch("node(" + k + ", 0)", () -> d.node(k, 0));
            Check.noSuch("name(" + k + ", 0)", () -> d.name(k, 0));
            Check.noSuch("target(" + k + ", 0)", () -> d.target(k, 0));
            Check.noSuch("read(" + k + ", 0)", () -> d.read(k, 0));
        }
        for (int what : new int[] {-1, 9, Integer.MIN_VALUE, Integer.MAX_VALUE}) {
            Check.noSuch("node(0, " + what + ")", () -> d.node(0, what));
        }
    }

    private static void names() {
        Disc d = sample();
        d.mount(2);
        Check.same("a name", d.nameOf(1), "Alpha.text");
        Check.same("a name", d.nameOf(4), "Inner.file");
        for (int i : new int[] {-1, 10, Integer.MIN_VALUE, Integer.MAX_VALUE}) {
            Check.noSuch("name(1, " + i + ")", () -> d.name(1, i));
        }
        Check.noSuch("the root has none", () -> d.name(0, 0));
        Check.same("the last character", d.name(1, 9), 't');
    }

    private static void targets() {
        Disc d = sample();
        d.mount(2);
        Check.same("a target", d.targetOf(3), "/usr/../x");
        for (int i : new int[] {-1, 9, Integer.MIN_VALUE, Integer.MAX_VALUE}) {
            Check.noSuch("target(3, " + i + ")", () -> d.target(3, i));
        }
        Check.noSuch("a file has none", () -> d.target(1, 0));
        Check.noSuch("the root has none", () -> d.target(0, 0));
        d.mount(0);
        Check.noSuch("by view 0 a link has none", () -> d.target(3, 0));
        Disc e = new Disc();
        e.link(0, "a", "/");
        e.file(0, "b", 0, 0);
        e.link(0, "c", "x");
        e.master();
        e.mount(2);
        Check.same("the target /", e.targetOf(1), "/");
        Check.same("a file behind it has none", e.node(2, 8), 0);
        Check.noSuch("a file behind it has none", () -> e.target(2, 0));
        Check.same("a link behind it", e.targetOf(3), "x");
    }

    private static void contents() {
        Disc d = sample();
        for (int view = 0; view < 3; view++) {
            d.mount(view);
            int inner = view == 1 ? 3 : 4;
            for (int i = 0; i < 3000; i++) {
                Check.same("byte " + i, d.read(inner, i), (5 + i * i + i / 256) % 256);
            }
            Check.same("the last byte of another", d.read(1, 9), (6 + 81) % 256);
            for (int i : new int[] {-1, 3000, Integer.MIN_VALUE, Integer.MAX_VALUE}) {
                Check.noSuch("read(" + inner + ", " + i + ")", () -> d.read(inner, i));
            }
        }
    }

    private static void contentsOfNoFile() {
        Disc d = sample();
        d.mount(2);
        Check.noSuch("the root", () -> d.read(0, 0));
        Check.noSuch("a directory", () -> d.read(2, 0));
        Check.noSuch("a link", () -> d.read(3, 0));
        int link = d.record(23, 4);
        d.writeBoth(link + 10, 4, 5);
        d.mount(2);
        Check.noSuch("a link of size 5", () -> d.read(3, 0));
        d.mount(0);
        Check.same("by view 0 it is a file", d.read(3, 0), 0);
        Check.noSuch("by view 0 it is a file", () -> d.read(3, 5));
    }

    private static void contentsAsTheImageHasThemNow() {
        Disc d = sample();
        d.mount(0);
        d.poke(27 * SECTOR + 2, 77);
        Check.same("what was poked", d.read(4, 2), 77);
        d.cut(28);
        Check.same("ahead of the cut", d.read(4, 2047), (5 + 2047 * 2047 + 7) % 256);
        Check.same("behind the cut", d.read(4, 2048), 0);
        Check.same("behind the cut", d.read(4, 2999), 0);
        Check.noSuch("behind the file", () -> d.read(4, 3000));
        d.cut(0);
        Check.same("all is cut off", d.read(4, 0), 0);
        Check.same("what was read stays", d.nameOf(4), "INNER.FIL");
        d.file(0, "zz", 4100, 9);
        d.master();
        Check.same("another image", d.read(4, 0), 5);
    }

    private static void nothingIsReadBehindAFault() {
        Disc d = sample();
        d.mount(0);
        int before = d.poke(24 * SECTOR, 1);
        Check.same("mount", d.mount(0), -1 - 24 * SECTOR);
        Check.noSuch("node", () -> d.node(0, 0));
        Check.noSuch("name", () -> d.name(1, 0));
        Check.noSuch("target", () -> d.target(3, 0));
        Check.noSuch("read", () -> d.read(1, 0));
        d.poke(24 * SECTOR, before);
        d.mounts("mended", 0, 5);
        Check.same("mended", d.nameOf(1), "ALPHA.TEX");
    }

    private static void everyTargetComesBack() {
        String[] given = {"/", "//", ".", "..", "/.", "./", "a", "a/", "//a", "a//b", "../a/./b", "...", "/..", "!~;#",
            "a/".repeat(81), "/" + "t".repeat(199)};
        String[] due = {"/", "/", ".", "..", "/.", ".", "a", "a", "/a", "a/b", "../a/./b", "...", "/..", "!~;#",
            "a/".repeat(80) + "a", "/" + "t".repeat(199)};
        Disc d = new Disc();
        for (int i = 0; i < given.length; i++) {
            d.link(0, "l" + (char) ('a' + i), given[i]);
        }
        d.master();
        d.mounts("links", 2, given.length + 1);
        for (int i = 0; i < given.length; i++) {
            Check.same("target " + given[i], d.targetOf(i + 1), due[i]);
        }
    }
}
