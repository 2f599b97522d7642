/** Promises 4 to 7: directory, file, link and own, and what they refuse. */
public final class TreeTest {
    private static final String LONGEST = "abcdefghijklmnopqrstuvwxyz0123";

    public static void main(String[] args) {
        namesThatAreNames();
        namesThatAreNone();
        directoriesThatAreNone();
        numbersOutOfBounds();
        targets();
        namesAreDifferentInADirectory();
        fortyNodes();
        twelveDirectories();
        sevenAbove();
        wrongBeforeNamedBeforeFull();
        own();
        refusalsChangeNothing();
        Check.finish();
    }

    private static void namesThatAreNames() {
        Disc d = new Disc();
        String[] names = {"a", "Z", "0", "9", "-", "_", "+", "...", ".a", "a.", "..a", LONGEST, "a.b-c_d+E"};
        for (int i = 0; i < names.length; i++) {
            Check.same("file " + names[i], d.file(0, names[i], 0, 0), i + 1);
        }
    }

    private static void namesThatAreNone() {
        Disc d = new Disc();
        String[] names = {"", ".", "..", LONGEST + "4", "a b", "a/b", "a,b", "a\0", "\0", "a@", "a[", "a`", "a{", "a:",
            "\u00e4", "a\u007f", "\u00ff"};
        for (String name : names) {
            Check.same("directory [" + name + "]", d.directory(0, name), DiscMaker.WRONG);
            Check.same("file [" + name + "]", d.file(0, name, 0, 0), DiscMaker.WRONG);
        }
        for (String name : new String[] {"", ".", "..", LONGEST + "4", "a b"}) {
            Check.same("link [" + name + "]", d.link(0, name, "t"), DiscMaker.WRONG);
        }
    }

    private static void directoriesThatAreNone() {
        Disc d = new Disc();
        d.file(0, "f", 0, 0);
        d.link(0, "l", "t");
        for (int in : new int[] {-1, 1, 2, 3, 40, Integer.MIN_VALUE, Integer.MAX_VALUE}) {
            Check.same("directory in " + in, d.directory(in, "a"), DiscMaker.WRONG);
            Check.same("file in " + in, d.file(in, "a", 0, 0), DiscMaker.WRONG);
            Check.same("link in " + in, d.link(in, "a", "t"), DiscMaker.WRONG);
        }
    }

    private static void numbersOutOfBounds() {
        Disc d = new Disc();
        for (int number : new int[] {-1, 1000001, Integer.MIN_VALUE, Integer.MAX_VALUE}) {
            Check.same("mode " + number, d.directory(0, "a", number, 0, 0), DiscMaker.WRONG);
            Check.same("owner " + number, d.directory(0, "a", 0, number, 0), DiscMaker.WRONG);
            Check.same("group " + number, d.directory(0, "a", 0, 0, number), DiscMaker.WRONG);
        }
        for (int number : new int[] {-1, 4101, Integer.MIN_VALUE, Integer.MAX_VALUE}) {
            Check.same("size " + number, d.file(0, "a", number, 0), DiscMaker.WRONG);
        }
        for (int number : new int[] {-1, 256, Integer.MIN_VALUE, Integer.MAX_VALUE}) {
            Check.same("seed " + number, d.file(0, "a", 0, number), DiscMaker.WRONG);
        }
        Check.same("the most of a directory", d.directory(0, "a", 1000000, 1000000, 1000000), 1);
        Check.same("the least of a directory", d.directory(0, "b", 0, 0, 0), 2);
        Check.same("the most of a file", d.file(0, "c", 4100, 255), 3);
        Check.same("the least of a file", d.file(0, "d", 0, 0), 4);
    }

    private static void targets() {
        Disc d = new Disc();
        String most = "t".repeat(200);
        for (String target : new String[] {"", most + "t", "a b", "a\0b", "a\u007f", "\u00e4", " "}) {
            Check.same("target [" + target + "]", d.link(0, "a", target), DiscMaker.WRONG);
        }
        d.say("a");
        Check.same("no byte 0", d.x.link(0), DiscMaker.WRONG);
        // Each a/ is three bytes of the SL, which has five beside its components.
        String fits = "a/".repeat(81) + "/";
        Check.same("SL of 248 bytes", d.link(0, "a", fits), 1);
        Check.same("SL of 250 bytes", d.link(0, "b", fits + "."), 2);
        Check.same("SL of 251 bytes", d.link(0, "c", fits + "a"), DiscMaker.WRONG);
        Check.same("200 characters", d.link(0, "c", most), 3);
        Check.same("all / is one component", d.link(0, "d", "/".repeat(200)), 4);
        Check.same("! and ~", d.link(0, "e", "!~"), 5);
        Check.same("SL of 250 bytes with the root's", d.link(0, "f", "/" + "a/".repeat(80) + "b"), 6);
        Check.same("SL of 251 bytes with the root's", d.link(0, "g", "/" + "a/".repeat(80) + "bc"), DiscMaker.WRONG);
    }

    private static void namesAreDifferentInADirectory() {
        Disc d = new Disc();
        Check.same("a directory", d.directory(0, "a"), 1);
        Check.same("a directory of that name", d.directory(0, "a"), DiscMaker.NAMED);
        Check.same("a file of that name", d.file(0, "a", 0, 0), DiscMaker.NAMED);
        Check.same("a link of that name", d.link(0, "a", "t"), DiscMaker.NAMED);
        Check.same("a capital", d.file(0, "A", 0, 0), 2);
        Check.same("a longer name", d.file(0, "aa", 0, 0), 3);
        Check.same("in another directory", d.file(1, "a", 0, 0), 4);
        Check.same("there too", d.link(1, "a", "t"), DiscMaker.NAMED);
    }

    private static void fortyNodes() {
        Disc d = new Disc();
        for (int n = 1; n < 40; n++) {
            Check.same("file", d.file(0, "f" + n, 0, 0), n);
        }
        Check.same("a 41st file", d.file(0, "g", 0, 0), DiscMaker.FULL);
        Check.same("a 41st link", d.link(0, "g", "t"), DiscMaker.FULL);
        Check.same("a 41st directory", d.directory(0, "g"), DiscMaker.FULL);
    }

    private static void twelveDirectories() {
        Disc d = new Disc();
        for (int n = 1; n < 12; n++) {
            Check.same("directory", d.directory(0, "d" + n), n);
        }
        Check.same("a 13th directory", d.directory(0, "e"), DiscMaker.FULL);
        Check.same("a file", d.file(11, "e", 0, 0), 12);
        Check.same("a link", d.link(11, "f", "t"), 13);
    }

    private static void sevenAbove() {
        Disc d = new Disc();
        for (int n = 1; n < 8; n++) {
            Check.same("directory", d.directory(n - 1, "d"), n);
        }
        Check.same("one in eight others", d.directory(7, "d"), DiscMaker.FULL);
        Check.same("a file there", d.file(7, "f", 1, 0), 8);
        Check.same("a link there", d.link(7, "l", "t"), 9);
        Check.same("one in seven", d.directory(6, "e"), 10);
        d.x.master();
        d.mounts("the deepest tree", 0, 11);
        d.mounts("the deepest tree", 1, 10);
        d.mounts("the deepest tree", 2, 11);
    }

    private static void wrongBeforeNamedBeforeFull() {
        Disc d = new Disc();
        d.directory(0, "d0");
        for (int n = 2; n < 40; n++) {
            d.file(0, "f" + n, 0, 0);
        }
        Check.same("named and full", d.file(0, "f2", 0, 0), DiscMaker.NAMED);
        Check.same("named, full and wrong", d.file(0, "f2", 4101, 0), DiscMaker.WRONG);
        Check.same("named, full and wrong", d.directory(0, "f2", -1, 0, 0), DiscMaker.WRONG);
        Check.same("named, full and wrong", d.link(0, "f2", ""), DiscMaker.WRONG);
        Check.same("named and full", d.link(0, "f2", "t"), DiscMaker.NAMED);
        Check.same("named and full", d.directory(0, "f2"), DiscMaker.NAMED);
        Check.same("full", d.link(0, "g", "t"), DiscMaker.FULL);
        Check.same("full and wrong", d.file(2, "g", 0, 0), DiscMaker.WRONG);
    }

    private static void own() {
        Disc d = new Disc();
        d.file(0, "f", 0, 0);
        d.link(0, "l", "t");
        for (int number : new int[] {-1, 1000001, Integer.MIN_VALUE, Integer.MAX_VALUE}) {
            Check.no("mode " + number, d.x.own(1, number, 5, 5));
            Check.no("owner " + number, d.x.own(1, 5, number, 5));
            Check.no("group " + number, d.x.own(1, 5, 5, number));
            Check.no("node " + number, d.x.own(number, 5, 5, 5));
        }
        Check.no("node 3", d.x.own(3, 5, 5, 5));
        ownership(d, 1, 32768 + 420, 0, 0);
        ownership(d, 2, 40960 + 511, 0, 0);
        Check.yes("own the file", d.x.own(1, 1000000, 1000000, 999999));
        Check.yes("own the link", d.x.own(2, 4095, 1, 2));
        Check.yes("own the root", d.x.own(0, 0, 3, 4));
        ownership(d, 1, 32768 + 1000000 % 4096, 1000000, 999999);
        ownership(d, 2, 40960 + 4095, 1, 2);
        ownership(d, 0, 16384, 3, 4);
    }

    private static void ownership(Disc d, int k, int mode, int owner, int group) {
        d.x.master();
        d.x.mount(2);
        Check.same("mode of " + k, d.x.node(k, 4), mode);
        Check.same("owner of " + k, d.x.node(k, 5), owner);
        Check.same("group of " + k, d.x.node(k, 6), group);
    }

    private static void refusalsChangeNothing() {
        Disc d = new Disc();
        d.file(0, "a", 0, 0);
        d.file(0, "a", 0, 0);
        d.file(0, "b", 5000, 0);
        d.link(0, "c", "");
        d.directory(4, "e");
        Check.same("the next number", d.file(0, "z", 0, 0), 2);
        d.x.master();
        Check.same("the tree", d.tree(1), "0:a 0:z");
    }
}
