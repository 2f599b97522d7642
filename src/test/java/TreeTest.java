/** Promises 4 to 7: directory, file, link and own, and what they refuse. */
public final class TreeTest {
    private static final String LONGEST = "abcdefghijklmnopqrstuvwxyz0123";
    private static final int DIRECTORY = 0, FILE = 1, LINK = 2;

    public static void main(String[] args) {
        namesThatAreNames();
        namesThatAreNone();
        charactersOfNames();
        directoriesThatAreNone();
        numbersOfDirectories();
        numbersOfFiles();
        targetsOfLinks();
        charactersOfTargets();
        textsOfLinks();
        linksOfTooManyBytes();
        namesAreDifferentInADirectory();
        fortyNodes();
        twelveDirectories();
        sevenAbove();
        wrongBeforeNamed();
        wrongBeforeNamedBeforeFull();
        tooDeepIsNamedAndWrongFirst();
        own();
        refusedOwn();
        ownOfAnyNode();
        refusalsChangeNothing();
        refusalsLeaveTheFullTree();
        Check.finish();
    }

    private static int make(Disc d, int sort, int in, String name) {
        switch (sort) {
            case DIRECTORY: return d.directory(in, name);
            case FILE: return d.file(in, name, 0, 0);
            default: return d.link(in, name, "t");
        }
    }

    private static void namesThatAreNames() {
        String[] names = {"a", "Z", "0", "9", "-", "_", "+", "...", ".a", "a.", "..a"};
        for (int sort = 0; sort < 3; sort++) {
            Disc d = new Disc();
            for (int i = 0; i < names.length; i++) {
                Check.same("sort " + sort + ", " + names[i], make(d, sort, 0, names[i]), i + 1);
            }
            Disc e = new Disc();
            Check.same("30 characters", make(e, sort, 0, LONGEST), 1);
            Check.same("29 characters", make(e, sort, 0, LONGEST.substring(1)), 2);
            Check.same("30 times .", make(e, sort, 0, ".".repeat(30)), 3);
            Check.same("1 character", make(e, sort, 0, "a"), 4);
        }
    }

    private static void namesThatAreNone() {
        String[] names = {"", ".", "..", LONGEST + "4", ".".repeat(31), "a".repeat(100), "a b", "a/b", "a,b", "a@"};
        for (int sort = 0; sort < 3; sort++) {
            Disc d = new Disc();
            for (String name : names) {
                Check.same("sort " + sort + " [" + name + "]", make(d, sort, 0, name), DiscMaker.WRONG);
            }
        }
        Disc d = new Disc();
        Check.same("400 characters", d.file(0, "a".repeat(400), 0, 0), DiscMaker.WRONG);
        Check.same("a byte 0 behind it", d.file(0, "a\0", 0, 0), DiscMaker.WRONG);
        Check.same("a byte 0 behind it", d.directory(0, "a\0"), DiscMaker.WRONG);
    }

    private static boolean isNameCharacter(int c) {
        return c >= 'a' && c <= 'z' || c >= 'A' && c <= 'Z' || c >= '0' && c <= '9' || ".-_+".indexOf(c) >= 0;
    }

    private static void charactersOfNames() {
        for (int c = 0; c < 256; c++) {
            Disc d = new Disc();
            int due = isNameCharacter(c) ? 1 : DiscMaker.WRONG;
            Check.same("character " + c + " behind another", d.file(0, "a" + (char) c, 0, 0), due);
            d = new Disc();
            Check.same("character " + c + " ahead of another", d.directory(0, (char) c + "a"), due);
            d = new Disc();
            Check.same("character " + c + " alone", d.file(0, "" + (char) c, 0, 0), c == '.' ? DiscMaker.WRONG : due);
            if (c != 0) {
                d = new Disc();
                Check.same("character " + c + " in a link's", d.link(0, "ab" + (char) c, "t"), due);
            }
        }
    }

    private static void directoriesThatAreNone() {
        Disc d = new Disc();
        d.file(0, "f", 0, 0);
        d.link(0, "l", "t");
        for (int in : new int[] {-1, 1, 2, 3, 39, 40, 41, Integer.MIN_VALUE, Integer.MAX_VALUE}) {
            for (int sort = 0; sort < 3; sort++) {
                Check.same("sort " + sort + " in " + in, make(d, sort, in, "a"), DiscMaker.WRONG);
            }
        }
        Check.same("a directory", d.directory(0, "d"), 3);
        Check.same("now 3 is one", d.file(3, "a", 0, 0), 4);
        Check.same("4 is none", d.file(4, "a", 0, 0), DiscMaker.WRONG);
        Check.same("5 is none", d.directory(5, "a"), DiscMaker.WRONG);
    }

    private static void numbersOfDirectories() {
        Disc d = new Disc();
        for (int number : new int[] {-1, 1000001, Integer.MIN_VALUE, Integer.MAX_VALUE}) {
            Check.same("mode " + number, d.directory(0, "a", number, 0, 0), DiscMaker.WRONG);
            Check.same("owner " + number, d.directory(0, "a", 0, number, 0), DiscMaker.WRONG);
            Check.same("group " + number, d.directory(0, "a", 0, 0, number), DiscMaker.WRONG);
        }
        Check.same("the highest mode", d.directory(0, "a", 1000000, 0, 0), 1);
        Check.same("the highest owner", d.directory(0, "b", 0, 1000000, 0), 2);
        Check.same("the highest group", d.directory(0, "c", 0, 0, 1000000), 3);
        Check.same("the least of all", d.directory(0, "d", 0, 0, 0), 4);
        d.master();
        d.mount(2);
        ownership(d, 1, 16384 + 1000000 % 4096, 0, 0);
        ownership(d, 2, 16384, 1000000, 0);
        ownership(d, 3, 16384, 0, 1000000);
        ownership(d, 4, 16384, 0, 0);
    }

    private static void numbersOfFiles() {
        Disc d = new Disc();
        for (int number : new int[] {-1, 4101, Integer.MIN_VALUE, Integer.MAX_VALUE}) {
            Check.same("size " + number, d.file(0, "a", number, 0), DiscMaker.WRONG);
        }
        for (int number : new int[] {-1, 256, Integer.MIN_VALUE, Integer.MAX_VALUE}) {
            Check.same("seed " + number, d.file(0, "a", 0, number), DiscMaker.WRONG);
        }
        Check.same("the highest size", d.file(0, "a", 4100, 0), 1);
        Check.same("the highest seed", d.file(0, "b", 1, 255), 2);
        Check.same("the least of both", d.file(0, "c", 0, 0), 3);
        d.master();
        d.mount(1);
        Check.same("the highest size", d.node(1, 2), 4100);
        Check.same("its last byte", d.read(1, 4099), (4099 * 4099 + 16) % 256);
        Check.same("the highest seed", d.read(2, 0), 255);
        Check.same("the least size", d.node(3, 2), 0);
    }

    private static void targetsOfLinks() {
        Disc d = new Disc();
        String most = "t".repeat(200);
        for (String target : new String[] {"", most + "t", "t".repeat(398), "a b", "a\0b", "a\0", "\0a", " "}) {
            Check.same("target [" + target + "]", d.link(0, "a", target), DiscMaker.WRONG);
        }
        Check.same("200 characters", d.link(0, "a", most), 1);
        Check.same("1 character", d.link(0, "b", "t"), 2);
        Check.same("200 characters behind a name of 30", d.link(0, LONGEST, most), 3);
        Check.same("201 characters, the last one /", d.link(0, "c", most + "/"), DiscMaker.WRONG);
        Check.same("200 times /", d.link(0, "c", "/".repeat(200)), 4);
        Check.same("201 times /", d.link(0, "d", "/".repeat(201)), DiscMaker.WRONG);
    }

    private static void charactersOfTargets() {
        for (int c = 0; c < 256; c++) {
            Disc d = new Disc();
            int due = c >= 33 && c <= 126 ? 1 : DiscMaker.WRONG;
            Check.same("character " + c + " alone", d.link(0, "a", "" + (char) c), due);
            d = new Disc();
            Check.same("character " + c + " at the end", d.link(0, "a", "tt" + (char) c), due);
        }
    }

    private static void textsOfLinks() {
        Disc d = new Disc();
        Check.same("no text", d.link(0), DiscMaker.WRONG);
        for (String text : new String[] {"a", "\0", "\0t", "a\0", "\0\0", "/a\0t", "a\0\0t", "\0a\0t"}) {
            d.say(text);
            Check.same("text [" + text + "]", d.link(0), DiscMaker.WRONG);
        }
        d.say("a".repeat(400));
        Check.same("400 bytes without a byte 0", d.link(0), DiscMaker.WRONG);
        d.say("a\0" + "t".repeat(398));
        Check.same("400 bytes", d.link(0), DiscMaker.WRONG);
        d.say("a".repeat(399) + "\0");
        Check.same("a byte 0 at the end of 400", d.link(0), DiscMaker.WRONG);
        Check.yes("feed", d.feed(0x61007400, 0, 0, 0, 0));
        Check.same("bytes 0 behind the target", d.link(0), DiscMaker.WRONG);
        Check.yes("feed", d.feed(0x61007400, 0, 0, 0, 0));
        Check.yes("end", d.end(3));
        Check.same("a name, a byte 0, a target", d.link(0), 1);
    }

    private static void linksOfTooManyBytes() {
        Disc d = new Disc();
        // Each a/ is three bytes of the SL, which has five beside its components.
        String fits = "a/".repeat(81) + "/";
        Check.same("SL of 248 bytes", d.link(0, "a", fits), 1);
        Check.same("SL of 250 bytes", d.link(0, "b", fits + "."), 2);
        Check.same("SL of 250 bytes", d.link(0, "c", fits + ".."), 3);
        Check.same("SL of 251 bytes", d.link(0, "d", fits + "a"), DiscMaker.WRONG);
        Check.same("SL of 252 bytes", d.link(0, "d", fits + "./."), DiscMaker.WRONG);
        Check.same("SL of 250 bytes with the root's", d.link(0, "e", "/" + "a/".repeat(80) + "b"), 4);
        Check.same("SL of 251 bytes with the root's", d.link(0, "f", "/" + "a/".repeat(80) + "bc"), DiscMaker.WRONG);
        Check.same("SL of 305 bytes", d.link(0, "f", "a/".repeat(100)), DiscMaker.WRONG);
        Check.same("what is marked has two bytes", d.link(0, "f", "../".repeat(66)), 5);
        d.master();
        d.mounts("all of them", 2, 6);
        Check.same("the target of 250 bytes", d.targetOf(3), "a/".repeat(81) + "..");
        Check.same("its SL", d.byteAt(d.low(d.part(d.record(23, 4), "CE") + 4, 4) * Disc.SECTOR
            + d.low(d.part(d.record(23, 4), "CE") + 12, 4) + 2), 250);
    }

    private static void namesAreDifferentInADirectory() {
        for (int sort = 0; sort < 3; sort++) {
            Disc d = new Disc();
            Check.same("the first one", make(d, sort, 0, "a"), 1);
            for (int other = 0; other < 3; other++) {
                Check.same("sort " + other + " of that name", make(d, other, 0, "a"), DiscMaker.NAMED);
            }
            Check.same("a capital", d.file(0, "A", 0, 0), 2);
            Check.same("a longer name", d.file(0, "aa", 0, 0), 3);
            Check.same("one with a .", d.file(0, "a.", 0, 0), 4);
        }
        Disc d = new Disc();
        d.directory(0, "a");
        Check.same("in another directory", d.file(1, "a", 0, 0), 2);
        Check.same("there too", d.link(1, "a", "t"), DiscMaker.NAMED);
        d.directory(1, "b");
        Check.same("a name of the directory above", d.file(3, "a", 0, 0), 4);
        Check.same("30 characters", d.file(0, LONGEST, 0, 0), 5);
        Check.same("another last one", d.file(0, LONGEST.substring(0, 29) + "4", 0, 0), 6);
        Check.same("the same 30 characters", d.file(0, LONGEST, 0, 0), DiscMaker.NAMED);
    }

    private static void fortyNodes() {
        for (int sort = 1; sort < 3; sort++) {
            Disc d = new Disc();
            for (int n = 1; n < 40; n++) {
                Check.same("sort " + sort, make(d, sort, 0, "f" + n), n);
            }
            for (int other = 0; other < 3; other++) {
                Check.same("a 41st node", make(d, other, 0, "g"), DiscMaker.FULL);
            }
        }
        Disc d = new Disc();
        for (int n = 1; n < 39; n++) {
            d.file(0, "f" + n, 0, 0);
        }
        Check.same("a directory is the 40th", d.directory(0, "d"), 39);
        Check.same("a file in it", d.file(39, "g", 0, 0), DiscMaker.FULL);
    }

    private static void twelveDirectories() {
        Disc d = new Disc();
        for (int n = 1; n < 12; n++) {
            Check.same("directory", d.directory(n < 6 ? 0 : n - 5, "d" + n), n);
        }
        Check.same("a 13th directory", d.directory(0, "e"), DiscMaker.FULL);
        Check.same("a 13th directory elsewhere", d.directory(11, "e"), DiscMaker.FULL);
        Check.same("a named one", d.directory(0, "d1"), DiscMaker.NAMED);
        Check.same("a wrong one", d.directory(0, "e", 0, -1, 0), DiscMaker.WRONG);
        Check.same("a file", d.file(11, "e", 0, 0), 12);
        Check.same("a link", d.link(11, "f", "t"), 13);
        Check.same("still none", d.directory(0, "e"), DiscMaker.FULL);
        d.master();
        for (int view = 0; view < 3; view++) {
            d.mounts("twelve directories", view, view == 1 ? 13 : 14);
        }
    }

    private static void sevenAbove() {
        Disc d = new Disc();
        for (int n = 1; n < 8; n++) {
            Check.same("directory", d.directory(n - 1, "d"), n);
        }
        Check.same("one in eight others", d.directory(7, "d"), DiscMaker.FULL);
        Check.same("a file there", d.file(7, "f", 1, 0), 8);
        Check.same("a link there", d.link(7, "l", "t"), 9);
        Check.same("one in seven", d.directory(6, "e"), 10);
        Check.same("one in that", d.directory(10, "e"), DiscMaker.FULL);
        d.master();
        d.mounts("the deepest tree", 0, 11);
        d.mounts("the deepest tree", 1, 10);
        d.mounts("the deepest tree", 2, 11);
    }

    private static void wrongBeforeNamed() {
        Disc d = new Disc();
        d.directory(0, "a");
        Check.same("named and a mode too high", d.directory(0, "a", 1000001, 0, 0), DiscMaker.WRONG);
        Check.same("named and an owner below 0", d.directory(0, "a", 0, -1, 0), DiscMaker.WRONG);
        Check.same("named and a size too high", d.file(0, "a", 4101, 0), DiscMaker.WRONG);
        Check.same("named and a seed too high", d.file(0, "a", 0, 256), DiscMaker.WRONG);
        Check.same("named and no target", d.link(0, "a", ""), DiscMaker.WRONG);
        Check.same("named and a target too long", d.link(0, "a", "t".repeat(201)), DiscMaker.WRONG);
        Check.same("named and an SL too long", d.link(0, "a", "a/".repeat(100)), DiscMaker.WRONG);
        Check.same("named alone", d.link(0, "a", "t"), DiscMaker.NAMED);
    }

    private static void wrongBeforeNamedBeforeFull() {
        Disc d = new Disc();
        d.directory(0, "d0");
        for (int n = 2; n < 40; n++) {
            d.file(0, "f" + n, 0, 0);
        }
        for (int sort = 0; sort < 3; sort++) {
            Check.same("named and full", make(d, sort, 0, "f2"), DiscMaker.NAMED);
            Check.same("full", make(d, sort, 0, "g"), DiscMaker.FULL);
            Check.same("full, in another directory", make(d, sort, 1, "f2"), DiscMaker.FULL);
            Check.same("full and no directory", make(d, sort, 2, "g"), DiscMaker.WRONG);
            Check.same("full and no name", make(d, sort, 0, "g g"), DiscMaker.WRONG);
        }
        Check.same("named, full and wrong", d.file(0, "f2", 4101, 0), DiscMaker.WRONG);
        Check.same("named, full and wrong", d.directory(0, "f2", -1, 0, 0), DiscMaker.WRONG);
        Check.same("named, full and wrong", d.link(0, "f2", ""), DiscMaker.WRONG);
        Check.same("full and wrong", d.file(0, "g", 0, -1), DiscMaker.WRONG);
        Check.same("full and wrong", d.link(0, "g", "a/".repeat(100)), DiscMaker.WRONG);
    }

    private static void tooDeepIsNamedAndWrongFirst() {
        Disc d = new Disc();
        for (int n = 1; n < 8; n++) {
            d.directory(n - 1, "d");
        }
        d.file(7, "f", 0, 0);
        Check.same("too deep", d.directory(7, "e"), DiscMaker.FULL);
        Check.same("too deep and named", d.directory(7, "f"), DiscMaker.NAMED);
        Check.same("too deep and wrong", d.directory(7, "e", 0, 0, -1), DiscMaker.WRONG);
        Check.same("too deep, named and wrong", d.directory(7, "f", 0, 0, -1), DiscMaker.WRONG);
    }

    private static void ownership(Disc d, int k, int mode, int owner, int group) {
        Check.same("mode of " + k, d.node(k, 4), mode);
        Check.same("owner of " + k, d.node(k, 5), owner);
        Check.same("group of " + k, d.node(k, 6), group);
    }

    private static void made(Disc d) {
        d.master();
        d.mount(2);
    }

    private static Disc threeNodes() {
        Disc d = new Disc();
        d.file(0, "f", 0, 0);
        d.link(0, "l", "t");
        d.directory(0, "m", 448, 8, 9);
        return d;
    }

    private static void own() {
        Disc d = threeNodes();
        made(d);
        ownership(d, 0, 16877, 0, 0);
        ownership(d, 1, 32768 + 420, 0, 0);
        ownership(d, 2, 40960 + 511, 0, 0);
        ownership(d, 3, 16384 + 448, 8, 9);
        Check.yes("own the file", d.own(1, 1000000, 1000000, 1000000));
        Check.yes("own the link", d.own(2, 4095, 1, 2));
        Check.yes("own the root", d.own(0, 0, 3, 4));
        Check.yes("own the directory", d.own(3, 4096, 5, 6));
        ownership(d, 1, 32768 + 420, 0, 0);
        d.mount(2);
        ownership(d, 1, 32768 + 420, 0, 0);
        made(d);
        ownership(d, 1, 32768 + 1000000 % 4096, 1000000, 1000000);
        ownership(d, 2, 40960 + 4095, 1, 2);
        ownership(d, 0, 16384, 3, 4);
        ownership(d, 3, 16384, 5, 6);
        Check.yes("own it again", d.own(1, 0, 0, 0));
        made(d);
        ownership(d, 1, 32768, 0, 0);
    }

    private static void refusedOwn() {
        Disc d = threeNodes();
        for (int number : new int[] {-1, 1000001, Integer.MIN_VALUE, Integer.MAX_VALUE}) {
            for (int node = 0; node < 4; node++) {
                Check.no("mode " + number, d.own(node, number, 5, 5));
                Check.no("owner " + number, d.own(node, 5, number, 5));
                Check.no("group " + number, d.own(node, 5, 5, number));
            }
            Check.no("node " + number, d.own(number, 5, 5, 5));
        }
        Check.no("node 4", d.own(4, 5, 5, 5));
        Check.no("node 39", d.own(39, 5, 5, 5));
        Check.no("node 40", d.own(40, 5, 5, 5));
        made(d);
        ownership(d, 0, 16877, 0, 0);
        ownership(d, 1, 32768 + 420, 0, 0);
        ownership(d, 2, 40960 + 511, 0, 0);
        ownership(d, 3, 16384 + 448, 8, 9);
    }

    private static void ownOfAnyNode() {
        Disc d = new Disc();
        for (int n = 1; n < 40; n++) {
            Check.no("not yet node " + n, d.own(n, 1, 1, 1));
            d.file(0, "f" + n / 10 + n % 10, 0, 0);
        }
        Check.yes("the last node", d.own(39, 1, 2, 3));
        Check.no("the node behind it", d.own(40, 1, 2, 3));
        made(d);
        ownership(d, 39, 32768 + 1, 2, 3);
        ownership(d, 38, 32768 + 420, 0, 0);
    }

    private static void refusalsChangeNothing() {
        Disc d = new Disc();
        d.file(0, "a", 0, 0);
        d.file(0, "a", 7, 7);
        d.link(0, "a", "t");
        d.file(0, "b", 5000, 0);
        d.link(0, "c", "");
        d.directory(4, "e");
        Check.same("the next number", d.file(0, "z", 0, 0), 2);
        d.master();
        Check.same("the tree", d.tree(2), "0:a 0:z");
        Check.same("the first one's size", d.node(1, 2), 0);
        Check.same("the first one's sort", d.node(1, 1), 1);
    }

    private static void refusalsLeaveTheFullTree() {
        Disc d = new Disc();
        for (int n = 1; n < 40; n++) {
            d.file(0, "f" + n / 10 + n % 10, 0, 0);
        }
        for (int sort = 0; sort < 3; sort++) {
            make(d, sort, 0, "g");
            make(d, sort, 0, "f39");
        }
        d.master();
        for (int view = 0; view < 3; view++) {
            d.mounts("forty nodes", view, 40);
        }
        Check.same("the last one", d.nameOf(39), "f39");
        Check.same("its sort", d.node(39, 1), 1);
    }
}
