/** Promise 8: the image that the tree becomes, byte for byte where the document says one. */
public final class MasterTest {
    private static final int SECTOR = Disc.SECTOR;

    public static void main(String[] args) {
        descriptors();
        pathTables();
        recordsOfTheFirstTree();
        recordsOfTheSecondTree();
        identifiers();
        identifiersThatMeet();
        orders();
        ownership();
        namesAndTargets();
        continuation();
        partsThatJustFit();
        continuationOverSectors();
        directoriesOfSeveralSectors();
        sectorsThatAreJustFull();
        contents();
        inPlaceOfTheOneBefore();
        Check.finish();
    }

    private static void descriptors() {
        Disc d = new Disc();
        d.directory(0, "sub");
        d.file(0, "f", 1, 65);
        int total = d.x.master();
        Check.same("sectors", total, 28);
        d.filled("sectors 0 to 15", 0, 16 * SECTOR - 1, 0);
        descriptor(d, Disc.FIRST, 1, 19, 23, total);
        d.bytes("first descriptor, 88", Disc.FIRST + 88, 0, 0, 0);
        d.both("first path table's bytes", Disc.FIRST + 132, 4, 10 + 12);
        descriptor(d, Disc.SECOND, 2, 21, 25, total);
        Check.same("second descriptor, 88", d.text(Disc.SECOND + 88, 3), "%/E");
        d.both("second path table's bytes", Disc.SECOND + 132, 4, 10 + 14);
        d.bytes("the end", Disc.LAST, 255, 'C', 'D', '0', '0', '1', 1);
        d.filled("the end's rest", Disc.LAST + 7, Disc.LAST + SECTOR - 1, 0);
    }

    private static void descriptor(Disc d, int at, int sort, int table, int root, int total) {
        d.bytes("descriptor", at, sort, 'C', 'D', '0', '0', '1', 1, 0);
        d.filled("8 .. 71", at + 8, at + 71, ' ');
        d.filled("72 .. 79", at + 72, at + 79, 0);
        d.both("sectors of the image", at + 80, 4, total);
        d.filled("91 .. 119", at + 91, at + 119, 0);
        d.both("120", at + 120, 2, 1);
        d.both("124", at + 124, 2, 1);
        d.both("block size", at + 128, 2, 2048);
        Check.same("L table", d.low(at + 140, 4), table);
        d.filled("144 .. 147", at + 144, at + 147, 0);
        Check.same("M table", d.high(at + 148, 4), table + 1);
        d.filled("152 .. 155", at + 152, at + 155, 0);
        Check.same("root's record, its bytes", d.x.byteAt(at + 156), 34);
        record(d, at + 156, root, 2048, 2, "\0");
        d.filled("190 .. 812", at + 190, at + 812, ' ');
        for (int i = 0; i < 4; i++) {
            d.filled("digits", at + 813 + 17 * i, at + 828 + 17 * i, '0');
            Check.same("behind the digits", d.x.byteAt(at + 829 + 17 * i), 0);
        }
        Check.same("881", d.x.byteAt(at + 881), 1);
        d.filled("the rest", at + 882, at + SECTOR - 1, 0);
    }

    /** All of a record but its bytes and its system use. */
    private static void record(Disc d, int at, int sector, int size, int mark, String identifier) {
        Check.same("1", d.x.byteAt(at + 1), 0);
        d.both("sector", at + 2, 4, sector);
        d.both("size", at + 10, 4, size);
        d.bytes("18 .. 27", at + 18, 100, 1, 1, 0, 0, 0, 0, mark, 0, 0);
        d.both("28", at + 28, 2, 1);
        Check.same("identifier", d.identifier(at), identifier);
        if (identifier.length() % 2 == 0) {
            Check.same("the byte that makes it even", d.x.byteAt(at + 33 + identifier.length()), 0);
        }
    }

    private static void pathTables() {
        Disc d = new Disc();
        int b = d.directory(0, "bb");
        int a = d.directory(0, "a");
        d.directory(b, "x");
        d.directory(a, "y");
        d.directory(b, "c");
        d.file(a, "file", 0, 0);
        Check.same("sectors", d.x.master(), 35);
        table(d, 19, new String[] {"\0", "A", "BB", "Y", "C", "X"}, new int[] {1, 1, 1, 2, 3, 3}, 23);
        table(d, 21, new String[] {"\0", "\0a", "\0b\0b", "\0y", "\0c", "\0x"}, new int[] {1, 1, 1, 2, 3, 3}, 29);
        d.both("bytes of the first", Disc.FIRST + 132, 4, 60);
        d.both("bytes of the second", Disc.SECOND + 132, 4, 62);
    }

    private static void table(Disc d, int sector, String[] identifiers, int[] parents, int first) {
        int at = 0;
        for (int i = 0; i < identifiers.length; i++) {
            for (int table = sector; table <= sector + 1; table++) {
                int entry = table * SECTOR + at;
                Check.same("its length", d.x.byteAt(entry), identifiers[i].length());
                Check.same("a byte 0", d.x.byteAt(entry + 1), 0);
                Check.same("identifier", d.text(entry + 8, identifiers[i].length()), identifiers[i]);
            }
            Check.same("sector in L", d.low(sector * SECTOR + at + 2, 4), first + i);
            Check.same("sector in M", d.high((sector + 1) * SECTOR + at + 2, 4), first + i);
            Check.same("parent in L", d.low(sector * SECTOR + at + 6, 2), parents[i]);
            Check.same("parent in M", d.high((sector + 1) * SECTOR + at + 6, 2), parents[i]);
            at += 8 + identifiers[i].length() + identifiers[i].length() % 2;
        }
        d.filled("L's rest", sector * SECTOR + at, (sector + 1) * SECTOR - 1, 0);
        d.filled("M's rest", (sector + 1) * SECTOR + at, (sector + 2) * SECTOR - 1, 0);
    }

    private static void recordsOfTheFirstTree() {
        Disc d = new Disc();
        int sub = d.directory(0, "sub");
        d.file(sub, "file.txt", 2049, 1);
        d.file(0, "none", 0, 9);
        d.link(0, "link", "t");
        Check.same("sectors", d.x.master(), 29);
        int at = 23 * SECTOR;
        Check.same("root's record of itself", d.x.byteAt(at), 34 + 7 + 36 + 1);
        record(d, at, 23, 2048, 2, "\0");
        Check.same("its parts", d.parts(at), "SPPX");
        d.bytes("SP", at + 34, 'S', 'P', 7, 1, 190, 239, 0);
        Check.same("the byte that makes it even", d.x.byteAt(at + 77), 0);
        at += 78;
        Check.same("root's record of its parent", d.x.byteAt(at), 34 + 36);
        record(d, at, 23, 2048, 2, "\1");
        Check.same("its parts", d.parts(at), "PX");
        at += 70;
        Check.same("record of the link", d.x.byteAt(at), 40 + 36 + 9 + 8 + 1);
        record(d, at, 0, 0, 0, "LINK.;1");
        Check.same("its parts", d.parts(at), "PXNMSL");
        at += 94;
        Check.same("record of the empty file", d.x.byteAt(at), 40 + 36 + 9 + 1);
        record(d, at, 0, 0, 0, "NONE.;1");
        Check.same("its parts", d.parts(at), "PXNM");
        at += 86;
        Check.same("record of the directory", d.x.byteAt(at), 36 + 36 + 8);
        record(d, at, 24, 2048, 2, "SUB");
        Check.same("its parts", d.parts(at), "PXNM");
        d.filled("the root's rest", at + 80, 24 * SECTOR - 1, 0);
        at = 24 * SECTOR;
        Check.same("sub's record of itself", d.x.byteAt(at), 70);
        record(d, at, 24, 2048, 2, "\0");
        record(d, at + 70, 23, 2048, 2, "\1");
        record(d, at + 140, 27, 2049, 0, "FILE.TXT;1");
        Check.same("record of the file", d.x.byteAt(at + 140), 44 + 36 + 13 + 1);
    }

    private static void recordsOfTheSecondTree() {
        Disc d = new Disc();
        int sub = d.directory(0, "sub");
        d.file(sub, "file.txt", 2049, 1);
        d.file(0, "none", 0, 9);
        d.link(0, "link", "t");
        d.x.master();
        int at = 25 * SECTOR;
        Check.same("root's record of itself", d.x.byteAt(at), 34);
        record(d, at, 25, 2048, 2, "\0");
        Check.same("root's record of its parent", d.x.byteAt(at + 34), 34);
        record(d, at + 34, 25, 2048, 2, "\1");
        Check.same("record of the empty file", d.x.byteAt(at + 68), 42);
        record(d, at + 68, 0, 0, 0, "\0n\0o\0n\0e");
        Check.same("record of the directory", d.x.byteAt(at + 110), 40);
        record(d, at + 110, 26, 2048, 2, "\0s\0u\0b");
        d.filled("no link", at + 150, 26 * SECTOR - 1, 0);
        record(d, 26 * SECTOR + 34, 25, 2048, 2, "\1");
        record(d, 26 * SECTOR + 68, 27, 2049, 0, "\0f\0i\0l\0e\0.\0t\0x\0t");
    }

    private static void identifiers() {
        String[] names = {"a", "readme.text", "LongFileName.c", "a.b.c", ".profile", "..x", "x-y+z_0.t-t", "...", "end.",
            "abcdefgh.ijk", "abcdefghi.ijkl"};
        String[] due = {"A.;1", "README.TEX;1", "LONGFILE.C;1", "A_B.C;1", "_PROFILE.;1", "_.X;1", "X_Y_Z_0.T_T;1", "__.;1",
            "END.;1", "ABCDEFGH.IJK;1", "ABCDEFGH.IJK;1"};
        for (int i = 0; i < names.length; i++) {
            Disc d = new Disc();
            d.file(0, names[i], 0, 0);
            d.x.master();
            Check.same("file " + names[i], d.identifiers(23, 1), due[i]);
            Disc e = new Disc();
            e.link(0, names[i], "t");
            e.x.master();
            Check.same("link " + names[i], e.identifiers(23, 1), due[i]);
        }
        Disc d = new Disc();
        d.directory(0, "Long.Directory");
        d.directory(0, "a.b");
        d.directory(0, ".hide");
        d.x.master();
        Check.same("directories", d.identifiers(23, 3), "A_B LONG_DIR _HIDE");
    }

    private static void identifiersThatMeet() {
        Disc d = new Disc();
        d.file(0, "longfilename1.text", 0, 0);
        d.file(0, "longfilename2.text", 0, 0);
        d.file(0, "longf001.tex", 0, 0);
        d.link(0, "longfilename3.text", "t");
        d.file(0, "longfilename.c", 0, 0);
        d.x.master();
        Check.same("in one directory", d.identifiers(23, 5),
            "LONGF000.TEX;1 LONGF001.TEX;1 LONGF002.TEX;1 LONGFILE.C;1 LONGFILE.TEX;1");
        Check.same("who has 000", d.low(d.record(23, 2) + 10, 4), 0);
        d.x.mount(2);
        Check.same("behind the numbers", d.tree(2),
            "0:longfilename2.text 0:longf001.tex 0:longfilename3.text 0:longfilename.c 0:longfilename1.text");

        Disc e = new Disc();
        e.file(0, "ab", 0, 0);
        e.directory(0, "Ab");
        e.file(0, "aB", 0, 0);
        e.file(0, "AB", 0, 0);
        e.file(0, "AB.x", 0, 0);
        int sub = e.directory(0, "sub");
        e.file(sub, "AB", 0, 0);
        e.x.master();
        Check.same("short bases, directories and files alike", e.identifiers(23, 6),
            "AB.;1 AB.X;1 AB000 AB001.;1 AB002.;1 SUB");

        Disc f = new Disc();
        f.file(0, "a000", 0, 0);
        f.file(0, "a", 0, 0);
        f.file(0, "A", 0, 0);
        f.file(0, "a-000", 0, 0);
        f.file(0, "a_000", 0, 0);
        f.x.master();
        Check.same("a number that is taken", f.identifiers(23, 5), "A.;1 A000.;1 A001.;1 A_000.;1 A_000000.;1");

        Disc g = new Disc();
        for (int i = 0; i < 14; i++) {
            g.file(0, "samebase" + i, 0, 0);
        }
        g.x.master();
        Check.same("two digits", g.identifiers(23, 14), "SAMEB000.;1 SAMEB001.;1 SAMEB002.;1 SAMEB003.;1 SAMEB004.;1 "
            + "SAMEB005.;1 SAMEB006.;1 SAMEB007.;1 SAMEB008.;1 SAMEB009.;1 SAMEB010.;1 SAMEB011.;1 SAMEB012.;1 SAMEBASE.;1");
    }

    private static void orders() {
        Disc d = new Disc();
        for (String name : new String[] {"b", "A", "a.b", "a.a", "ab", "_", "0", "a-", "Z", "aa.z", "B.c"}) {
            d.file(0, name, 0, 0);
        }
        d.directory(0, "aa");
        Check.same("sectors", d.x.master(), 27);
        Check.same("first tree", d.identifiers(23, 12),
            "0.;1 A.;1 A.A;1 A.B;1 AA AA.Z;1 AB.;1 A_.;1 B.;1 B.C;1 Z.;1 _.;1");
        Check.same("second tree", d.identifiers(25, 12), "0 A B.c Z _ a- a.a a.b aa aa.z ab b");
    }

    private static void ownership() {
        Disc d = new Disc();
        int sub = d.directory(0, "sub", 1000000, 70000, 80000);
        d.directory(sub, "deep", 0, 1, 2);
        d.directory(sub, "more", 4096, 3, 4);
        d.file(0, "zfile", 0, 0);
        d.link(0, "zlink", "t");
        d.x.own(4, 4095 + 4096, 5, 6);
        d.x.master();
        ownership(d, d.record(23, 0), 16877, 3, 0, 0);
        ownership(d, d.record(23, 1), 16877, 3, 0, 0);
        ownership(d, d.record(23, 2), 16384 + 1000000 % 4096, 4, 70000, 80000);
        ownership(d, d.record(23, 3), 32768 + 4095, 1, 5, 6);
        ownership(d, d.record(23, 4), 40960 + 511, 1, 0, 0);
        ownership(d, d.record(24, 0), 16384 + 1000000 % 4096, 4, 70000, 80000);
        ownership(d, d.record(24, 1), 16877, 3, 0, 0);
        ownership(d, d.record(24, 2), 16384, 2, 1, 2);
        ownership(d, d.record(24, 3), 16384, 2, 3, 4);
        ownership(d, d.record(25, 1), 16384 + 1000000 % 4096, 4, 70000, 80000);
    }

    private static void ownership(Disc d, int record, int mode, int links, int owner, int group) {
        int at = d.part(record, "PX");
        d.bytes("PX", at, 'P', 'X', 36, 1);
        d.both("mode", at + 4, 4, mode);
        d.both("links", at + 12, 4, links);
        d.both("owner", at + 20, 4, owner);
        d.both("group", at + 28, 4, group);
    }

    private static void namesAndTargets() {
        Disc d = new Disc();
        d.link(0, "A.name", "/a//./../.b/...//c/");
        d.x.master();
        int at = d.part(d.record(23, 2), "NM");
        d.bytes("NM", at, 'N', 'M', 11, 1, 0, 'A', '.', 'n', 'a', 'm', 'e');
        int sl = d.part(d.record(23, 2), "SL");
        Check.same("SL behind NM", sl, at + 11);
        d.bytes("SL", sl, 'S', 'L', 5 + 2 + 3 + 2 + 2 + 4 + 5 + 3, 1, 0, 8, 0, 0, 1, 'a', 2, 0, 4, 0, 0, 2, '.', 'b',
            0, 3, '.', '.', '.', 0, 1, 'c');
        Disc e = new Disc();
        e.link(0, "l", "///");
        e.x.master();
        e.bytes("SL of /", e.part(e.record(23, 2), "SL"), 'S', 'L', 7, 1, 0, 8, 0);
    }

    private static void continuation() {
        Disc d = new Disc();
        d.link(0, "first", "t".repeat(200));
        d.link(0, "second", "s".repeat(120));
        d.link(0, "third", "r".repeat(199));
        d.file(0, "file", 1, 0);
        Check.same("sectors", d.x.master(), 27);
        int record = d.record(23, 3);
        Check.same("record with a CE", d.x.byteAt(record), 42 + 36 + 10 + 28);
        Check.same("its parts", d.parts(record), "PXNMCE");
        int ce = d.part(record, "CE");
        d.bytes("CE", ce, 'C', 'E', 28, 1);
        d.both("sector", ce + 4, 4, 25);
        d.both("place", ce + 12, 4, 0);
        d.both("bytes", ce + 20, 4, 207);
        d.bytes("SL there", 25 * SECTOR, 'S', 'L', 207, 1, 0, 0, 200, 't');
        Check.same("all fit", d.parts(d.record(23, 4)), "PXNMSL");
        int other = d.part(d.record(23, 5), "CE");
        d.both("sector of the other run", other + 4, 4, 25);
        d.both("it lies behind the first", other + 12, 4, 207);
        d.both("bytes of the other run", other + 20, 4, 206);
        d.bytes("SL there", 25 * SECTOR + 207, 'S', 'L', 206, 1, 0, 0, 199, 'r');
        d.filled("the rest", 25 * SECTOR + 413, 26 * SECTOR - 1, 0);
        Check.same("contents behind it", d.low(d.record(23, 2) + 2, 4), 26);
    }

    private static void partsThatJustFit() {
        // A record of identifier A.;1 and name a has 38 + 36 + 6 bytes ahead of SL, whose target has 7 bytes less than SL.
        for (int length = 165; length <= 170; length++) {
            Disc d = new Disc();
            d.link(0, "a", "t".repeat(length));
            d.x.master();
            boolean fits = 38 + 36 + 6 + 7 + length <= 254;
            Check.same("target of " + length, d.parts(d.record(23, 2)), fits ? "PXNMSL" : "PXNMCE");
            int bytes = fits ? (87 + length + 1) / 2 * 2 : 38 + 42 + 28;
            Check.same("record of " + length, d.x.byteAt(d.record(23, 2)), bytes);
            d.x.mount(2);
            Check.same("target of " + length, d.targetOf(1), "t".repeat(length));
        }
    }

    private static void continuationOverSectors() {
        Disc d = new Disc();
        int sub = d.directory(0, "z");
        for (int i = 0; i < 10; i++) {
            d.link(i % 2 == 0 ? 0 : sub, "l" + i, "t".repeat(200));
        }
        Check.same("sectors", d.x.master(), 29);
        for (int i = 0; i < 10; i++) {
            int ce = d.part(i < 5 ? d.record(23, 2 + i) : d.record(24, i - 3), "CE");
            d.both("sector of run " + i, ce + 4, 4, i < 9 ? 27 : 28);
            d.both("place of run " + i, ce + 12, 4, i < 9 ? 207 * i : 0);
        }
        d.filled("between", 27 * SECTOR + 9 * 207, 28 * SECTOR - 1, 0);
    }

    private static void directoriesOfSeveralSectors() {
        Disc d = new Disc();
        for (int i = 10; i < 49; i++) {
            d.file(0, i + "-abcdefghijklmnopqrstuvwxyz0", 0, 0);
        }
        // 78 and 70 bytes, then records of 44 + 36 + 35 + 1: sixteen, then seventeen in a sector.
        Check.same("sectors", d.x.master(), 23 + 3 + 2);
        d.both("size", Disc.FIRST + 156 + 10, 4, 3 * 2048);
        d.both("size", Disc.SECOND + 156 + 10, 4, 2 * 2048);
        Check.same("the last one of a sector", d.identifier(23 * SECTOR + 148 + 15 * 116), "25_ABCDE.;1");
        d.filled("between", 23 * SECTOR + 148 + 16 * 116, 24 * SECTOR - 1, 0);
        Check.same("the first one of the next", d.identifier(24 * SECTOR), "26_ABCDE.;1");
        Check.same("one behind another", d.identifier(25 * SECTOR), "43_ABCDE.;1");
        Check.same("in the second tree", d.identifier(27 * SECTOR).replace("\0", ""), "31-abcdefghijklmnopqrstuvwxyz0");
        d.mounts("several sectors", 0, 40);
        d.mounts("several sectors", 1, 40);
        d.mounts("several sectors", 2, 40);
        Check.same("the last name", d.nameOf(39), "48-abcdefghijklmnopqrstuvwxyz0");
    }

    private static void sectorsThatAreJustFull() {
        Disc d = new Disc();
        for (int i = 0; i < 19; i++) {
            d.file(0, "abcdefghijklmn" + (char) ('a' + i), 0, 0);
        }
        // 78 and 70 bytes, and 19 records of 100.
        Check.same("a directory of one sector", d.x.master(), 25);
        d.file(0, "zzzzzzzzzzzzzzz", 0, 0);
        Check.same("a directory of two sectors", d.x.master(), 26);
        Check.same("the first one there", d.identifier(24 * SECTOR), "ZZZZZZZZ.;1");
        d.mounts("two sectors", 0, 21);

        Disc e = new Disc();
        for (int i = 0; i < 10; i++) {
            e.link(0, "l" + i, "t".repeat(i < 8 ? 198 : 197));
        }
        Check.same("a continuation of one sector", e.x.master(), 26);
        e.link(0, "m", "t".repeat(200));
        Check.same("a continuation of two sectors", e.x.master(), 27);
        e.both("its run's sector", e.part(e.record(23, 12), "CE") + 4, 4, 26);
        e.both("its run's place", e.part(e.record(23, 12), "CE") + 12, 4, 0);
        e.mounts("two sectors", 2, 12);
    }

    private static void contents() {
        Disc d = new Disc();
        d.file(0, "a", 4100, 255);
        d.file(0, "b", 0, 255);
        d.file(0, "c", 2048, 255);
        d.file(0, "d", 4100, 255);
        d.file(0, "e", 4100, 254);
        d.file(0, "f", 1, 7);
        Check.same("sectors", d.x.master(), 25 + 3 + 1 + 3 + 1);
        int[] due = {25, 0, 28, 25, 29, 32};
        for (int i = 0; i < due.length; i++) {
            d.both("sector of file " + i, d.record(23, 2 + i) + 2, 4, due[i]);
            d.both("in the second tree", d.record(24, 2 + i) + 2, 4, due[i]);
        }
        for (int i = 0; i < 4100; i++) {
            Check.same("byte " + i, d.x.byteAt(25 * SECTOR + i), (255 + i * i + i / 256) % 256);
        }
        d.filled("behind it", 25 * SECTOR + 4100, 28 * SECTOR - 1, 0);
        Check.same("the last file", d.x.byteAt(32 * SECTOR), 7);
        d.filled("behind it", 32 * SECTOR + 1, 33 * SECTOR - 1, 0);
    }

    private static void inPlaceOfTheOneBefore() {
        Disc d = new Disc();
        d.file(0, "a", 100, 3);
        d.x.master();
        d.x.mount(1);
        d.x.poke(5, 9);
        d.x.poke(24 * SECTOR + 2000, 9);
        d.x.cut(20);
        d.file(0, "b", 100, 4);
        Check.same("master", d.x.master(), 27);
        Check.same("sectors", d.x.sectors(), 27);
        Check.same("what was poked is gone", d.x.byteAt(5), 0);
        Check.same("what was poked is gone", d.x.byteAt(24 * SECTOR + 2000), 0);
        Check.same("what was read stays", d.nameOf(1), "a");
        Check.noSuch("what was read stays", () -> d.x.node(2, 0));
        Check.same("the image is the new one", d.tree(1), "0:a 0:b");
        Check.same("once more", d.x.master(), 27);
        Check.same("the same tree", d.tree(1), "0:a 0:b");
    }
}
