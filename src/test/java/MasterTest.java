/** Promise 8: the image that the tree becomes, byte for byte where the document says one. */
public final class MasterTest {
    private static final int SECTOR = Disc.SECTOR;

    public static void main(String[] args) {
        descriptors();
        pathTables();
        pathTablesInTheirOwnOrder();
        fullPathTables();
        recordsOfTheFirstTree();
        recordsOfTheSecondTree();
        identifiers();
        identifiersOfJustEnoughCharacters();
        identifiersThatMeet();
        identifiersThatJustMeet();
        directoriesAndFilesThatMeet();
        numbersOfIdentifiersThatMeet();
        orders();
        ordersOfBlanks();
        ownership();
        namesAndTargets();
        continuation();
        partsThatJustFit();
        longestRecord();
        continuationOverSectors();
        directoriesOfSeveralSectors();
        sectorsThatAreJustFull();
        sectorsOfTheSecondTreeThatAreJustFull();
        sectorsThatAreJustTooSmall();
        contents();
        sectorsOfContents();
        contentsByNumbers();
        contentsOfSizeNone();
        treeOfAllFiles();
        treeOfAllLinks();
        inPlaceOfTheOneBefore();
        Check.finish();
    }

    private static void descriptors() {
        Disc d = new Disc();
        d.directory(0, "sub");
        d.file(0, "f", 1, 65);
        int total = d.master();
        Check.same("sectors", total, 28);
        d.filled("sectors 0 to 15", 0, 16 * SECTOR - 1, 0);
        descriptor(d, Disc.FIRST, 1, 19, 23, total);
        d.bytes("first descriptor, 88", Disc.FIRST + 88, 0, 0, 0);
        d.both("first path table's bytes", Disc.FIRST + 132, 4, 10 + 12);
        descriptor(d, Disc.SECOND, 2, 21, 25, total);
        Check.same("second descriptor, 88", d.text(Disc.SECOND + 88, 3), "%/E");
        d.both("second path table's bytes", Disc.SECOND + 132, 4, 10 + 14);
        d.bytes("the end", Disc.LAST, 255, 'C', 'D', '0', '0', '1', 1);
        d.filled("the end's rest", Disc.LAST + 7, Disc.LAST + SECTOR - 1, 0);
    }

    private static void descriptor(Disc d, int at, int sort, int table, int root, int total) {
        d.bytes("descriptor", at, sort, 'C', 'D', '0', '0', '1', 1, 0);
        d.filled("8 .. 71", at + 8, at + 71, ' ');
        d.filled("72 .. 79", at + 72, at + 79, 0);
        d.both("sectors of the image", at + 80, 4, total);
        d.filled("91 .. 119", at + 91, at + 119, 0);
        d.both("120", at + 120, 2, 1);
        d.both("124", at + 124, 2, 1);
        d.both("block size", at + 128, 2, 2048);
        Check.same("L table", d.low(at + 140, 4), table);
        d.filled("144 .. 147", at + 144, at + 147, 0);
        Check.same("M table", d.high(at + 148, 4), table + 1);
        d.filled("152 .. 155", at + 152, at + 155, 0);
        Check.same("root's record, its bytes", d.byteAt(at + 156), 34);
        record(d, at + 156, root, 2048, 2, "\0");
        d.filled("190 .. 812", at + 190, at + 812, ' ');
        for (int i = 0; i < 4; i++) {
            d.filled("digits", at + 813 + 17 * i, at + 828 + 17 * i, '0');
            Check.same("behind the digits", d.byteAt(at + 829 + 17 * i), 0);
        }
        Check.same("881", d.byteAt(at + 881), 1);
        d.filled("the rest", at + 882, at + SECTOR - 1, 0);
    }

    /** All of a record but its bytes and its system use. */
    private static void record(Disc d, int at, int sector, int size, int mark, String identifier) {
        Check.same("1", d.byteAt(at + 1), 0);
        d.both("sector", at + 2, 4, sector);
        d.both("size", at + 10, 4, size);
        d.bytes("18 .. 27", at + 18, 100, 1, 1, 0, 0, 0, 0, mark, 0, 0);
        d.both("28", at + 28, 2, 1);
        Check.same("identifier", d.identifier(at), identifier);
        if (identifier.length() % 2 == 0) {
            Check.same("the byte that makes it even", d.byteAt(at + 33 + identifier.length()), 0);
        }
    }

    private static void pathTables() {
        Disc d = new Disc();
        int b = d.directory(0, "bb");
        int a = d.directory(0, "a");
        d.directory(b, "x");
        d.directory(a, "y");
        d.directory(b, "c");
        d.file(a, "file", 0, 0);
        Check.same("sectors", d.master(), 35);
        table(d, 19, new String[] {"\0", "A", "BB", "Y", "C", "X"}, new int[] {1, 1, 1, 2, 3, 3}, 23);
        table(d, 21, new String[] {"\0", "\0a", "\0b\0b", "\0y", "\0c", "\0x"}, new int[] {1, 1, 1, 2, 3, 3}, 29);
        d.both("bytes of the first", Disc.FIRST + 132, 4, 60);
        d.both("bytes of the second", Disc.SECOND + 132, 4, 62);
    }

    private static void pathTablesInTheirOwnOrder() {
        Disc d = new Disc();
        int a = d.directory(0, "a");
        int b = d.directory(0, "B");
        d.directory(a, "x");
        d.directory(b, "y");
        Check.same("sectors", d.master(), 33);
        table(d, 19, new String[] {"\0", "A", "B", "X", "Y"}, new int[] {1, 1, 1, 2, 3}, 23);
        table(d, 21, new String[] {"\0", "\0B", "\0a", "\0y", "\0x"}, new int[] {1, 1, 1, 2, 3}, 28);
        Check.same("B lies where its table says", d.low(d.record(28, 2) + 2, 4), 29);
        Check.same("y's parent", d.low(d.record(31, 1) + 2, 4), 29);
        d.mounts("the first tree", 0, 5);
        d.mounts("the second tree", 1, 5);
    }

    private static void fullPathTables() {
        Disc d = new Disc();
        String[] first = new String[12];
        String[] second = new String[12];
        int[] parents = new int[12];
        for (int n = 0; n < 12; n++) {
            first[n] = n == 0 ? "\0" : (char) ('A' + n) + "_".repeat(7);
            second[n] = "\0";
            parents[n] = 1;
            if (n > 0) {
                String longest = (char) ('a' + n) + "_".repeat(29);
                d.directory(0, longest);
                second[n] = "\0" + String.join("\0", longest.split(""));
            }
        }
        Check.same("sectors", d.master(), 23 + 24);
        table(d, 19, first, parents, 23);
        table(d, 21, second, parents, 35);
        d.both("bytes of the first", Disc.FIRST + 132, 4, 10 + 11 * 16);
        d.both("bytes of the second", Disc.SECOND + 132, 4, 10 + 11 * 68);
    }

    private static void table(Disc d, int sector, String[] identifiers, int[] parents, int first) {
        int at = 0;
        for (int i = 0; i < identifiers.length; i++) {
            for (int table = sector; table <= sector + 1; table++) {
                int entry = table * SECTOR + at;
                Check.same("its length", d.byteAt(entry), identifiers[i].length());
                Check.same("a byte 0", d.byteAt(entry + 1), 0);
                Check.same("identifier", d.text(entry + 8, identifiers[i].length()), identifiers[i]);
            }
            Check.same("sector in L", d.low(sector * SECTOR + at + 2, 4), first + i);
            Check.same("sector in M", d.high((sector + 1) * SECTOR + at + 2, 4), first + i);
            Check.same("parent in L", d.low(sector * SECTOR + at + 6, 2), parents[i]);
            Check.same("parent in M", d.high((sector + 1) * SECTOR + at + 6, 2), parents[i]);
            at += 8 + identifiers[i].length() + identifiers[i].length() % 2;
        }
        d.filled("L's rest", sector * SECTOR + at, (sector + 1) * SECTOR - 1, 0);
        d.filled("M's rest", (sector + 1) * SECTOR + at, (sector + 2) * SECTOR - 1, 0);
    }

    private static void recordsOfTheFirstTree() {
        Disc d = new Disc();
        int sub = d.directory(0, "sub");
        d.file(sub, "file.txt", 2049, 1);
        d.file(0, "none", 0, 9);
        d.link(0, "link", "t");
        Check.same("sectors", d.master(), 29);
        int at = 23 * SECTOR;
        Check.same("root's record of itself", d.byteAt(at), 34 + 7 + 36 + 1);
        record(d, at, 23, 2048, 2, "\0");
        Check.same("its parts", d.parts(at), "SPPX");
        d.bytes("SP", at + 34, 'S', 'P', 7, 1, 190, 239, 0);
        Check.same("the byte that makes it even", d.byteAt(at + 77), 0);
        at += 78;
        Check.same("root's record of its parent", d.byteAt(at), 34 + 36);
        record(d, at, 23, 2048, 2, "\1");
        Check.same("its parts", d.parts(at), "PX");
        at += 70;
        Check.same("record of the link", d.byteAt(at), 40 + 36 + 9 + 8 + 1);
        record(d, at, 0, 0, 0, "LINK.;1");
        Check.same("its parts", d.parts(at), "PXNMSL");
        at += 94;
        Check.same("record of the empty file", d.byteAt(at), 40 + 36 + 9 + 1);
        record(d, at, 0, 0, 0, "NONE.;1");
        Check.same("its parts", d.parts(at), "PXNM");
        at += 86;
        Check.same("record of the directory", d.byteAt(at), 36 + 36 + 8);
        record(d, at, 24, 2048, 2, "SUB");
        Check.same("its parts", d.parts(at), "PXNM");
        d.filled("the root's rest", at + 80, 24 * SECTOR - 1, 0);
        at = 24 * SECTOR;
        Check.same("sub's record of itself", d.byteAt(at), 70);
        record(d, at, 24, 2048, 2, "\0");
        record(d, at + 70, 23, 2048, 2, "\1");
        record(d, at + 140, 27, 2049, 0, "FILE.TXT;1");
        Check.same("record of the file", d.byteAt(at + 140), 44 + 36 + 13 + 1);
    }

    private static void recordsOfTheSecondTree() {
        Disc d = new Disc();
        int sub = d.directory(0, "sub");
        d.file(sub, "file.txt", 2049, 1);
        d.file(0, "none", 0, 9);
        d.link(0, "link", "t");
        d.master();
        int at = 25 * SECTOR;
        Check.same("root's record of itself", d.byteAt(at), 34);
        record(d, at, 25, 2048, 2, "\0");
        Check.same("root's record of its parent", d.byteAt(at + 34), 34);
        record(d, at + 34, 25, 2048, 2, "\1");
        Check.same("record of the empty file", d.byteAt(at + 68), 42);
        record(d, at + 68, 0, 0, 0, "\0n\0o\0n\0e");
        Check.same("record of the directory", d.byteAt(at + 110), 40);
        record(d, at + 110, 26, 2048, 2, "\0s\0u\0b");
        d.filled("no link", at + 150, 26 * SECTOR - 1, 0);
        record(d, 26 * SECTOR + 34, 25, 2048, 2, "\1");
        record(d, 26 * SECTOR + 68, 27, 2049, 0, "\0f\0i\0l\0e\0.\0t\0x\0t");
    }

    private static void identifiers() {
        String[] names = {"a", "readme.text", "LongFileName.c", "a.b.c", ".profile", "..x", "x-y+z_0.t-t", "...",
            "end.", "abcdefgh.ijk", "abcdefghi.ijkl"};
        String[] due = {"A.;1", "README.TEX;1", "LONGFILE.C;1", "A_B.C;1", "_PROFILE.;1", "_.X;1", "X_Y_Z_0.T_T;1",
            "__.;1", "END.;1", "ABCDEFGH.IJK;1", "ABCDEFGH.IJK;1"};
        for (int i = 0; i < names.length; i++) {
            Disc d = new Disc();
            d.file(0, names[i], 0, 0);
            d.master();
            Check.same("file " + names[i], d.identifiers(23, 1), due[i]);
            Disc e = new Disc();
            e.link(0, names[i], "t");
            e.master();
            Check.same("link " + names[i], e.identifiers(23, 1), due[i]);
        }
        Disc d = new Disc();
        d.directory(0, "Long.Directory");
        d.directory(0, "a.b");
        d.directory(0, ".hide");
        d.master();
        Check.same("directories", d.identifiers(23, 3), "A_B LONG_DIR _HIDE");
    }

    private static void identifier(int sort, String name, String due) {
        Disc d = new Disc();
        if (sort == 0) {
            d.directory(0, name);
        } else if (sort == 1) {
            d.file(0, name, 0, 0);
        } else {
            d.link(0, name, "t");
        }
        d.master();
        Check.same("sort " + sort + ", " + name, d.identifiers(23, 1), due);
    }

    private static void identifiersOfJustEnoughCharacters() {
        for (int sort = 1; sort < 3; sort++) {
            identifier(sort, "abcdefg", "ABCDEFG.;1");
            identifier(sort, "abcdefgh", "ABCDEFGH.;1");
            identifier(sort, "abcdefghi", "ABCDEFGH.;1");
            identifier(sort, "a.xy", "A.XY;1");
            identifier(sort, "a.xyz", "A.XYZ;1");
            identifier(sort, "a.xyzw", "A.XYZ;1");
            identifier(sort, "a.", "A.;1");
            identifier(sort, "a..", "A_.;1");
            identifier(sort, ".a", "_A.;1");
            identifier(sort, ".a.b", "_A.B;1");
            identifier(sort, "a.b.", "A_B.;1");
            identifier(sort, "azAZ09", "AZAZ09.;1");
            identifier(sort, "-_+.-_+", "___.___;1");
            identifier(sort, "abcdefghijklmnopqrstuvwxyz.123", "ABCDEFGH.123;1");
            identifier(sort, "abcdefghijklmnopqrstuvwxyz0.12", "ABCDEFGH.12;1");
        }
        identifier(0, "a", "A");
        identifier(0, "abcdefg", "ABCDEFG");
        identifier(0, "abcdefgh", "ABCDEFGH");
        identifier(0, "abcdefghi", "ABCDEFGH");
        identifier(0, "a.b", "A_B");
        identifier(0, "a.", "A_");
        identifier(0, "...", "___");
        identifier(0, "-_+azAZ0", "___AZAZ0");
    }

    private static void identifiersThatMeet() {
        Disc d = new Disc();
        d.file(0, "longfilename1.text", 0, 0);
        d.file(0, "longfilename2.text", 0, 0);
        d.file(0, "longf001.tex", 0, 0);
        d.link(0, "longfilename3.text", "t");
        d.file(0, "longfilename.c", 0, 0);
        d.master();
        Check.same("in one directory", d.identifiers(23, 5),
            "LONGF000.TEX;1 LONGF001.TEX;1 LONGF002.TEX;1 LONGFILE.C;1 LONGFILE.TEX;1");
        Check.same("who has 000", d.low(d.record(23, 2) + 10, 4), 0);
        d.mount(2);
        Check.same("behind the numbers", d.tree(2),
            "0:longfilename2.text 0:longf001.tex 0:longfilename3.text 0:longfilename.c 0:longfilename1.text");

        Disc e = new Disc();
        e.file(0, "ab", 0, 0);
        e.directory(0, "Ab");
        e.file(0, "aB", 0, 0);
        e.file(0, "AB", 0, 0);
        e.file(0, "AB.x", 0, 0);
        int sub = e.directory(0, "sub");
        e.file(sub, "AB", 0, 0);
        e.master();
        Check.same("short bases, directories and files alike", e.identifiers(23, 6),
            "AB.;1 AB.X;1 AB000 AB001.;1 AB002.;1 SUB");

        Disc f = new Disc();
        f.file(0, "a000", 0, 0);
        f.file(0, "a", 0, 0);
        f.file(0, "A", 0, 0);
        f.file(0, "a-000", 0, 0);
        f.file(0, "a_000", 0, 0);
        f.master();
        Check.same("a number that is taken", f.identifiers(23, 5), "A.;1 A000.;1 A001.;1 A_000.;1 A_000000.;1");

        Disc g = new Disc();
        for (int i = 0; i < 14; i++) {
            g.file(0, "samebase" + i, 0, 0);
        }
        g.master();
        Check.same("two digits", g.identifiers(23, 14), "SAMEB000.;1 SAMEB001.;1 SAMEB002.;1 SAMEB003.;1 SAMEB004.;1 "
            + "SAMEB005.;1 SAMEB006.;1 SAMEB007.;1 SAMEB008.;1 SAMEB009.;1 SAMEB010.;1 "
            + "SAMEB011.;1 SAMEB012.;1 SAMEBASE.;1");
    }

    /** Bases of one to nine characters, each met once more: at most five of them are kept. */
    private static void identifiersThatJustMeet() {
        String base = "abcdefghi";
        String[] due = {"A000.;1", "AB000.;1", "ABC000.;1", "ABCD000.;1", "ABCDE000.;1", "ABCDE000.;1", "ABCDE000.;1",
            "ABCDE000.;1", "ABCDE000.;1"};
        for (int length = 1; length <= 9; length++) {
            Disc d = new Disc();
            d.file(0, base.substring(0, length), 0, 0);
            d.file(0, base.substring(0, length).toUpperCase(), 1, 0);
            d.master();
            int higher = d.low(d.record(23, 2) + 10, 4) == 1 ? d.record(23, 2) : d.record(23, 3);
            Check.same("the one of the higher number", d.identifier(higher), due[length - 1]);
        }
        Disc d = new Disc();
        d.file(0, "a", 0, 0);
        d.file(0, "a.", 0, 0);
        d.link(0, "A.", "t");
        d.file(0, "A.x", 0, 0);
        d.file(0, "a.X", 0, 0);
        d.file(0, "a.xyz", 0, 0);
        d.file(0, "a.xyzw", 0, 0);
        d.master();
        Check.same("with and without an extension", d.identifiers(23, 7),
            "A.;1 A.X;1 A.XYZ;1 A000.;1 A000.X;1 A000.XYZ;1 A001.;1");
    }

    private static void directoriesAndFilesThatMeet() {
        Disc d = new Disc();
        d.directory(0, "a.b");
        d.file(0, "a.b.", 0, 0);
        d.file(0, "a_b", 0, 0);
        d.file(0, "A.B", 0, 0);
        d.directory(0, "A.b");
        d.link(0, "A_B", "t");
        d.master();
        Check.same("alike by base and extension", d.identifiers(23, 6),
            "A.B;1 A_B A_B000.;1 A_B001.;1 A_B002 A_B003.;1");
        Disc e = new Disc();
        e.file(0, "abcdefgh", 0, 0);
        e.directory(0, "abcdefghi");
        e.directory(0, "abcde001");
        e.directory(0, "abcdefghj");
        e.directory(3, "abcdefgh");
        e.master();
        Check.same("numbers go over all of them", e.identifiers(23, 4), "ABCDE000 ABCDE001 ABCDE002 ABCDEFGH.;1");
        Check.same("another directory begins anew", e.tree(0),
            "0:ABCDE000 0:ABCDE001 0:ABCDE002 0:ABCDEFGH 2:ABCDEFGH");
    }

    private static void numbersOfIdentifiersThatMeet() {
        Disc d = new Disc();
        for (int i = 0; i < 39; i++) {
            d.file(0, "samebase" + (char) ('a' + i / 26) + (char) ('a' + i % 26), i, 0);
        }
        d.master();
        d.mounts("39 of one base", 0, 40);
        Check.same("the first number", d.nameOf(1), "SAMEB000");
        Check.same("who has it", d.node(1, 2), 1);
        Check.same("number 9", d.nameOf(10), "SAMEB009");
        Check.same("number 10", d.nameOf(11), "SAMEB010");
        Check.same("the last number", d.nameOf(38), "SAMEB037");
        Check.same("who has it", d.node(38, 2), 38);
        Check.same("the one without a number", d.nameOf(39), "SAMEBASE");
        Check.same("who that is", d.node(39, 2), 0);
    }

    private static void ordersOfBlanks() {
        Disc d = new Disc();
        for (String name : new String[] {"abc", "ab", "a", "ab.c", "a.bcd", "a.bc", "abc0", "abc_", "abc.0"}) {
            d.file(0, name, 0, 0);
        }
        d.directory(0, "abcd");
        Check.same("sectors", d.master(), 27);
        Check.same("first tree", d.identifiers(23, 10),
            "A.;1 A.BC;1 A.BCD;1 AB.;1 AB.C;1 ABC.;1 ABC.0;1 ABC0.;1 ABCD ABC_.;1");
        Check.same("second tree", d.identifiers(25, 10), "a a.bc a.bcd ab ab.c abc abc.0 abc0 abc_ abcd");
    }

    private static void orders() {
        Disc d = new Disc();
        for (String name : new String[] {"b", "A", "a.b", "a.a", "ab", "_", "0", "a-", "Z", "aa.z", "B.c"}) {
            d.file(0, name, 0, 0);
        }
        d.directory(0, "aa");
        Check.same("sectors", d.master(), 27);
        Check.same("first tree", d.identifiers(23, 12),
            "0.;1 A.;1 A.A;1 A.B;1 AA AA.Z;1 AB.;1 A_.;1 B.;1 B.C;1 Z.;1 _.;1");
        Check.same("second tree", d.identifiers(25, 12), "0 A B.c Z _ a- a.a a.b aa aa.z ab b");
    }

    private static void ownership() {
        Disc d = new Disc();
        int sub = d.directory(0, "sub", 1000000, 70000, 80000);
        d.directory(sub, "deep", 0, 1, 2);
        d.directory(sub, "more", 4096, 3, 4);
        d.file(0, "zfile", 0, 0);
        d.link(0, "zlink", "t");
        d.own(4, 4095 + 4096, 5, 6);
        d.master();
        ownership(d, d.record(23, 0), 16877, 3, 0, 0);
        ownership(d, d.record(23, 1), 16877, 3, 0, 0);
        ownership(d, d.record(23, 2), 16384 + 1000000 % 4096, 4, 70000, 80000);
        ownership(d, d.record(23, 3), 32768 + 4095, 1, 5, 6);
        ownership(d, d.record(23, 4), 40960 + 511, 1, 0, 0);
        ownership(d, d.record(24, 0), 16384 + 1000000 % 4096, 4, 70000, 80000);
        ownership(d, d.record(24, 1), 16877, 3, 0, 0);
        ownership(d, d.record(24, 2), 16384, 2, 1, 2);
        ownership(d, d.record(24, 3), 16384, 2, 3, 4);
        ownership(d, d.record(25, 1), 16384 + 1000000 % 4096, 4, 70000, 80000);
    }

    private static void ownership(Disc d, int record, int mode, int links, int owner, int group) {
        int at = d.part(record, "PX");
        d.bytes("PX", at, 'P', 'X', 36, 1);
        d.both("mode", at + 4, 4, mode);
        d.both("links", at + 12, 4, links);
        d.both("owner", at + 20, 4, owner);
        d.both("group", at + 28, 4, group);
    }

    private static void namesAndTargets() {
        Disc d = new Disc();
        d.link(0, "A.name", "/a//./../.b/...//c/");
        d.master();
        int at = d.part(d.record(23, 2), "NM");
        d.bytes("NM", at, 'N', 'M', 11, 1, 0, 'A', '.', 'n', 'a', 'm', 'e');
        int sl = d.part(d.record(23, 2), "SL");
        Check.same("SL behind NM", sl, at + 11);
        d.bytes("SL", sl, 'S', 'L', 5 + 2 + 3 + 2 + 2 + 4 + 5 + 3, 1, 0, 8, 0, 0, 1, 'a', 2, 0, 4, 0, 0, 2, '.', 'b',
            0, 3, '.', '.', '.', 0, 1, 'c');
        Disc e = new Disc();
        e.link(0, "l", "///");
        e.master();
        e.bytes("SL of /", e.part(e.record(23, 2), "SL"), 'S', 'L', 7, 1, 0, 8, 0);
    }

    private static void continuation() {
        Disc d = new Disc();
        d.link(0, "first", "t".repeat(200));
        d.link(0, "second", "s".repeat(120));
        d.link(0, "third", "r".repeat(199));
        d.file(0, "file", 1, 0);
        Check.same("sectors", d.master(), 27);
        int record = d.record(23, 3);
        Check.same("record with a CE", d.byteAt(record), 42 + 36 + 10 + 28);
        Check.same("its parts", d.parts(record), "PXNMCE");
        int ce = d.part(record, "CE");
        d.bytes("CE", ce, 'C', 'E', 28, 1);
        d.both("sector", ce + 4, 4, 25);
        d.both("place", ce + 12, 4, 0);
        d.both("bytes", ce + 20, 4, 207);
        d.bytes("SL there", 25 * SECTOR, 'S', 'L', 207, 1, 0, 0, 200, 't');
        Check.same("all fit", d.parts(d.record(23, 4)), "PXNMSL");
        int other = d.part(d.record(23, 5), "CE");
        d.both("sector of the other run", other + 4, 4, 25);
        d.both("it lies behind the first", other + 12, 4, 207);
        d.both("bytes of the other run", other + 20, 4, 206);
        d.bytes("SL there", 25 * SECTOR + 207, 'S', 'L', 206, 1, 0, 0, 199, 'r');
        d.filled("the rest", 25 * SECTOR + 413, 26 * SECTOR - 1, 0);
        Check.same("contents behind it", d.low(d.record(23, 2) + 2, 4), 26);
    }

    private static void partsThatJustFit() {
        // A record of identifier A.;1 and name a has 38 + 36 + 6 bytes ahead of SL, which has 7 more than its target.
        for (int length = 165; length <= 170; length++) {
            Disc d = new Disc();
            d.link(0, "a", "t".repeat(length));
            d.master();
            boolean fits = 38 + 36 + 6 + 7 + length <= 254;
            Check.same("target of " + length, d.parts(d.record(23, 2)), fits ? "PXNMSL" : "PXNMCE");
            int bytes = fits ? (87 + length + 1) / 2 * 2 : 38 + 42 + 28;
            Check.same("record of " + length, d.byteAt(d.record(23, 2)), bytes);
            d.mount(2);
            Check.same("target of " + length, d.targetOf(1), "t".repeat(length));
        }
    }

    private static void longestRecord() {
        Disc d = new Disc();
        String name = "abcdefghijklmnopqrstuvwxyz.123";
        String target = "a/".repeat(81) + "/..";
        d.link(0, name, target);
        d.file(0, "f", 1, 0);
        Check.same("sectors", d.master(), 27);
        int record = d.record(23, 2);
        Check.same("its identifier", d.identifier(record), "ABCDEFGH.123;1");
        Check.same("its bytes", d.byteAt(record), 48 + 36 + 35 + 28 + 1);
        Check.same("the byte that makes them even", d.byteAt(record + 147), 0);
        int ce = d.part(record, "CE");
        d.both("bytes", ce + 20, 4, 250);
        d.bytes("SL there", 25 * SECTOR, 'S', 'L', 250, 1, 0, 0, 1, 'a');
        d.bytes("its end", 25 * SECTOR + 245, 0, 1, 'a', 4, 0);
        d.mount(2);
        Check.same("its name", d.nameOf(1), name);
        Check.same("its target", d.targetOf(1), "a/".repeat(81) + "..");
    }

    private static void continuationOverSectors() {
        Disc d = new Disc();
        int sub = d.directory(0, "z");
        for (int i = 0; i < 10; i++) {
            d.link(i % 2 == 0 ? 0 : sub, "l" + i, "t".repeat(200));
        }
        Check.same("sectors", d.master(), 29);
        for (int i = 0; i < 10; i++) {
            int ce = d.part(i < 5 ? d.record(23, 2 + i) : d.record(24, i - 3), "CE");
            d.both("sector of run " + i, ce + 4, 4, i < 9 ? 27 : 28);
            d.both("place of run " + i, ce + 12, 4, i < 9 ? 207 * i : 0);
        }
        d.filled("between", 27 * SECTOR + 9 * 207, 28 * SECTOR - 1, 0);
    }

    private static void directoriesOfSeveralSectors() {
        Disc d = new Disc();
        for (int i = 10; i < 49; i++) {
            d.file(0, i + "-abcdefghijklmnopqrstuvwxyz0", 0, 0);
        }
        // 78 and 70 bytes, then records of 44 + 36 + 35 + 1: sixteen, then seventeen in a sector.
        Check.same("sectors", d.master(), 23 + 3 + 2);
        d.both("size", Disc.FIRST + 156 + 10, 4, 3 * 2048);
        d.both("size", Disc.SECOND + 156 + 10, 4, 2 * 2048);
        Check.same("the last one of a sector", d.identifier(23 * SECTOR + 148 + 15 * 116), "25_ABCDE.;1");
        d.filled("between", 23 * SECTOR + 148 + 16 * 116, 24 * SECTOR - 1, 0);
        Check.same("the first one of the next", d.identifier(24 * SECTOR), "26_ABCDE.;1");
        Check.same("one behind another", d.identifier(25 * SECTOR), "43_ABCDE.;1");
        Check.same("in the second tree", d.identifier(27 * SECTOR).replace("\0", ""), "31-abcdefghijklmnopqrstuvwxyz0");
        d.mounts("several sectors", 0, 40);
        d.mounts("several sectors", 1, 40);
        d.mounts("several sectors", 2, 40);
        Check.same("the last name", d.nameOf(39), "48-abcdefghijklmnopqrstuvwxyz0");
    }

    private static void sectorsThatAreJustFull() {
        Disc d = new Disc();
        for (int i = 0; i < 19; i++) {
            d.file(0, "abcdefghijklmn" + (char) ('a' + i), 0, 0);
        }
        // 78 and 70 bytes, and 19 records of 100.
        Check.same("a directory of one sector", d.master(), 25);
        d.file(0, "zzzzzzzzzzzzzzz", 0, 0);
        Check.same("a directory of two sectors", d.master(), 26);
        Check.same("the first one there", d.identifier(24 * SECTOR), "ZZZZZZZZ.;1");
        d.mounts("two sectors", 0, 21);

        Disc e = new Disc();
        for (int i = 0; i < 10; i++) {
            e.link(0, "l" + i, "t".repeat(i < 8 ? 198 : 197));
        }
        Check.same("a continuation of one sector", e.master(), 26);
        e.link(0, "m", "t".repeat(200));
        Check.same("a continuation of two sectors", e.master(), 27);
        e.both("its run's sector", e.part(e.record(23, 12), "CE") + 4, 4, 26);
        e.both("its run's place", e.part(e.record(23, 12), "CE") + 12, 4, 0);
        e.mounts("two sectors", 2, 12);
    }

    private static void sectorsOfTheSecondTreeThatAreJustFull() {
        Disc d = new Disc();
        for (int i = 0; i < 20; i++) {
            d.file(0, "abcdefghijklmnopqrstuvwxyz012" + (char) ('a' + i), 0, 0);
        }
        d.file(0, "x1234567", 0, 0);
        d.file(0, "y1234567", 0, 0);
        // 34 and 34 bytes, 20 records of 34 + 60 and two of 34 + 16; 78, 70, 20 of 116 and two of 90 in the first tree.
        Check.same("a directory of one sector", d.master(), 23 + 2 + 1);
        d.both("its size", Disc.SECOND + 156 + 10, 4, 2048);
        d.mounts("one sector", 1, 23);
        Check.same("the last name", d.nameOf(22), "y1234567");
        d.file(0, "z", 0, 0);
        Check.same("a directory of two sectors", d.master(), 23 + 2 + 2);
        d.both("its size", Disc.SECOND + 156 + 10, 4, 4096);
        Check.same("the first one there", d.identifier(26 * SECTOR), "\0z");
        d.mounts("two sectors", 1, 24);
    }

    private static void sectorsThatAreJustTooSmall() {
        Disc d = new Disc();
        for (int i = 0; i < 18; i++) {
            d.file(0, "abcdefghijklmn" + (char) ('a' + i), 0, 0);
        }
        d.file(0, "zbcdefghijklmnop", 0, 0);
        // 78 and 70 bytes, 18 records of 100 and one of 102.
        Check.same("two bytes over a sector of the first tree", d.master(), 26);
        Check.same("the record there", d.identifier(24 * SECTOR), "ZBCDEFGH.;1");
        d.mounts("two sectors", 0, 20);

        Disc e = new Disc();
        for (int i = 0; i < 20; i++) {
            e.file(0, "abcdefghijklmnopqrstuvwxyz012" + (char) ('a' + i), 0, 0);
        }
        e.file(0, "x1234567", 0, 0);
        e.file(0, "y12345678", 0, 0);
        Check.same("two bytes over a sector of the second tree", e.master(), 23 + 2 + 2);
        Check.same("the record there", e.identifier(26 * SECTOR).replace("\0", ""), "y12345678");
        e.mounts("two sectors", 1, 23);

        Disc f = new Disc();
        for (int i = 0; i < 10; i++) {
            f.link(0, "l" + i, "t".repeat(i < 9 ? 198 : 197));
        }
        // Nine runs of 205 bytes and one of 204.
        Check.same("one byte over a sector of the continuation", f.master(), 27);
        f.both("the run's sector", f.part(f.record(23, 11), "CE") + 4, 4, 26);
        f.both("the run's place", f.part(f.record(23, 11), "CE") + 12, 4, 0);
        f.mounts("two sectors", 2, 11);
    }

    private static void contents() {
        Disc d = new Disc();
        d.file(0, "a", 4100, 255);
        d.file(0, "b", 0, 255);
        d.file(0, "c", 2048, 255);
        d.file(0, "d", 4100, 255);
        d.file(0, "e", 4100, 254);
        d.file(0, "f", 1, 7);
        Check.same("sectors", d.master(), 25 + 3 + 1 + 3 + 1);
        int[] due = {25, 0, 28, 25, 29, 32};
        for (int i = 0; i < due.length; i++) {
            d.both("sector of file " + i, d.record(23, 2 + i) + 2, 4, due[i]);
            d.both("in the second tree", d.record(24, 2 + i) + 2, 4, due[i]);
        }
        for (int i = 0; i < 4100; i++) {
            Check.same("byte " + i, d.byteAt(25 * SECTOR + i), (255 + i * i + i / 256) % 256);
        }
        d.filled("behind it", 25 * SECTOR + 4100, 28 * SECTOR - 1, 0);
        Check.same("the last file", d.byteAt(32 * SECTOR), 7);
        d.filled("behind it", 32 * SECTOR + 1, 33 * SECTOR - 1, 0);
    }

    private static void sectorsOfContents() {
        int[] sizes = {1, 2047, 2048, 2049, 4095, 4096, 4097, 4100};
        int[] due = {1, 1, 1, 2, 2, 2, 3, 3};
        for (int i = 0; i < sizes.length; i++) {
            Disc d = new Disc();
            d.file(0, "a", sizes[i], 1);
            Check.same("a file of " + sizes[i], d.master(), 25 + due[i]);
            Check.same("its last byte", d.byteAt(25 * SECTOR + sizes[i] - 1),
                (1 + (sizes[i] - 1) * (sizes[i] - 1) + (sizes[i] - 1) / 256) % 256);
            d.mounts("a file of " + sizes[i], 0, 2);
        }
    }

    private static void contentsByNumbers() {
        Disc d = new Disc();
        int sub = d.directory(0, "a");
        d.file(0, "z", 10, 1);
        d.file(0, "y", 10, 2);
        d.file(sub, "x", 10, 2);
        d.file(sub, "w", 10, 3);
        d.file(0, "b", 11, 2);
        d.file(sub, "v", 10, 1);
        Check.same("sectors", d.master(), 23 + 4 + 4);
        Check.same("the tree", d.tree(0), "0:A 0:B 0:Y 0:Z 1:V 1:W 1:X");
        int[] due = {30, 28, 27, 27, 29, 28};
        for (int i = 0; i < due.length; i++) {
            Check.same("sector of " + d.nameOf(2 + i), d.node(2 + i, 3), due[i]);
        }
    }

    private static void contentsOfSizeNone() {
        Disc d = new Disc();
        d.file(0, "a", 0, 0);
        d.file(0, "b", 0, 0);
        d.file(0, "c", 0, 255);
        d.link(0, "d", "t");
        Check.same("no sector of contents", d.master(), 25);
        d.mount(0);
        for (int k = 1; k < 5; k++) {
            Check.same("its sector", d.node(k, 3), 0);
            Check.same("its size", d.node(k, 2), 0);
        }
    }

    private static String longest(int n) {
        return "abcdefghijklmnopqrstuvwxyz." + (char) ('a' + n / 26) + (char) ('a' + n % 26) + "z";
    }

    private static void treeOfAllFiles() {
        Disc d = new Disc();
        for (int n = 1; n < 12; n++) {
            d.directory(0, longest(n), 1000000, 1000000, 1000000);
        }
        for (int n = 12; n < 40; n++) {
            Check.same("a file", d.file(1 + n % 11, longest(n), 4100, n), n);
        }
        Check.same("sectors", d.master(), 23 + 12 + 12 + 28 * 3);
        for (int view = 0; view < 3; view++) {
            d.mounts("the most of all", view, 40);
        }
        int[] seen = new int[40];
        for (int k = 1; k < 40; k++) {
            String name = d.nameOf(k);
            int n = 26 * (name.charAt(27) - 'a') + name.charAt(28) - 'a';
            seen[n]++;
            Check.same("its name", name, longest(n));
            Check.same("its owner", d.node(k, 5), n < 12 ? 1000000 : 0);
            if (n >= 12) {
                int parent = d.node(k, 0);
                Check.same("its parent", d.nameOf(parent), longest(1 + n % 11));
                Check.same("its last byte", d.read(k, 4099), (n + 4099 * 4099 + 16) % 256);
            }
        }
        for (int n = 1; n < 40; n++) {
            Check.same("node " + n + " is met", seen[n], 1);
        }
    }

    private static void treeOfAllLinks() {
        Disc d = new Disc();
        String target = "a/".repeat(81) + "..";
        for (int n = 1; n < 12; n++) {
            d.directory(n < 8 ? n - 1 : 0, longest(n));
        }
        for (int n = 12; n < 40; n++) {
            Check.same("a link", d.link(n < 26 ? 7 : 0, longest(n), target), n);
        }
        // A record of a link has 148 bytes: the root has 78 + 70 + 5 * 114 + 14 * 148, directory 7 has 140 + 14 * 148.
        Check.same("sectors", d.master(), 23 + 14 + 12 + 4);
        d.mounts("the most of all", 0, 40);
        d.mounts("the most of all", 1, 12);
        d.mounts("the most of all", 2, 40);
        int links = 0;
        for (int k = 1; k < 40; k++) {
            if (d.node(k, 1) == 2) {
                links++;
                Check.same("its target", d.targetOf(k), target);
            }
        }
        Check.same("links", links, 28);
    }

    private static void inPlaceOfTheOneBefore() {
        Disc d = new Disc();
        d.file(0, "a", 100, 3);
        d.master();
        d.mount(1);
        d.poke(5, 9);
        d.poke(24 * SECTOR + 2000, 9);
        d.cut(20);
        d.file(0, "b", 100, 4);
        Check.same("master", d.master(), 27);
        Check.same("sectors", d.sectors(), 27);
        Check.same("what was poked is gone", d.byteAt(5), 0);
        Check.same("what was poked is gone", d.byteAt(24 * SECTOR + 2000), 0);
        Check.same("what was read stays", d.nameOf(1), "a");
        Check.noSuch("what was read stays", () -> d.node(2, 0));
        Check.same("the image is the new one", d.tree(1), "0:a 0:b");
        Check.same("once more", d.master(), 27);
        Check.same("the same tree", d.tree(1), "0:a 0:b");
    }
}
