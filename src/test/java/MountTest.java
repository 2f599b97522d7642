/** Promise 13: mount by the three views, and the place of each thing that is wrong. */
public final class MountTest {
    private static final int SECTOR = Disc.SECTOR;

    public static void main(String[] args) {
        views();
        viewsThatAreNone();
        descriptors();
        wantedDescriptors();
        wantedBehindOthers();
        blockSize();
        whatNoCheckNames();
        rootsRecord();
        rootsPlace();
        recordsBytes();
        recordsHalves();
        recordsPlace();
        recordsIdentifier();
        ownRecords();
        placesOfOwnRecords();
        bothOwnRecords();
        ownRecordsInTheNextSector();
        byteZeroLeadsToTheNextSector();
        directoriesThatMeet();
        directoriesOfOtherSorts();
        markedLinksThatMeet();
        linksThatMeetDirectories();
        depth();
        depthOfMarkedLinks();
        hundredthNode();
        namesOfTheFirstView();
        namesOfTheSecondView();
        charactersOfTheSecondView();
        namesOfTheThirdViewByIdentifier();
        parts();
        partNM();
        partPX();
        partSL();
        targetsTooLong();
        partCE();
        manyCE();
        severalCEInTheRecord();
        severalCEInEachRun();
        sixthCE();
        sortsByMode();
        rootsParts();
        firstWrongPlace();
        Check.finish();
    }

    /** The root with a directory that holds a file, with a file and with a link: sectors 23, 24 and 25, 26. */
    private static Disc sample() {
        Disc d = new Disc();
        d.directory(0, "Bin.d", 448, 11, 12);
        d.file(1, "Inner.file", 3000, 5);
        d.file(0, "Alpha.text", 10, 6);
        d.link(0, "zlink", "/usr/../x");
        d.master();
        return d;
    }

    private static void views() {
        Disc d = sample();
        d.mounts("view 0", 0, 5);
        Check.same("view 0", d.tree(0), "0:ALPHA.TEX 0:BIN_D 0:ZLINK 2:INNER.FIL");
        d.mounts("view 1", 1, 4);
        Check.same("view 1", d.tree(1), "0:Alpha.text 0:Bin.d 2:Inner.file");
        d.mounts("view 2", 2, 5);
        Check.same("view 2", d.tree(2), "0:Alpha.text 0:Bin.d 0:zlink 2:Inner.file");
    }

    private static void viewsThatAreNone() {
        Disc d = sample();
        d.mount(1);
        for (int view : new int[] {-1, 3, Integer.MIN_VALUE, Integer.MAX_VALUE}) {
            Check.refused("mount(" + view + ")", () -> d.mount(view));
        }
        Check.same("what was read stays", d.nameOf(1), "Alpha.text");
        Check.refused("without an image", () -> new DiscMaker().mount(3));
    }

    private static void descriptors() {
        for (int sector = 16; sector <= 18; sector++) {
            for (int i = 1; i <= 6; i++) {
                for (int view = 0; view < 3; view++) {
                    Disc d = sample();
                    d.poke(sector * SECTOR + i, d.byteAt(sector * SECTOR + i) + 1);
                    d.wrong("byte " + i + " of sector " + sector, view, sector * SECTOR);
                }
            }
        }
        for (int n = 0; n <= 18; n++) {
            Disc d = sample();
            d.cut(n);
            d.wrong("cut(" + n + ")", 0, Math.max(16, n) * SECTOR);
        }
        Disc d = sample();
        d.poke(Disc.LAST, 3);
        d.wrong("without an end", 0, 19 * SECTOR);
        d.cut(19);
        d.wrong("without an end, cut", 0, 19 * SECTOR);
    }

    private static void wantedDescriptors() {
        Disc d = sample();
        d.poke(Disc.FIRST, 0);
        d.wrong("no first one", 0, Disc.LAST);
        d.wrong("no first one", 2, Disc.LAST);
        d.mounts("no first one", 1, 4);
        d.poke(Disc.FIRST, 255);
        d.wrong("an end at once", 1, Disc.FIRST);
        Disc e = sample();
        for (int i = 88; i <= 90; i++) {
            int before = e.poke(Disc.SECOND + i, 1);
            e.wrong("byte " + i, 1, Disc.LAST);
            e.mounts("byte " + i, 0, 5);
            e.poke(Disc.SECOND + i, before);
        }
        e.poke(Disc.SECOND, 1);
        e.mounts("two of sort 1: the first", 0, 5);
        e.wrong("none of sort 2", 1, Disc.LAST);
        Disc f = sample();
        f.poke(Disc.FIRST, 2);
        f.write(Disc.FIRST + 88, "%/E");
        f.wrong("two of sort 2: the first, whose names are no long ones", 1, f.record(23, 2));
    }

    private static void wantedBehindOthers() {
        for (int sort : new int[] {0, 3, 128, 254}) {
            Disc d = sample();
            d.poke(Disc.SECOND, sort);
            d.mounts("sort " + sort + " is passed", 0, 5);
            d.wrong("sort " + sort + " is none", 1, Disc.LAST);
        }
        Disc d = sample();
        d.poke(Disc.FIRST, 2);
        d.mounts("of sort 2 the first with the three bytes", 1, 4);
        d.wrong("none of sort 1", 0, Disc.LAST);
        Disc e = sample();
        e.poke(Disc.SECOND, 255);
        e.mounts("up to sort 255", 0, 5);
        e.mounts("up to sort 255", 2, 5);
        e.wrong("what lies behind it is not wanted", 1, Disc.SECOND);
        e.poke(Disc.LAST + 1, 0);
        e.mounts("what lies behind it may be anything", 0, 5);
        e.poke(Disc.FIRST, 255);
        e.wrong("the end alone", 0, Disc.FIRST);
        Disc f = sample();
        f.write(Disc.LAST, 1);
        f.write(19 * SECTOR, 255, 'C', 'D', '0', '0', '1', 1);
        f.mounts("an end further on", 0, 5);
        f.mounts("an end further on", 1, 4);
        f.poke(Disc.FIRST, 9);
        f.wrong("a descriptor of zeros", 0, Disc.LAST + 128);
    }

    private static void blockSize() {
        for (int view = 0; view < 3; view++) {
            for (int i = 128; i < 132; i++) {
                Disc d = sample();
                int at = view == 1 ? Disc.SECOND : Disc.FIRST;
                d.poke(at + i, d.byteAt(at + i) ^ 4);
                d.wrong("byte " + i, view, at + 128);
                d.writeBoth(at + 128, 2, 1024);
                d.wrong("another block size", view, at + 128);
            }
        }
    }

    private static void whatNoCheckNames() {
        for (int view = 0; view < 3; view++) {
            Disc d = sample();
            for (int sector = 16; sector <= 17; sector++) {
                for (int i : new int[] {7, 8, 72, 80, 84, 91, 120, 122, 124, 132, 136, 140, 148, 152, 190, 881}) {
                    d.poke(sector * SECTOR + i, 77);
                }
                for (int i : new int[] {1, 18, 24, 26, 27, 33}) {
                    d.poke(sector * SECTOR + 156 + i, 77);
                }
            }
            d.poke(18 * SECTOR + 7, 77);
            d.poke(18 * SECTOR + 128, 77);
            d.mounts("other bytes of descriptors", view, view == 1 ? 4 : 5);
        }
        Disc d = new Disc();
        d.link(0, "a", "t".repeat(200));
        d.link(0, "b", "u");
        d.master();
        for (String part : new String[] {"PX", "NM", "CE"}) {
            d.poke(d.part(d.record(23, 2), part) + 3, 0);
        }
        d.poke(d.part(d.record(23, 3), "SL") + 3, 255);
        d.poke(23 * SECTOR + 34 + 4, 77);
        d.poke(d.part(23 * SECTOR, "PX") + 3, 2);
        d.mounts("other bytes of parts", 2, 3);
        Check.same("its target", d.targetOf(1), "t".repeat(200));
        Check.same("its target", d.targetOf(2), "u");
    }

    private static void rootsRecord() {
        for (int view = 0; view < 3; view++) {
            int at = (view == 1 ? Disc.SECOND : Disc.FIRST) + 156;
            Disc d = sample();
            d.poke(at + 25, 0);
            d.wrong("root's mark", view, at);
            d = sample();
            d.poke(at, 33);
            d.wrong("root's bytes", view, at);
            d = sample();
            for (int i = 2; i < 32; i++) {
                if (i < 18 || i >= 28) {
                    d.poke(at + i, d.byteAt(at + i) ^ 32);
                    d.wrong("root's byte " + i, view, at);
                    d.poke(at + i, d.byteAt(at + i) ^ 32);
                }
            }
            d.mounts("mended", view, view == 1 ? 4 : 5);
            d = sample();
            d.writeBoth(at + 10, 4, 0);
            d.wrong("root's size", view, at);
            d = sample();
            d.cut(23);
            d.wrong("root's sector", view, at);
            d = sample();
            d.poke(at + 32, 0);
            d.wrong("root's identifier", view, at);
        }
    }

    private static void rootsPlace() {
        for (int view = 0; view < 3; view++) {
            int at = (view == 1 ? Disc.SECOND : Disc.FIRST) + 156;
            Disc d = sample();
            int sector = d.low(at + 2, 4);
            int left = d.sectors() - sector;
            for (int size : new int[] {1, 2047, 2049, -2048, Integer.MIN_VALUE, Integer.MAX_VALUE, 2048 * (left + 1)}) {
                d.writeBoth(at + 10, 4, size);
                d.wrong("root's size " + size, view, at);
            }
            d.writeBoth(at + 10, 4, 2048);
            for (int other : new int[] {-1, d.sectors(), Integer.MIN_VALUE, Integer.MAX_VALUE}) {
                d.writeBoth(at + 2, 4, other);
                d.wrong("root's sector " + other, view, at);
            }
            d.writeBoth(at + 2, 4, d.sectors() - 1);
            int place = (d.sectors() - 1) * SECTOR;
            d.wrong("the last sector is in the image, but no directory", view, place);
            d.writeBoth(at + 2, 4, sector);
            d.mounts("mended", view, view == 1 ? 4 : 5);
            d.poke(at + 32, 2);
            d.wrong("an identifier over the record's end", view, at);
            d.poke(at, 35);
            d.mounts("an identifier up to the record's end", view, view == 1 ? 4 : 5);
            d.poke(at, 0);
            d.wrong("no bytes", view, at);
            d.poke(at, 255);
            d.mounts("the most bytes", view, view == 1 ? 4 : 5);
        }
    }

    private static void recordsBytes() {
        Disc d = sample();
        int at = d.record(23, 2);
        int bytes = d.byteAt(at);
        d.poke(at, 33);
        d.wrong("33 bytes", 0, at);
        d.poke(at, 1);
        d.wrong("1 byte", 0, at);
        d.poke(at, bytes);
        d.poke(at + 32, bytes - 32);
        d.wrong("an identifier of too many bytes", 0, at);
        d.poke(at + 32, bytes - 33);
        d.wrong("one of more than 60 characters", 0, at);
        Disc f = new Disc();
        f.file(0, "a", 0, 0);
        f.master();
        int small = f.record(23, 2);
        Check.same("its bytes", f.byteAt(small), 80);
        f.poke(small + 32, 48);
        f.wrong("an identifier of one byte too many", 0, small);
        f.poke(small + 32, 47);
        f.mounts("an identifier up to the record's end", 0, 2);
        f.mounts("no byte is left for parts", 2, 2);
        Disc e = new Disc();
        for (int i = 0; i < 18; i++) {
            e.file(0, "abcdefghijklmnopqrstuvwxyz" + (char) ('a' + i), 0, 0);
        }
        e.master();
        int last = 23 * SECTOR;
        while (e.byteAt(last + e.byteAt(last)) != 0) {
            last += e.byteAt(last);
        }
        int room = 24 * SECTOR - last;
        Check.yes("the sample can cross a sector's end", room < 255);
        e.poke(last, room + 1);
        e.wrong("one byte over the sector's end", 0, last);
        e.poke(last, room);
        e.mounts("up to the sector's end", 0, 19);
    }

    private static void recordsHalves() {
        for (int view = 0; view < 3; view++) {
            int sector = view == 1 ? 25 : 23;
            for (int k = 0; k < 4; k++) {
                for (int i = 2; i < 32; i++) {
                    if (i < 18 || i >= 28) {
                        Disc d = sample();
                        int at = d.record(sector, k);
                        d.poke(at + i, d.byteAt(at + i) ^ 64);
                        d.wrong("byte " + i + " of record " + k, view, at);
                    }
                }
            }
        }
        Disc d = sample();
        int at = d.record(23, 2);
        d.writeBoth(at + 28, 2, 77);
        d.mounts("another number at 28", 0, 5);
        d.write(at + 18, 1, 2, 3, 4, 5, 6, 7);
        d.write(at + 26, 1, 2);
        d.poke(at + 1, 9);
        d.mounts("another day", 0, 5);
    }

    private static void recordsPlace() {
        Disc d = sample();
        int file = d.record(23, 2);
        int total = d.sectors();
        int sector = d.low(file + 2, 4);
        d.writeBoth(file + 2, 4, total - 1);
        d.writeBoth(file + 10, 4, 2048);
        d.mounts("the image's last sector", 0, 5);
        d.writeBoth(file + 10, 4, 2049);
        d.wrong("one byte more", 0, file);
        d.writeBoth(file + 2, 4, -1);
        d.writeBoth(file + 10, 4, 1);
        d.wrong("sector -1", 0, file);
        d.writeBoth(file + 2, 4, Integer.MAX_VALUE);
        d.wrong("sector far behind", 0, file);
        d.writeBoth(file + 10, 4, 0);
        d.mounts("size 0 needs nothing", 0, 5);
        Check.same("its sector", d.node(1, 3), Integer.MAX_VALUE);
        for (int number : new int[] {0x01020304, -1, Integer.MIN_VALUE, 0x10000000, 256, 65536}) {
            d.writeBoth(file + 2, 4, number);
            d.mounts("size 0 needs nothing", 0, 5);
            Check.same("its sector", d.node(1, 3), number);
        }
        d.writeBoth(file + 2, 4, sector);
        d.writeBoth(file + 10, 4, -1);
        d.wrong("size -1", 0, file);
        for (int size : new int[] {Integer.MIN_VALUE, Integer.MAX_VALUE, (1 << 24) + 10, (1 << 16) + 10}) {
            d.writeBoth(file + 10, 4, size);
            d.wrong("size " + size, 0, file);
        }
        d.writeBoth(file + 10, 4, 10);
        for (int high = 8; high < 32; high += 8) {
            d.writeBoth(file + 2, 4, sector + (1 << high));
            d.wrong("sector " + (sector + (1 << high)), 0, file);
        }
        Disc e = sample();
        int directory = e.record(23, 3);
        for (int size : new int[] {0, 1, 2047, 2049, -2048, 2048 * (total - 23), (1 << 16) + 2048, (1 << 24) + 2048,
            Integer.MIN_VALUE, Integer.MAX_VALUE}) {
            e.writeBoth(directory + 10, 4, size);
            e.wrong("directory of size " + size, 0, directory);
        }
        e.writeBoth(directory + 10, 4, 2048);
        e.writeBoth(directory + 2, 4, total);
        e.wrong("directory behind the image", 0, directory);
        e.writeBoth(directory + 2, 4, -1);
        e.wrong("directory ahead of the image", 0, directory);
    }

    private static void recordsIdentifier() {
        Disc d = sample();
        int at = d.record(23, 2);
        d.poke(at + 32, 0);
        for (int view = 0; view < 3; view += 2) {
            d.wrong("no identifier", view, at);
        }
        Disc e = sample();
        e.poke(e.record(25, 2) + 32, 0);
        e.wrong("no identifier", 1, e.record(25, 2));
    }

    private static void ownRecords() {
        for (int view = 0; view < 3; view++) {
            for (int directory = 0; directory < 2; directory++) {
                for (int k = 0; k < 2; k++) {
                    int sector = (view == 1 ? 25 : 23) + directory;
                    Disc d = sample();
                    int at = d.record(sector, k);
                    d.poke(at + 33, 1 - k);
                    d.wrong("identifier of record " + k, view, at);
                    d = sample();
                    d.poke(at + 25, 0);
                    d.wrong("mark of record " + k, view, at);
                    d = sample();
                    d.writeBoth(at + 2, 4, 22);
                    if (k == 0) {
                        d.wrong("sector of the first record", view, at);
                    } else {
                        d.mounts("sector of the second record", view, view == 1 ? 4 : 5);
                    }
                }
            }
        }
        Disc d = sample();
        d.poke(d.record(23, 0) + 32, 2);
        d.wrong("an identifier of two bytes", 0, d.record(23, 0));
    }

    private static void placesOfOwnRecords() {
        for (int view = 0; view < 3; view++) {
            int nodes = view == 1 ? 4 : 5;
            for (int k = 0; k < 2; k++) {
                for (int directory = 0; directory < 2; directory++) {
                    Disc d = sample();
                    int sector = (view == 1 ? 25 : 23) + directory;
                    int at = d.record(sector, k);
                    for (int size : new int[] {0, 1, 2049, -2048, 2048 * (d.sectors() - d.low(at + 2, 4) + 1)}) {
                        d.writeBoth(at + 10, 4, size);
                        d.wrong("size " + size + " of record " + k, view, at);
                    }
                    d.writeBoth(at + 10, 4, 2048 * 2);
                    d.mounts("another size of record " + k, view, nodes);
                    d.poke(at, 33);
                    d.wrong("33 bytes of record " + k, view, at);
                }
            }
            Disc d = sample();
            int at = d.record(view == 1 ? 25 : 23, 1);
            d.writeBoth(at + 2, 4, d.sectors());
            d.wrong("the parent's sector behind the image", view, at);
            d.writeBoth(at + 2, 4, d.sectors() - 1);
            d.mounts("the parent's sector the last one", view, nodes);
            d.writeBoth(at + 2, 4, 0);
            d.mounts("the parent's sector 0", view, nodes);
            d.writeBoth(at + 2, 4, -1);
            d.wrong("the parent's sector -1", view, at);
        }
    }

    private static void bothOwnRecords() {
        Disc d = sample();
        d.poke(24 * SECTOR, 0);
        d.wrong("no record", 0, 24 * SECTOR);
        Disc e = sample();
        e.poke(e.record(24, 1), 0);
        e.wrong("one record", 2, 24 * SECTOR);
        Disc f = sample();
        f.poke(23 * SECTOR, 0);
        f.wrong("no record in the root", 2, 23 * SECTOR);
        Disc g = sample();
        g.poke(g.record(24, 2), 0);
        g.mounts("both and no more", 0, 4);
    }

    private static void ownRecordsInTheNextSector() {
        Disc d = new Disc();
        d.directory(0, "a");
        d.master();
        // Directory a goes on over the second tree's root; its own first record is gone.
        int a = d.record(23, 2);
        d.writeBoth(a + 10, 4, 2 * SECTOR);
        d.poke(24 * SECTOR, 0);
        d.wrong("the first record tells another sector", 0, 25 * SECTOR);
        d.writeBoth(25 * SECTOR + 2, 4, 24);
        d.mounts("the first record lies in the second sector", 0, 3);
        Check.same("the second root's node", d.nameOf(2), "\0a");
        d.poke(25 * SECTOR + 34, 0);
        d.wrong("there is no second record", 0, 24 * SECTOR);
        d.poke(25 * SECTOR, 0);
        d.wrong("there is none", 0, 24 * SECTOR);
    }

    private static void byteZeroLeadsToTheNextSector() {
        Disc d = new Disc();
        for (int i = 0; i < 30; i++) {
            d.file(0, "abcdefghijklmnopqrstuvwxyz" + (char) ('a' + i % 26) + i, 0, 0);
        }
        d.master();
        d.mounts("two sectors", 0, 31);
        int before = 0;
        while (d.record(23, before) < 24 * SECTOR) {
            before++;
        }
        d.poke(d.record(23, 5), 0);
        d.mounts("three of them in the first one", 0, 1 + 3 + 32 - before);
        d.poke(24 * SECTOR, 0);
        d.mounts("none in the second one", 0, 1 + 3);
    }

    private static void directoriesThatMeet() {
        Disc d = new Disc();
        d.directory(0, "a");
        d.directory(0, "b");
        d.directory(1, "c");
        d.master();
        int b = d.record(23, 3);
        d.writeBoth(b + 2, 4, 24);
        d.wrong("b lies where a does", 0, b);
        d.writeBoth(b + 2, 4, 23);
        d.wrong("b lies where the root does", 0, b);
        d.writeBoth(b + 2, 4, 25);
        int c = d.record(24, 2);
        for (int sector = 23; sector < 26; sector++) {
            d.writeBoth(c + 2, 4, sector);
            d.wrong("c lies at " + sector, 2, c);
        }
        Disc e = sample();
        int file = e.record(23, 2);
        e.writeBoth(file + 2, 4, 23);
        e.mounts("a file may lie there", 0, 5);
    }

    /** Only a directory must have a sector of its own, and only directories are gone through. */
    private static void directoriesOfOtherSorts() {
        Disc d = sample();
        int directory = d.record(23, 3);
        d.poke(directory + 25, 0);
        d.mounts("a directory without its mark is a file", 0, 4);
        Check.same("its sort", d.node(2, 1), 1);
        Check.same("its bytes are those of the directory", d.read(2, 0), d.byteAt(24 * SECTOR));
        Disc e = sample();
        int file = e.record(23, 2);
        e.poke(file + 25, 2);
        e.wrong("a file with the mark has no size of a directory", 0, file);
        e.writeBoth(file + 10, 4, 2048);
        e.wrong("and no records", 0, e.low(file + 2, 4) * SECTOR);
        e.writeBoth(file + 2, 4, 26);
        e.mounts("the second tree's directory has them", 0, 6);
        Check.same("its sort", e.node(1, 1), 0);
        Check.same("its node", e.node(4, 0), 1);
    }

    /** What has mark 2 is a directory for this check, whatever the modes make of it. */
    private static void markedLinksThatMeet() {
        for (int links = 0; links < 8; links++) {
            Disc d = new Disc();
            d.directory(0, "a");
            d.directory(0, "b");
            d.master();
            int a = d.record(23, 2);
            int b = d.record(23, 3);
            int[] places = {23 * SECTOR, a, b};
            for (int i = 0; i < 3; i++) {
                if ((links >> i & 1) == 1) {
                    d.writeBoth(d.part(places[i], "PX") + 4, 4, 40960);
                }
            }
            d.mounts("links " + links + ", each at its own sector", 2, 3);
            for (int k = 0; k < 3; k++) {
                Check.same("links " + links + ", sort of node " + k, d.node(k, 1), (links >> k & 1) * 2);
            }
            for (int sector = 23; sector < 25; sector++) {
                d.writeBoth(b + 2, 4, sector);
                d.wrong("links " + links + ", b lies at " + sector, 2, b);
                d.wrong("links " + links + ", b lies at " + sector, 0, b);
            }
            d.writeBoth(b + 2, 4, 25);
            d.writeBoth(a + 2, 4, 23);
            d.wrong("links " + links + ", a lies where the root does", 2, a);
        }
    }

    /** A record without the mark is no directory for it, even if its mode says so. */
    private static void linksThatMeetDirectories() {
        int[] modes = {40960, 16384, 32768, 0};
        for (int mode : modes) {
            Disc d = new Disc();
            d.file(0, "a", 2048, 1);
            d.directory(0, "b");
            d.file(0, "c", 2048, 2);
            d.master();
            int b = d.record(23, 3);
            for (int k = 2; k < 5; k += 2) {
                d.writeBoth(d.record(23, k) + 2, 4, 24);
                d.writeBoth(d.part(d.record(23, k), "PX") + 4, 4, mode);
            }
            d.mounts("mode " + mode + " without the mark ahead of and behind a directory", 2, 4);
            Check.same("mode " + mode + ", its sort", d.node(1, 1), mode == 40960 ? 2 : 1);
            Check.same("mode " + mode + ", the directory's sort", d.node(2, 1), 0);
            d.writeBoth(b + 2, 4, 23);
            d.wrong("mode " + mode + ", the directory lies where the root does", 2, b);
        }
    }

    private static void depthOfMarkedLinks() {
        Disc d = new Disc();
        for (int n = 0; n < 7; n++) {
            d.directory(n, "d");
        }
        d.file(7, "f", 2048, 0);
        d.master();
        int at = d.record(30, 2);
        Check.same("the deepest one's file", d.identifier(at), "F.;1");
        d.writeBoth(d.part(at, "PX") + 4, 4, 40960);
        d.mounts("a link at a depth of 9", 2, 9);
        d.poke(at + 25, 2);
        d.wrong("with mark 2", 2, at);
    }

    private static void depth() {
        Disc d = new Disc();
        for (int n = 0; n < 7; n++) {
            d.directory(n, "d");
        }
        d.directory(0, "e");
        d.file(7, "f", 0, 0);
        d.master();
        d.mounts("a depth of 8", 0, 10);
        // The directory e becomes one in the deepest one.
        int deepest = 31;
        int e = 25;
        Check.same("the deepest one's file", d.identifier(d.record(deepest, 2)), "F.;1");
        Check.same("e", d.identifier(d.record(23, 3)), "E");
        d.poke(d.record(23, 3), 0);
        d.mounts("without e", 0, 9);
        int at = d.record(deepest, 2);
        d.writeBoth(at + 2, 4, e);
        d.writeBoth(at + 10, 4, 2048);
        d.poke(at + 25, 2);
        d.wrong("a depth of 9", 0, at);
        d.wrong("a depth of 9", 2, at);
    }

    /**
     * The root goes on over the sectors of its directory d, whose records of itself and of its parent become nodes that
     * lead to d and to e; its record of d leads to the second tree's root: so the 31 files of d are met three times.
     */
    private static Disc ninetyNine(int links) {
        Disc d = new Disc();
        d.directory(0, "d");
        d.directory(0, "e");
        for (int i = 0; i < 31; i++) {
            d.file(1, "f" + (char) ('a' + i / 26) + (char) ('a' + i % 26), 0, 0);
        }
        for (int i = 0; i < links; i++) {
            d.link(2, "l" + i, "t");
        }
        Check.same("sectors", d.master(), 30);
        d.writeBoth(Disc.FIRST + 156 + 10, 4, 3 * SECTOR);
        d.writeBoth(d.record(23, 2) + 2, 4, 27);
        d.writeBoth(d.record(23, 2) + 10, 4, SECTOR);
        d.poke(d.record(23, 3), 0);
        d.writeBoth(d.record(24, 1) + 2, 4, 26);
        return d;
    }

    private static void hundredthNode() {
        for (int view = 0; view < 3; view += 2) {
            Disc d = ninetyNine(0);
            d.mounts("99 nodes", view, 99);
            Check.same("the last one's name", d.nameOf(98), "\0f\0b\0e");
            Check.same("the last one's parent", d.node(98, 0), 35);
            Disc e = ninetyNine(1);
            e.wrong("the 100th node", view, e.record(28, 32));
            Disc f = ninetyNine(2);
            f.wrong("the 100th node, and one behind it", view, f.record(28, 31));
        }
    }

    private static void namesOfTheFirstView() {
        String[] identifiers = {"ABCDEF;1", "ABCDE.;1", "ABCDEFG.", "ABC.E..;", "ABCDEF;2", "ABCD;1;1",
            "ABCDEF.1", "\0\1\2\u00ff;;;1", ".;1", ";1", "1", ".", "..", "..;1", ";", ";1.", ";1;1"};
        String[] names = {"ABCDEF", "ABCDE", "ABCDEFG", "ABC.E..;", "ABCDEF;2", "ABCD;1",
            "ABCDEF.1", "\0\1\2\u00ff;;", "", "", "1", "", ".", ".", ";", ";1", ";1"};
        for (int i = 0; i < identifiers.length; i++) {
            Disc d = new Disc();
            d.file(0, "12345678.90x", 0, 0);
            d.master();
            int at = d.record(23, 2);
            d.poke(at + 32, identifiers[i].length());
            d.write(at + 33, identifiers[i]);
            d.mounts("identifier " + identifiers[i], 0, 2);
            Check.same("its name", d.nameOf(1), names[i]);
        }
        Disc d = new Disc();
        d.link(0, "a", "t".repeat(160));
        d.master();
        int at = d.record(23, 2);
        d.poke(at + 32, 62);
        d.write(at + 33, "n".repeat(60) + ";1");
        d.mounts("60 characters", 0, 2);
        Check.same("60 characters", d.nameOf(1), "n".repeat(60));
        d.poke(at + 32, 61);
        d.write(at + 33, "n".repeat(61));
        d.wrong("61 characters", 0, at);
        d.poke(at + 32, 63);
        d.write(at + 33, "n".repeat(60) + ".;1");
        d.mounts("60 characters and a .", 0, 2);
    }

    private static void namesOfTheSecondView() {
        Disc d = sample();
        int at = d.record(25, 2);
        for (int c : new int[] {32, 127, 0, 255}) {
            d.poke(at + 34, c);
            d.wrong("character " + c, 1, at);
        }
        for (int c : new int[] {33, 126, '/'}) {
            d.poke(at + 34, c);
            d.mounts("character " + c, 1, 4);
            Check.same("character " + c, d.name(1, 0), c);
        }
        d.poke(at + 33, 1);
        d.wrong("a character above 255", 1, at);
        d.poke(at + 33, 0);
        d.poke(at + 32, 19);
        d.wrong("an odd length", 1, at);
        d.poke(at + 32, 18);
        d.mounts("an even length", 1, 4);
        Check.same("nine characters", d.nameOf(1), "/lpha.tex");
        Disc e = new Disc();
        e.file(0, "a", 0, 0);
        e.master();
        int record = e.record(24, 2);
        e.poke(record, 160);
        for (int i = 0; i < 61; i++) {
            e.write(record + 33 + 2 * i, 0, 'n');
        }
        e.poke(record + 32, 120);
        e.mounts("60 characters", 1, 2);
        Check.same("60 characters", e.nameOf(1), "n".repeat(60));
        e.poke(record + 32, 122);
        e.wrong("61 characters", 1, record);
    }

    private static void charactersOfTheSecondView() {
        Disc d = sample();
        int at = d.record(25, 2);
        for (int i : new int[] {0, 9}) {
            for (int high = 0; high < 256; high += high < 2 ? 1 : 253) {
                for (int low : new int[] {0, 32, 33, 126, 127, 255}) {
                    d.write(at + 33 + 2 * i, high, low);
                    if (high == 0 && low >= 33 && low <= 126) {
                        d.mounts("character " + low, 1, 4);
                        Check.same("character " + low, d.name(1, i), low);
                    } else {
                        d.wrong("character " + high + " " + low, 1, at);
                    }
                }
            }
            d.write(at + 33 + 2 * i, 0, 'x');
        }
        for (int bytes = 1; bytes < 22; bytes += 2) {
            d.poke(at + 32, bytes);
            d.wrong("an identifier of " + bytes, 1, at);
        }
        d.poke(at + 32, 2);
        d.mounts("an identifier of 2", 1, 4);
        Check.same("one character", d.nameOf(1), "x");
        d.poke(at + 32, 0);
        d.wrong("an identifier of 0", 1, at);
    }

    private static void namesOfTheThirdViewByIdentifier() {
        Disc d = sample();
        int record = d.record(23, 2);
        d.write(d.part(record, "NM"), "XX");
        // Behind ten or eleven bytes of an identifier the parts begin at the same place.
        String[] identifiers = {"ALPHA.TE;1", "ALPHATEX.;1", "ALPHATEXT;2", "ALPHATEXT.", "ALPHA.TEXT"};
        String[] names = {"ALPHA.TE", "ALPHATEX", "ALPHATEXT;2", "ALPHATEXT", "ALPHA.TEXT"};
        for (int i = 0; i < names.length; i++) {
            d.poke(record + 32, identifiers[i].length());
            d.write(record + 33, identifiers[i]);
            d.mounts("without NM", 2, 5);
            Check.same("the name is as in view 0", d.nameOf(1), names[i]);
            Check.same("the parts are read", d.node(1, 4), 32768 + 420);
        }
        Disc e = linkSample();
        int link = e.record(23, 2);
        e.poke(link, 95);
        e.poke(link + 95, 0);
        e.poke(link + 32, 62);
        e.write(link + 33, "n".repeat(60) + ";1");
        e.mounts("60 characters", 2, 2);
        Check.same("60 characters", e.nameOf(1), "n".repeat(60));
        Check.same("no mode", e.node(1, 4), 0);
    }

    private static void parts() {
        Disc d = sample();
        int record = d.record(23, 2);
        int px = d.part(record, "PX");
        int nm = d.part(record, "NM");
        for (int bytes : new int[] {0, 1, 3}) {
            d.poke(px + 2, bytes);
            d.wrong("a part of " + bytes, 2, px);
            d.mounts("by view 0", 0, 5);
        }
        d.poke(px + 2, 36);
        int left = record + d.byteAt(record) - nm;
        d.poke(nm + 2, left + 1);
        d.wrong("a part over the record's end", 2, nm);
        d.write(px, "XY");
        d.poke(nm + 2, 15);
        d.mounts("another part is left", 2, 5);
        Check.same("no mode", d.node(1, 4), 0);
        Check.same("no owner", d.node(1, 5), 0);
        Check.same("no group", d.node(1, 6), 0);
        Check.same("a name", d.nameOf(1), "Alpha.text");
        d.poke(px + 3, 9);
        d.poke(px + 2, 4);
        d.write(px + 4, "ZZ");
        d.write(px + 6, 32, 1);
        d.mounts("a part of four bytes is left", 2, 5);
        d.write(nm, "XY");
        d.mounts("no name", 2, 5);
        Check.same("the name is as in view 0", d.nameOf(1), "ALPHA.TEX");
        Disc e = sample();
        e.poke(e.record(23, 2), e.systemUse(e.record(23, 2)) - e.record(23, 2) + 3);
        e.poke(e.record(23, 2) + e.byteAt(e.record(23, 2)), 0);
        e.mounts("less than four bytes", 2, 2);
        Check.same("the name is as in view 0", e.nameOf(1), "ALPHA.TEX");
        Disc f = sample();
        int at = f.part(f.record(23, 3), "NM");
        int end = f.record(23, 3) + f.byteAt(f.record(23, 3));
        f.writePart(at, "ZZ", new int[end - at - 8]);
        f.writePart(end - 4, "ZZ");
        f.mounts("four bytes are a part", 2, 5);
        f.poke(end - 2, 3);
        f.wrong("four bytes are a part", 2, end - 4);
        f.writePart(at, "ZZ", new int[end - at - 7]);
        f.mounts("three bytes are none", 2, 5);
    }

    private static void partNM() {
        Disc d = sample();
        int nm = d.part(d.record(23, 2), "NM");
        d.poke(nm + 4, 1);
        d.wrong("NM with a flag", 2, nm);
        d.poke(nm + 4, 0);
        d.poke(nm + 2, 4);
        d.wrong("NM of four bytes", 2, nm);
        d.poke(nm + 2, 5);
        d.writePart(nm + 5, "NM", 0, 'x');
        d.writePart(nm + 11, "ZZ");
        d.mounts("NM of five bytes and one behind it", 2, 5);
        Check.same("its name", d.nameOf(1), "x");
        d.writePart(nm, "NM", 0, 200, 'y');
        d.writePart(nm + 7, "NM", 0, 0, 'z', 'z');
        d.mounts("two NM", 2, 5);
        Check.same("its name", d.nameOf(1), "\u00c8y\0zz");
        d.writePart(nm, "NM", 0);
        d.writePart(nm + 5, "ZZ", 0, 0, 0, 0, 0, 0);
        d.mounts("NM without a name", 2, 5);
        Check.same("its name", d.nameOf(1), "");

        Disc e = new Disc();
        e.link(0, "a", "t".repeat(160));
        e.master();
        int at = e.part(e.record(23, 2), "NM");
        int[] data = new int[31];
        java.util.Arrays.fill(data, 'n');
        data[0] = 0;
        e.writePart(at, "NM", data);
        e.writePart(at + 35, "NM", data);
        e.writePart(at + 70, "ZZ", new int[100]);
        e.mounts("60 characters", 2, 2);
        Check.same("60 characters", e.nameOf(1), "n".repeat(60));
        e.writePart(at + 70, "NM", 0);
        e.writePart(at + 75, "ZZ", new int[95]);
        e.mounts("60 characters and none", 2, 2);
        e.writePart(at + 70, "NM", 0, 'n');
        e.writePart(at + 76, "ZZ", new int[94]);
        e.wrong("61 characters", 2, at + 70);
    }

    private static void partPX() {
        Disc d = sample();
        int px = d.part(d.record(23, 2), "PX");
        for (int i = 4; i < 36; i++) {
            d.poke(px + i, d.byteAt(px + i) ^ 1);
            d.wrong("byte " + i + " of PX", 2, px);
            d.poke(px + i, d.byteAt(px + i) ^ 1);
        }
        int[] numbers = {-1, 9, Integer.MIN_VALUE, 0x01020304};
        for (int i = 0; i < 4; i++) {
            d.writeBoth(px + 4 + 8 * i, 4, numbers[i]);
        }
        d.writeBoth(px + 4, 4, -61440);
        d.mounts("other numbers", 2, 5);
        Check.same("mode", d.node(1, 4), -61440);
        Check.same("owner", d.node(1, 5), Integer.MIN_VALUE);
        Check.same("group", d.node(1, 6), 0x01020304);
        d.poke(px + 2, 37);
        d.wrong("PX of 37 bytes", 2, px);
        d.poke(px + 2, 35);
        d.wrong("PX of 35 bytes", 2, px);
        d.poke(px + 2, 4);
        d.wrong("PX of 4 bytes", 2, px);
    }

    /** The root's only node is a link with room for 167 bytes of SL. */
    private static Disc linkSample() {
        Disc d = new Disc();
        d.link(0, "a", "t".repeat(160));
        d.master();
        return d;
    }

    private static void components(String what, String due, int... data) {
        Disc d = linkSample();
        int sl = d.part(d.record(23, 2), "SL");
        d.writePart(sl, "SL", data);
        d.writePart(sl + 4 + data.length, "ZZ", new int[167 - 8 - data.length]);
        if (due == null) {
            d.wrong(what, 2, sl);
        } else {
            d.mounts(what, 2, 2);
            Check.same(what, d.targetOf(1), due);
        }
    }

    private static void partSL() {
        components("one component", "ab", 0, 0, 2, 'a', 'b');
        components("two components", "a/b", 0, 0, 1, 'a', 0, 1, 'b');
        components("here", ".", 0, 2, 0);
        components("up", "..", 0, 4, 0);
        components("the root's alone", "/", 0, 8, 0);
        components("the root's and another", "/a", 0, 8, 0, 0, 1, 'a');
        components("the root's between", "a//b", 0, 0, 1, 'a', 8, 0, 0, 1, 'b');
        components("the root's at the end", "a/", 0, 0, 1, 'a', 8, 0);
        components("the root's twice", "/", 0, 8, 0, 8, 0);
        components("up, here and up", ".././..", 0, 4, 0, 2, 0, 4, 0);
        components("no component", "", 0);
        components("an empty component", "", 0, 0, 0);
        components("two empty components", "/", 0, 0, 0, 0, 0);
        components("any byte", "\0\u00ff", 0, 0, 2, 0, 255);
        components("a flag", null, 1, 0, 1, 'a');
        components("four bytes", null);
        components("mark 1", null, 0, 1, 1, 'a');
        components("mark 6", null, 0, 6, 0);
        components("mark 16", null, 0, 16, 0);
        components("here with a byte", null, 0, 2, 1, '.');
        components("up with bytes", null, 0, 4, 2, '.', '.');
        components("the root's with a byte", null, 0, 8, 1, '/');
        components("half a component", null, 0, 0, 1, 'a', 0);
        components("half a component at once", null, 0, 0);
        components("a component over the end", null, 0, 0, 2, 'a');

        Disc four = linkSample();
        int short4 = four.part(four.record(23, 2), "SL");
        four.writePart(short4, "SL");
        four.write(short4 + 4, 0, 'Z', 163, 1);
        four.wrong("four bytes, a byte 0 behind them", 2, short4);
        four.writePart(short4, "SL", 0);
        four.write(short4 + 5, 0, 'Z', 162, 1);
        four.mounts("five bytes, a byte 0 behind them", 2, 2);

        Disc d = linkSample();
        int sl = d.part(d.record(23, 2), "SL");
        d.writePart(sl, "SL", 0, 8, 0);
        d.writePart(sl + 7, "SL", 0, 0, 1, 'a');
        d.writePart(sl + 15, "SL", 0);
        d.writePart(sl + 20, "SL", 0, 4, 0);
        d.writePart(sl + 27, "ZZ", new int[167 - 31]);
        d.mounts("several SL", 2, 2);
        Check.same("several SL", d.targetOf(1), "/a/..");
    }

    private static void targetsTooLong() {
        for (int last = 19; last <= 21; last++) {
            Disc d = new Disc();
            d.link(0, "a", "t".repeat(190));
            d.master();
            // 190, a / and 190 more make 381; a / and what comes last make the rest.
            int run = 25 * SECTOR;
            int[] data = new int[193];
            java.util.Arrays.fill(data, 'u');
            data[0] = 0;
            data[1] = 0;
            data[2] = 190;
            d.writePart(run + 197, "SL", data);
            int[] rest = new int[3 + last];
            java.util.Arrays.fill(rest, 'v');
            rest[0] = 0;
            rest[1] = 0;
            rest[2] = last;
            d.writePart(run + 394, "SL", rest);
            int ce = d.part(d.record(23, 2), "CE");
            d.writeBoth(ce + 20, 4, 394 + 7 + last);
            if (382 + last <= 400) {
                d.mounts("400 characters", 2, 2);
            } else {
                d.wrong("above 400 characters", 2, run + 394);
            }
            d.writeBoth(ce + 20, 4, 394);
            d.mounts("381 characters", 2, 2);
            Check.same("381 characters", d.targetOf(1), "t".repeat(190) + "/" + "u".repeat(190));
        }
        Disc d = new Disc();
        d.link(0, "a", "t".repeat(200));
        d.master();
        int run = 25 * SECTOR;
        int[] data = new int[202];
        java.util.Arrays.fill(data, 'u');
        data[0] = 0;
        data[1] = 0;
        data[2] = 199;
        d.writePart(run + 207, "SL", data);
        d.writeBoth(d.part(d.record(23, 2), "CE") + 20, 4, 207 + 206);
        d.mounts("400 characters", 2, 2);
        Check.same("400 characters", d.targetOf(1), "t".repeat(200) + "/" + "u".repeat(199));
        Check.same("400 characters", d.node(1, 8), 400);
        d.writePart(run + 413, "SL", 0, 8, 0);
        d.writeBoth(d.part(d.record(23, 2), "CE") + 20, 4, 207 + 206 + 7);
        d.wrong("401 characters", 2, run + 413);
    }

    private static void partCE() {
        Disc d = new Disc();
        d.link(0, "a", "t".repeat(200));
        d.master();
        int ce = d.part(d.record(23, 2), "CE");
        for (int i = 4; i < 28; i++) {
            d.poke(ce + i, d.byteAt(ce + i) ^ 1);
            d.wrong("byte " + i + " of CE", 2, ce);
            d.mounts("by view 0", 0, 2);
            d.poke(ce + i, d.byteAt(ce + i) ^ 1);
        }
        d.poke(ce + 2, 27);
        d.wrong("CE of 27 bytes", 2, ce);
        d.poke(ce + 2, 28);
        d.mounts("CE of 28 bytes", 2, 2);
        d.poke(d.record(23, 2), d.byteAt(d.record(23, 2)) + 2);
        d.poke(ce + 2, 29);
        d.wrong("CE of 29 bytes", 2, ce);
        d.poke(ce + 2, 28);
        d.poke(d.record(23, 2), d.byteAt(d.record(23, 2)) - 2);
        int total = d.sectors();
        int[][] wrong = {{total, 0, 4}, {-1, 0, 4}, {25, -1, 4}, {25, 0, -1}, {25, 1, 2048}, {25, 2047, 2},
            {25, 2048, 1}, {24, 0, 2049}, {25, Integer.MAX_VALUE, Integer.MAX_VALUE}, {Integer.MIN_VALUE, 0, 4},
            {25, Integer.MIN_VALUE, 4}, {25, 0, Integer.MIN_VALUE}, {25 + (1 << 24), 0, 207}, {25, 1 << 24, 207},
            {25, 0, (1 << 24) + 207}, {25 + (1 << 16), 0, 207}, {25, 1 << 16, 207}, {25, 0, (1 << 16) + 207}};
        for (int[] w : wrong) {
            d.writeContinuation(ce, w[0], w[1], w[2]);
            d.wrong("CE to " + w[0] + " " + w[1] + " " + w[2], 2, ce);
        }
        d.writeContinuation(ce, 25, 2045, 3);
        d.mounts("CE to three bytes", 2, 2);
        Check.same("no target", d.node(1, 8), 0);
        d.writeContinuation(ce, 25, 0, 2048);
        d.wrong("CE to a whole sector", 2, 25 * SECTOR + 207);
        d.writeContinuation(ce, 0, 0, 4);
        d.wrong("CE to the first sector, where no part is", 2, 0);
        d.writeContinuation(ce, 25, 2048, 0);
        d.mounts("CE to no bytes", 2, 2);
        d.writeContinuation(ce, 25, 0, 206);
        d.wrong("a part over the run's end", 2, 25 * SECTOR);
        d.writeContinuation(ce, 25, 0, 207);
        d.poke(25 * SECTOR + 4, 1);
        d.wrong("a flag in the run", 2, 25 * SECTOR);
        d.cut(25);
        d.wrong("the run is cut off", 2, ce);
    }

    private static void manyCE() {
        Disc d = new Disc();
        d.link(0, "a", "t".repeat(200));
        d.master();
        int ce = d.part(d.record(23, 2), "CE");
        int run = 25 * SECTOR;
        // The first run leads to the second one, and parts behind its CE come first.
        d.writeContinuation(run, 25, 100, 8);
        d.writePart(run + 28, "SL", 0, 0, 1, 'a');
        d.writePart(run + 100, "SL", 0, 0, 1, 'b');
        d.writePart(run + 200, "SL", 0, 0, 1, 'c');
        d.writeContinuation(ce, 25, 0, 36);
        d.mounts("a run behind a run", 2, 2);
        Check.same("their order", d.targetOf(1), "a/b");
        d.writeContinuation(run + 36, 25, 200, 8);
        d.writeContinuation(ce, 25, 0, 64);
        d.mounts("of several the last one", 2, 2);
        Check.same("their order", d.targetOf(1), "a/c");
        // Five runs, each with a CE to the next one.
        for (int i = 0; i < 6; i++) {
            d.writeContinuation(run + 300 + 40 * i, 25, 300 + 40 * (i + 1), 36);
            d.writePart(run + 328 + 40 * i, "SL", 0, 0, 1, 'p' + i);
        }
        d.writeContinuation(ce, 25, 300, 36);
        d.wrong("the sixth CE", 2, run + 300 + 40 * 4);
        d.write(run + 300 + 40 * 4, "ZZ");
        d.mounts("five CE", 2, 2);
        Check.same("their order", d.targetOf(1), "p/q/r/s/t");
        d.writeContinuation(run + 300, 25, 300, 28);
        d.writeContinuation(ce, 25, 300, 28);
        d.wrong("a CE to itself", 2, run + 300);
        d.writeContinuation(ce, ce / SECTOR, ce % SECTOR, 28);
        d.wrong("a CE in the record to itself", 2, ce);
    }

    /** Of several in the same bytes the last one alone is gone through, and it alone counts. */
    private static void severalCEInTheRecord() {
        Disc d = new Disc();
        d.file(0, "a", 2048, 0);
        d.master();
        int record = d.record(23, 2);
        int first = record + d.byteAt(record);
        int contents = d.low(record + 2, 4);
        d.writePart(contents * SECTOR, "NM", 0, 'x');
        d.writePart(contents * SECTOR + 6, "NM", 0, 'y');
        for (int n = 1; n <= 6; n++) {
            d.poke(record, 80 + 28 * n);
            d.writeContinuation(first + 28 * (n - 1), contents, 6, 6);
            d.mounts(n + " CE in the record", 2, 2);
            Check.same(n + " CE in the record, name", d.nameOf(1), "ay");
            d.writeContinuation(first + 28 * (n - 1), contents, 0, 6);
            d.mounts(n + " CE in the record", 2, 2);
            Check.same(n + " CE in the record, the last one's name", d.nameOf(1), "ax");
        }
        d.poke(first + 4, 1);
        d.wrong("halves of one that is not gone through", 2, first);
        d.writeContinuation(first, d.sectors(), 0, 6);
        d.wrong("one outside of the image that is not gone through", 2, first);
        d.writeContinuation(first, contents, 0, 6);
        d.writeContinuation(first + 28 * 5, d.sectors(), 0, 6);
        d.wrong("the last one outside of the image", 2, first + 28 * 5);
    }

    /** Five runs of two CE each, of which the second one leads to the next run: eleven CE with the record's. */
    private static Disc runsOfTwo() {
        Disc d = new Disc();
        d.link(0, "a", "t".repeat(200));
        d.master();
        for (int i = 0; i < 5; i++) {
            int run = 25 * SECTOR + 100 * i;
            d.writePart(run, "SL", 0, 0, 1, 'p' + i);
            d.writeContinuation(run + 8, 25, 0, 64);
            d.writeContinuation(run + 36, 25, 100 * (i + 1), 64);
        }
        d.writeContinuation(d.part(d.record(23, 2), "CE"), 25, 0, 64);
        return d;
    }

    private static void severalCEInEachRun() {
        Disc d = runsOfTwo();
        int fifth = 25 * SECTOR + 400;
        d.wrong("the fifth run has two more: the last one is to be gone through", 2, fifth + 36);
        d.write(fifth + 36, "ZZ");
        d.wrong("the fifth run has one more", 2, fifth + 8);
        d.write(fifth + 8, "ZZ");
        d.mounts("nine CE, five of them gone through", 2, 2);
        Check.same("their order", d.targetOf(1), "p/q/r/s/t");
        d.writeContinuation(25 * SECTOR + 300 + 36, 25, 500, 0);
        d.mounts("the fifth one without bytes", 2, 2);
        Check.same("their order", d.targetOf(1), "p/q/r/s");
    }

    /** The fifth run is gone through to its end before the sixth one's turn comes. */
    private static void sixthCE() {
        Disc d = runsOfTwo();
        int sixth = 25 * SECTOR + 400 + 36;
        d.writeContinuation(sixth, 25, 2048, 0);
        d.wrong("the sixth one without bytes", 2, sixth);
        d.writeContinuation(sixth, d.sectors(), 0, 0);
        d.wrong("the sixth one outside of the image", 2, sixth);
        d.poke(sixth + 2, 3);
        d.wrong("a part that is none behind a CE", 2, sixth);
        d.poke(sixth + 2, 28);
        d.write(sixth, "NM");
        d.poke(sixth + 4, 1);
        d.wrong("an NM that is wrong behind a CE", 2, sixth);
    }

    private static void sortsByMode() {
        Disc d = sample();
        int px = d.part(d.record(23, 2), "PX");
        d.writeBoth(px + 4, 4, 40960);
        d.mounts("a file with a link's mode", 2, 5);
        Check.same("its sort", d.node(1, 1), 2);
        d.mounts("by view 0", 0, 5);
        Check.same("its sort by view 0", d.node(1, 1), 1);
        d.writeBoth(px + 4, 4, 40960 + 4095 + 65536);
        d.mount(2);
        Check.same("other bits", d.node(1, 1), 2);
        d.writeBoth(px + 4, 4, 40960 + 16384);
        d.mount(2);
        Check.same("one bit more", d.node(1, 1), 1);
        int link = d.part(d.record(23, 4), "PX");
        d.writeBoth(link + 4, 4, 33188);
        d.mount(2);
        Check.same("a link with a file's mode", d.node(3, 1), 1);
        int directory = d.part(d.record(23, 3), "PX");
        d.writeBoth(directory + 4, 4, 40960);
        d.mounts("a directory with a link's mode is not gone through", 2, 4);
        Check.same("its sort", d.node(2, 1), 2);
        d.mounts("by view 0 it is", 0, 5);
        Check.same("its sort by view 0", d.node(2, 1), 0);
    }

    private static void rootsParts() {
        Disc d = sample();
        d.own(0, 1, 2, 3);
        d.master();
        int px = d.part(23 * SECTOR, "PX");
        d.poke(px + 4, 99);
        d.wrong("root's PX", 2, px);
        d.mounts("by view 0", 0, 5);
        d.poke(px + 4, 1);
        d.write(px, "XY");
        d.mounts("root without PX", 2, 5);
        Check.same("its mode", d.node(0, 4), 0);
        d.write(px, "PX");
        int other = d.part(d.record(23, 1), "PX");
        d.poke(other + 4, 99);
        d.poke(d.part(d.record(24, 0), "PX") + 4, 99);
        d.mounts("the records of parents, and of others of themselves, are not looked at so far", 2, 5);
        Check.same("root's mode", d.node(0, 4), 16385);
        Check.same("root's owner", d.node(0, 5), 2);
        Check.same("root's group", d.node(0, 6), 3);
        Check.same("root's name", d.node(0, 7), 0);
        d.writePart(23 * SECTOR + 34, "NM", 0, 'x', 'y');
        d.mounts("an NM in the root's record of itself", 2, 5);
        Check.same("root's name", d.node(0, 7), 0);
        Check.noSuch("root's name", () -> d.name(0, 0));
    }

    private static void firstWrongPlace() {
        Disc d = sample();
        d.poke(d.record(24, 0) + 25, 0);
        d.wrong("in the second directory", 0, d.record(24, 0));
        int last = d.record(23, 4);
        d.poke(last + 2, 1);
        d.wrong("and at the end of the root", 0, last);
        int nm = d.part(d.record(23, 3), "NM");
        d.poke(nm + 4, 1);
        d.wrong("and in a part ahead of it", 2, nm);
        d.wrong("which view 0 leaves", 0, last);
        d.poke(Disc.FIRST + 156 + 25, 0);
        d.wrong("and in the root's record", 2, Disc.FIRST + 156);
        d.poke(Disc.FIRST + 128, 1);
        d.wrong("and in the block size", 2, Disc.FIRST + 128);
        d.poke(Disc.LAST + 1, 1);
        d.wrong("and in the end", 2, Disc.LAST);
        Disc e = sample();
        for (int i = 0; i < 80; i++) {
            e.poke((19 + i % 4) * SECTOR + i / 4, 1);
        }
        e.mounts("path tables are not looked at", 0, 5);
        e.mounts("path tables are not looked at", 1, 4);
    }
}
