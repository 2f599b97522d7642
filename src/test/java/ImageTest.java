/** Promises 9 to 12: sectors, byteAt, poke and cut. */
public final class ImageTest {
    private static final int SECTOR = Disc.SECTOR;
    private static final int[] ENDS_OF_INT = {Integer.MIN_VALUE, Integer.MIN_VALUE + 1, Integer.MAX_VALUE - 1,
        Integer.MAX_VALUE};

    public static void main(String[] args) {
        sectorsOfTheImage();
        bytesOfTheImage();
        bytesOutsideOfIt();
        pokes();
        pokesOutsideOfIt();
        pokedValues();
        cuts();
        refusedCuts();
        cutsToEverySize();
        cutsToNothing();
        whatWasReadStays();
        Check.finish();
    }

    /** 26 sectors: the last one is the contents of a file. */
    private static Disc sample() {
        Disc d = new Disc();
        d.file(0, "a", 2048, 1);
        d.master();
        return d;
    }

    private static void sectorsOfTheImage() {
        Disc d = new Disc();
        Check.same("no image", d.sectors(), 0);
        d.file(0, "a", 2048, 1);
        Check.same("a tree is no image", d.sectors(), 0);
        Check.same("master", d.master(), 26);
        Check.same("an image", d.sectors(), 26);
        d.file(0, "b", 2048, 2);
        Check.same("the image before", d.sectors(), 26);
        d.mount(0);
        Check.same("mount leaves it", d.sectors(), 26);
        Check.same("master", d.master(), 27);
        Check.same("the image in its place", d.sectors(), 27);
    }

    private static void bytesOfTheImage() {
        Disc d = sample();
        Check.same("the first byte", d.byteAt(0), 0);
        Check.same("a byte above 127", d.byteAt(18 * SECTOR), 255);
        Check.same("a byte in the midst", d.byteAt(16 * SECTOR + 1), 'C');
        Check.same("the last byte but one", d.byteAt(26 * SECTOR - 2), (1 + 2046 * 2046 + 7) % 256);
        Check.same("the last byte", d.byteAt(26 * SECTOR - 1), (1 + 2047 * 2047 + 7) % 256);
        Check.same("asking changes nothing", d.byteAt(26 * SECTOR - 1), (1 + 2047 * 2047 + 7) % 256);
    }

    private static void bytesOutsideOfIt() {
        Disc none = new Disc();
        Disc d = sample();
        for (int address : new int[] {-1, -2048, 26 * SECTOR, 26 * SECTOR + 1}) {
            Check.same("byteAt(" + address + ")", d.byteAt(address), DiscMaker.NONE);
        }
        for (int address : ENDS_OF_INT) {
            Check.same("byteAt(" + address + ")", d.byteAt(address), DiscMaker.NONE);
            Check.same("without an image", none.byteAt(address), DiscMaker.NONE);
        }
        Check.same("without an image", none.byteAt(0), DiscMaker.NONE);
        Check.same("without an image", none.byteAt(32768), DiscMaker.NONE);
    }

    private static void pokes() {
        Disc d = sample();
        Check.same("what it was", d.poke(32769, 300), 'C');
        Check.same("its lowest eight bits", d.byteAt(32769), 44);
        Check.same("what it was", d.poke(32769, -1), 44);
        Check.same("below 0", d.byteAt(32769), 255);
        Check.same("what it was", d.poke(32769, 256), 255);
        Check.same("0", d.byteAt(32769), 0);
        Check.same("its neighbours stay", d.byteAt(32770), 'D');
        Check.same("its neighbours stay", d.byteAt(32768), 1);
        Check.same("the first one", d.poke(0, 7), 0);
        Check.same("the first one", d.byteAt(0), 7);
        Check.same("the last one", d.poke(26 * SECTOR - 1, 8), (1 + 2047 * 2047 + 7) % 256);
        Check.same("the last one", d.byteAt(26 * SECTOR - 1), 8);
        Check.same("the sectors stay", d.sectors(), 26);
    }

    private static void pokesOutsideOfIt() {
        Disc none = new Disc();
        Disc d = sample();
        for (int address : new int[] {-1, -2048, 26 * SECTOR, 26 * SECTOR + 1}) {
            Check.same("poke(" + address + ")", d.poke(address, 1), DiscMaker.NONE);
        }
        for (int address : ENDS_OF_INT) {
            Check.same("poke(" + address + ")", d.poke(address, 1), DiscMaker.NONE);
            Check.same("without an image", none.poke(address, 1), DiscMaker.NONE);
        }
        Check.same("without an image", none.poke(0, 1), DiscMaker.NONE);
        Check.same("there is none yet", none.sectors(), 0);
        Check.same("the sectors stay", d.sectors(), 26);
        Check.same("the first byte stays", d.byteAt(0), 0);
        Check.same("the last byte stays", d.byteAt(26 * SECTOR - 1), (1 + 2047 * 2047 + 7) % 256);
    }

    private static void pokedValues() {
        Disc d = sample();
        int[] values = {0, 1, 127, 128, 255, 256, 257, -1, -128, -129, -256, Integer.MIN_VALUE, Integer.MAX_VALUE};
        int before = 0;
        for (int value : values) {
            Check.same("poke(100, " + value + ")", d.poke(100, value), before);
            before = value & 255;
            Check.same("its lowest eight bits", d.byteAt(100), before);
        }
    }

    private static void cuts() {
        Disc d = sample();
        Check.yes("all that it has", d.cut(26));
        Check.same("nothing is lost", d.byteAt(26 * SECTOR - 1), (1 + 2047 * 2047 + 7) % 256);
        Check.yes("cut(18)", d.cut(18));
        Check.same("sectors", d.sectors(), 18);
        Check.same("behind it", d.byteAt(18 * SECTOR), DiscMaker.NONE);
        Check.same("behind it", d.poke(18 * SECTOR, 1), DiscMaker.NONE);
        Check.same("ahead of it", d.byteAt(18 * SECTOR - 1), 0);
        Check.same("ahead of it", d.byteAt(17 * SECTOR), 2);
        Check.no("it does not come back", d.cut(26));
        Check.no("it does not come back", d.cut(19));
        d.wrong("without the end", 0, 18 * SECTOR);
        Check.same("master again", d.master(), 26);
        Check.same("whole again", d.byteAt(18 * SECTOR), 255);
        d.mounts("whole again", 0, 2);
    }

    private static void refusedCuts() {
        Disc none = new Disc();
        Disc d = sample();
        for (int n : new int[] {-1, 27, -26}) {
            Check.no("cut(" + n + ")", d.cut(n));
        }
        for (int n : ENDS_OF_INT) {
            Check.no("cut(" + n + ")", d.cut(n));
            Check.no("without an image", none.cut(n));
        }
        Check.no("without an image", none.cut(1));
        Check.no("without an image", none.cut(-1));
        Check.yes("without an image it has as many as 0", none.cut(0));
        Check.same("nothing changed", d.sectors(), 26);
        Check.same("nothing changed", d.byteAt(26 * SECTOR - 1), (1 + 2047 * 2047 + 7) % 256);
        d.mounts("nothing changed", 0, 2);
    }

    private static void cutsToEverySize() {
        Disc d = sample();
        for (int n = 25; n >= 0; n--) {
            Check.no("one more than it has", d.cut(n + 2));
            Check.yes("cut(" + n + ")", d.cut(n));
            Check.same("sectors", d.sectors(), n);
            Check.same("behind it", d.byteAt(n * SECTOR), DiscMaker.NONE);
            Check.yes("ahead of it", n == 0 || d.byteAt(n * SECTOR - 1) >= 0);
        }
    }

    private static void cutsToNothing() {
        Disc d = sample();
        Check.yes("cut(0)", d.cut(0));
        Check.same("sectors", d.sectors(), 0);
        Check.same("no byte", d.byteAt(0), DiscMaker.NONE);
        Check.same("no byte", d.poke(0, 1), DiscMaker.NONE);
        for (int view = 0; view < 3; view++) {
            d.wrong("without a sector", view, 32768);
        }
        Check.no("cut(1)", d.cut(1));
        Check.yes("cut(0) again", d.cut(0));
        Check.same("master again", d.master(), 26);
        d.mounts("whole again", 0, 2);
    }

    private static void whatWasReadStays() {
        Disc d = sample();
        d.mount(1);
        d.poke(16 * SECTOR, 9);
        d.poke(24 * SECTOR + 68 + 34, 'z');
        Check.same("behind pokes", d.nameOf(1), "a");
        d.cut(3);
        Check.same("behind a cut", d.nameOf(1), "a");
        Check.same("behind a cut", d.node(1, 2), 2048);
        Check.same("behind a cut", d.node(0, 3), 24);
        Check.no("behind a refused cut", d.cut(4));
        Check.same("behind a refused cut", d.nameOf(1), "a");
    }
}
