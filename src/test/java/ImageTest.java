/** Promises 9 to 12: sectors, byteAt, poke and cut. */
public final class ImageTest {
    public static void main(String[] args) {
        bytesOfTheImage();
        pokes();
        cuts();
        Check.finish();
    }

    private static void bytesOfTheImage() {
        Disc d = new Disc();
        d.file(0, "a", 2048, 1);
        Check.same("sectors before", d.x.sectors(), 0);
        Check.same("master", d.x.master(), 26);
        Check.same("sectors", d.x.sectors(), 26);
        Check.same("the first byte", d.x.byteAt(0), 0);
        Check.same("a byte above 127", d.x.byteAt(18 * 2048), 255);
        Check.same("the last byte", d.x.byteAt(26 * 2048 - 1), (1 + 2047 * 2047 + 2047 / 256) % 256);
        for (int address : new int[] {26 * 2048, -1, Integer.MIN_VALUE, Integer.MAX_VALUE}) {
            Check.same("byteAt(" + address + ")", d.x.byteAt(address), DiscMaker.NONE);
            Check.same("poke(" + address + ")", d.x.poke(address, 1), DiscMaker.NONE);
        }
    }

    private static void pokes() {
        Disc d = new Disc();
        d.x.master();
        Check.same("what it was", d.x.poke(32769, 300), 'C');
        Check.same("its lowest eight bits", d.x.byteAt(32769), 44);
        Check.same("what it was", d.x.poke(32769, -1), 44);
        Check.same("below 0", d.x.byteAt(32769), 255);
        Check.same("what it was", d.x.poke(32769, 256), 255);
        Check.same("0", d.x.byteAt(32769), 0);
        Check.same("its neighbours stay", d.x.byteAt(32770), 'D');
        Check.same("its neighbours stay", d.x.byteAt(32768), 1);
        Check.same("the first one", d.x.poke(0, 7), 0);
        Check.same("the last one", d.x.poke(25 * 2048 - 1, 8), 0);
        Check.same("the last one", d.x.byteAt(25 * 2048 - 1), 8);
    }

    private static void cuts() {
        Disc d = new Disc();
        d.x.master();
        Check.no("more than it has", d.x.cut(26));
        Check.no("below 0", d.x.cut(-1));
        Check.no("far below 0", d.x.cut(Integer.MIN_VALUE));
        Check.no("far above", d.x.cut(Integer.MAX_VALUE));
        Check.same("nothing changed", d.x.sectors(), 25);
        Check.yes("all that it has", d.x.cut(25));
        Check.same("nothing is lost", d.x.byteAt(25 * 2048 - 1), 0);
        Check.yes("cut(18)", d.x.cut(18));
        Check.same("sectors", d.x.sectors(), 18);
        Check.same("behind it", d.x.byteAt(18 * 2048), DiscMaker.NONE);
        Check.same("ahead of it", d.x.byteAt(17 * 2048), 2);
        Check.no("it does not come back", d.x.cut(25));
        d.wrong("without the end", 0, 18 * 2048);
        Check.yes("cut(0)", d.x.cut(0));
        Check.same("sectors", d.x.sectors(), 0);
        Check.same("no byte", d.x.byteAt(0), DiscMaker.NONE);
        d.wrong("without a sector", 1, 32768);
        Check.same("master again", d.x.master(), 25);
        d.mounts("whole again", 0, 1);
    }
}
