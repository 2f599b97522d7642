/** Promise 1, and the constants. */
public final class NewObjectTest {
    public static void main(String[] args) {
        Check.same("NONE", DiscMaker.NONE, -1);
        Check.same("NAMED", DiscMaker.NAMED, -2);
        Check.same("FULL", DiscMaker.FULL, -3);
        Check.same("WRONG", DiscMaker.WRONG, -4);
        hasNoImage();
        hasTheRootAlone();
        objectsAreApart();
        Check.finish();
    }

    private static void hasNoImage() {
        DiscMaker x = new DiscMaker();
        Check.same("sectors", x.sectors(), 0);
        Check.same("byteAt(0)", x.byteAt(0), DiscMaker.NONE);
        Check.same("poke(0, 1)", x.poke(0, 1), DiscMaker.NONE);
        Check.no("cut(1)", x.cut(1));
        Check.yes("cut(0), as many as it has", x.cut(0));
        for (int view = 0; view < 3; view++) {
            Check.same("mount", x.mount(view), -1 - 32768);
        }
        Check.noSuch("node(0, 0)", () -> x.node(0, 0));
        Check.noSuch("name(0, 0)", () -> x.name(0, 0));
        Check.noSuch("target(0, 0)", () -> x.target(0, 0));
        Check.noSuch("read(0, 0)", () -> x.read(0, 0));
    }

    private static void hasTheRootAlone() {
        Disc d = new Disc();
        Check.no("end(1) without a text", d.end(1));
        Check.yes("end(0) without a text", d.end(0));
        Check.no("own(1)", d.own(1, 0, 0, 0));
        Check.same("there is no directory 1", d.file(1, "a", 0, 0), DiscMaker.WRONG);
        Check.same("master", d.master(), 25);
        for (int view = 0; view < 3; view++) {
            d.mounts("the root alone", view, 1);
        }
        Check.same("its mode", d.node(0, 4), 16877);
        Check.same("its owner", d.node(0, 5), 0);
        Check.same("its group", d.node(0, 6), 0);
        Check.same("the first node's number", d.file(0, "a", 0, 0), 1);
    }

    private static void objectsAreApart() {
        Disc a = new Disc();
        Disc b = new Disc();
        a.file(0, "a", 1, 0);
        a.master();
        Check.same("the other one's image", b.sectors(), 0);
        Check.same("the other one's node", b.file(0, "a", 1, 0), 1);
    }
}
