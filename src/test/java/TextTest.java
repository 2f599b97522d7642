/** Promises 2 and 3: feed, end, and what uses the text up. */
public final class TextTest {
    public static void main(String[] args) {
        bytesComeHighestFirst();
        atMostFourHundredBytes();
        endKeepsTheFirstBytes();
        whatReadsItUsesItUp();
        Check.finish();
    }

    private static void bytesComeHighestFirst() {
        Disc d = new Disc();
        Check.yes("feed", d.x.feed(0x61626364, 0x65666768, 0x696A6B6C, 0x6D6E6F70, 0x71727374));
        Check.same("file of twenty characters", d.x.file(0, 0, 0), 1);
        d.x.master();
        d.x.mount(1);
        Check.same("its name", d.nameOf(1), "abcdefghijklmnopqrst");
    }

    private static void atMostFourHundredBytes() {
        DiscMaker x = new DiscMaker();
        for (int i = 0; i < 20; i++) {
            Check.yes("feed " + i, x.feed(0, 0, 0, 0, 0));
        }
        Check.no("feed behind 400 bytes", x.feed(0, 0, 0, 0, 0));
        Check.no("end(401)", x.end(401));
        Check.yes("end(400)", x.end(400));
        Check.yes("end(381)", x.end(381));
        Check.no("feed behind 381 bytes", x.feed(0, 0, 0, 0, 0));
        Check.yes("end(380)", x.end(380));
        Check.yes("feed behind 380 bytes", x.feed(0, 0, 0, 0, 0));
        Check.yes("then there are 400", x.end(400));
    }

    private static void endKeepsTheFirstBytes() {
        Disc d = new Disc();
        d.say("abc");
        Check.no("end(4)", d.x.end(4));
        Check.no("end(-1)", d.x.end(-1));
        Check.no("end(least)", d.x.end(Integer.MIN_VALUE));
        Check.yes("end(3)", d.x.end(3));
        Check.yes("end(2)", d.x.end(2));
        Check.no("end(3) behind end(2)", d.x.end(3));
        Check.yes("end(0)", d.x.end(0));
        Check.same("a file without a name", d.x.file(0, 0, 0), DiscMaker.WRONG);
        d.say("xy");
        Check.yes("end(1)", d.x.end(1));
        Check.yes("feed behind it", d.x.feed(0x7A000000, 0, 0, 0, 0));
        Check.yes("end(2)", d.x.end(2));
        Check.same("a file", d.x.file(0, 0, 0), 1);
        d.x.master();
        d.x.mount(1);
        Check.same("its name", d.nameOf(1), "xz");
    }

    private static void whatReadsItUsesItUp() {
        Disc d = new Disc();
        Check.same("a directory", d.directory(0, "a"), 1);
        Check.no("the text is used up", d.x.end(1));
        Check.same("a file", d.file(0, "b", 0, 0), 2);
        Check.no("the text is used up", d.x.end(1));
        Check.same("a link", d.link(0, "c", "t"), 3);
        Check.no("the text is used up", d.x.end(1));
        Check.same("named", d.file(0, "a", 0, 0), DiscMaker.NAMED);
        Check.no("used up when refused as named", d.x.end(1));
        Check.same("wrong", d.directory(9, "d"), DiscMaker.WRONG);
        Check.no("used up when refused for the directory", d.x.end(1));
        Check.same("wrong", d.directory(0, "d", -1, 0, 0), DiscMaker.WRONG);
        Check.no("used up when refused for the mode", d.x.end(1));
        Check.same("wrong", d.file(0, "d", -1, 0), DiscMaker.WRONG);
        Check.no("used up when refused for the size", d.x.end(1));
        d.say("d");
        Check.same("wrong", d.x.link(0), DiscMaker.WRONG);
        Check.no("used up when refused for the target", d.x.end(1));
        d.say("d");
        Check.no("own", d.x.own(9, 0, 0, 0));
        Check.yes("own", d.x.own(0, 0, 0, 0));
        d.x.master();
        d.x.mount(0);
        Check.yes("others leave it", d.x.end(1));
    }
}
