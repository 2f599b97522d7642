/** Promises 2 and 3: feed, end, and what uses the text up. */
public final class TextTest {
    private static final int[] ENDS_OF_INT = {Integer.MIN_VALUE, Integer.MIN_VALUE + 1, Integer.MAX_VALUE - 1,
        Integer.MAX_VALUE};

    public static void main(String[] args) {
        bytesComeHighestFirst();
        atMostFourHundredBytes();
        refusedFeedChangesNothing();
        endKeepsTheFirstBytes();
        refusedEndChangesNothing();
        endOfNoText();
        whatReadsItUsesItUp();
        refusedCallsUseItUp();
        fullCallsUseItUp();
        usedUpThereIsRoomForAllOfIt();
        othersLeaveIt();
        Check.finish();
    }

    private static void bytesComeHighestFirst() {
        Disc d = new Disc();
        Check.yes("feed", d.feed(0x61626364, 0x65666768, 0x696A6B6C, 0x6D6E6F70, 0x71727374));
        Check.same("file of twenty characters", d.file(0, 0, 0), 1);
        d.master();
        d.mount(1);
        Check.same("its name", d.nameOf(1), "abcdefghijklmnopqrst");
        for (int number : ENDS_OF_INT) {
            Check.yes("feed", d.feed(number, number, number, number, number));
            Check.yes("they are twenty bytes", d.end(20));
            Check.same("no name", d.file(0, 0, 0), DiscMaker.WRONG);
        }
        Check.yes("feed", d.feed(0x61FFFFFF, -1, Integer.MIN_VALUE, Integer.MAX_VALUE, -1));
        Check.yes("end", d.end(1));
        Check.same("the highest byte is the first", d.file(0, 0, 0), 2);
    }

    private static void atMostFourHundredBytes() {
        DiscMaker x = new DiscMaker();
        for (int i = 0; i < 20; i++) {
            Check.yes("feed " + i, x.feed(0, 0, 0, 0, 0));
        }
        Check.no("feed behind 400 bytes", x.feed(0, 0, 0, 0, 0));
        Check.no("end(401)", x.end(401));
        Check.yes("end(400)", x.end(400));
        for (int n = 399; n > 380; n--) {
            Check.yes("end(" + n + ")", x.end(n));
            Check.no("feed behind " + n + " bytes", x.feed(0, 0, 0, 0, 0));
            Check.no("nothing came", x.end(n + 1));
        }
        Check.yes("end(380)", x.end(380));
        Check.yes("feed behind 380 bytes", x.feed(0, 0, 0, 0, 0));
        Check.no("then there are no 401", x.end(401));
        Check.yes("then there are 400", x.end(400));
    }

    private static void refusedFeedChangesNothing() {
        Disc d = new Disc();
        String target = "/" + "t".repeat(199);
        d.say("abc\0" + target + "z".repeat(196));
        Check.no("feed", d.feed(0x78787878, 0x78787878, 0x78787878, 0x78787878, 0x78787878));
        Check.yes("end", d.end(204));
        Check.same("the text is the same", d.link(0), 1);
        d.master();
        d.mount(2);
        Check.same("its name", d.nameOf(1), "abc");
        Check.same("its target", d.targetOf(1), target);
    }

    private static void endKeepsTheFirstBytes() {
        Disc d = new Disc();
        d.say("abc");
        Check.yes("end(3), all of it", d.end(3));
        Check.yes("end(2)", d.end(2));
        Check.no("end(3) behind end(2)", d.end(3));
        Check.yes("end(0)", d.end(0));
        Check.no("end(1) behind end(0)", d.end(1));
        Check.same("a file without a name", d.file(0, 0, 0), DiscMaker.WRONG);
        d.say("xy");
        Check.yes("end(1)", d.end(1));
        Check.yes("feed behind it", d.feed(0x7A000000, 0, 0, 0, 0));
        Check.yes("end(2)", d.end(2));
        Check.same("a file", d.file(0, 0, 0), 1);
        d.master();
        d.mount(1);
        Check.same("its name", d.nameOf(1), "xz");
    }

    private static void refusedEndChangesNothing() {
        Disc d = new Disc();
        d.say("abc");
        Check.no("end(4)", d.end(4));
        Check.no("end(-1)", d.end(-1));
        for (int n : ENDS_OF_INT) {
            Check.no("end(" + n + ")", d.end(n));
        }
        Check.same("a file", d.file(0, 0, 0), 1);
        d.master();
        d.mount(1);
        Check.same("its name", d.nameOf(1), "abc");
    }

    private static void endOfNoText() {
        DiscMaker x = new DiscMaker();
        Check.yes("end(0)", x.end(0));
        Check.no("end(1)", x.end(1));
        Check.no("end(-1)", x.end(-1));
    }

    private static void whatReadsItUsesItUp() {
        Disc d = new Disc();
        Check.same("a directory", d.directory(0, "a"), 1);
        usedUp("directory", d);
        Check.same("a file", d.file(0, "b", 0, 0), 2);
        usedUp("file", d);
        Check.same("a link", d.link(0, "c", "t"), 3);
        usedUp("link", d);
        Check.same("no text is no name", d.directory(0, 0, 0, 0), DiscMaker.WRONG);
        Check.same("no text is no name", d.file(0, 0, 0), DiscMaker.WRONG);
        Check.same("no text is no name", d.link(0), DiscMaker.WRONG);
    }

    private static void usedUp(String what, Disc d) {
        Check.no(what + ": the text is used up", d.end(1));
        Check.yes(what + ": the text is empty", d.end(0));
    }

    private static void refusedCallsUseItUp() {
        Disc d = new Disc();
        d.directory(0, "a");
        Check.same("named", d.directory(0, "a"), DiscMaker.NAMED);
        usedUp("a named directory", d);
        Check.same("named", d.file(0, "a", 0, 0), DiscMaker.NAMED);
        usedUp("a named file", d);
        Check.same("named", d.link(0, "a", "t"), DiscMaker.NAMED);
        usedUp("a named link", d);
        Check.same("wrong", d.directory(9, "d"), DiscMaker.WRONG);
        usedUp("a directory in none", d);
        Check.same("wrong", d.file(-1, "d", 0, 0), DiscMaker.WRONG);
        usedUp("a file in none", d);
        Check.same("wrong", d.link(9, "d", "t"), DiscMaker.WRONG);
        usedUp("a link in none", d);
        Check.same("wrong", d.directory(0, "d", -1, 0, 0), DiscMaker.WRONG);
        usedUp("a directory of mode -1", d);
        Check.same("wrong", d.directory(0, "d", 0, 0, 1000001), DiscMaker.WRONG);
        usedUp("a directory of a group too high", d);
        Check.same("wrong", d.file(0, "d", -1, 0), DiscMaker.WRONG);
        usedUp("a file of size -1", d);
        Check.same("wrong", d.file(0, "d", 0, 256), DiscMaker.WRONG);
        usedUp("a file of seed 256", d);
        Check.same("wrong", d.directory(0, "d d"), DiscMaker.WRONG);
        usedUp("a directory without a name", d);
        Check.same("wrong", d.file(0, "..", 0, 0), DiscMaker.WRONG);
        usedUp("a file without a name", d);
        Check.same("wrong", d.link(0, ".", "t"), DiscMaker.WRONG);
        usedUp("a link without a name", d);
        d.say("d");
        Check.same("wrong", d.link(0), DiscMaker.WRONG);
        usedUp("a link without a target", d);
        Check.same("wrong", d.link(0, "d", "a/".repeat(100)), DiscMaker.WRONG);
        usedUp("a link whose SL is too long", d);
    }

    private static void fullCallsUseItUp() {
        Disc d = new Disc();
        for (int n = 1; n < 40; n++) {
            d.file(0, "f" + n, 0, 0);
        }
        Check.same("full", d.directory(0, "g"), DiscMaker.FULL);
        usedUp("a directory too many", d);
        Check.same("full", d.file(0, "g", 0, 0), DiscMaker.FULL);
        usedUp("a file too many", d);
        Check.same("full", d.link(0, "g", "t"), DiscMaker.FULL);
        usedUp("a link too many", d);
    }

    private static void usedUpThereIsRoomForAllOfIt() {
        Disc d = new Disc();
        d.say("a".repeat(400));
        Check.same("no name", d.file(0, 0, 0), DiscMaker.WRONG);
        d.say("b".repeat(400));
        Check.no("feed", d.feed(0, 0, 0, 0, 0));
        Check.yes("end", d.end(30));
        Check.same("a file", d.file(0, 0, 0), 1);
        d.master();
        d.mount(1);
        Check.same("its name", d.nameOf(1), "b".repeat(30));
    }

    private static void othersLeaveIt() {
        Disc d = new Disc();
        d.say("d");
        Check.no("own", d.own(9, 0, 0, 0));
        Check.yes("own", d.own(0, 0, 0, 0));
        d.master();
        d.sectors();
        d.byteAt(0);
        d.poke(0, 7);
        d.mount(0);
        d.node(0, 0);
        Check.refused("mount(3)", () -> d.mount(3));
        Check.noSuch("name", () -> d.name(0, 0));
        Check.noSuch("target", () -> d.target(0, 0));
        Check.noSuch("read", () -> d.read(0, 0));
        d.cut(0);
        Check.no("there is no second byte", d.end(2));
        Check.same("a file", d.file(0, 0, 0), 1);
        d.master();
        d.mount(1);
        Check.same("its name", d.nameOf(1), "d");
    }
}
