import java.util.NoSuchElementException;

/** Whatever the image has become and whatever is asked, a call throws nothing but what the document says. */
public final class SpoiltTest {
    private static long state = 20260101;

    public static void main(String[] args) {
        for (int run = 0; run < 400; run++) {
            Disc d = grown();
            d.master();
            for (int i = 0; i < 20; i++) {
                spoil(d);
                for (int view = 0; view < 3; view++) {
                    look(d, d.mount(view));
                }
            }
        }
        Check.finish();
    }

    /** The same numbers in every run of the test. */
    private static int next(int bound) {
        state = state * 6364136223846793005L + 1442695040888963407L;
        return (int) ((state >>> 33) % bound);
    }

    private static Disc grown() {
        Disc d = new Disc();
        int nodes = next(15);
        for (int i = 0; i < nodes; i++) {
            String name = "n" + next(3) + ".".repeat(next(2)) + "x".repeat(next(20));
            switch (next(3)) {
                case 0: d.directory(next(i + 2), name); break;
                case 1: d.file(next(i + 2), name, next(4101), next(3)); break;
                default: d.link(next(i + 2), name, "/a/..".repeat(1 + next(40)));
            }
        }
        return d;
    }

    private static void spoil(Disc d) {
        int size = d.sectors() * Disc.SECTOR;
        int used = size - 23 * Disc.SECTOR;
        switch (next(12)) {
            case 0: d.cut(next(d.sectors() + 2)); break;
            case 1: d.master(); break;
            case 2: if (size > 0) d.poke(next(size), next(256)); break;
            case 3: d.poke(Disc.FIRST + next(3 * Disc.SECTOR), next(256)); break;
            case 4: d.writeBoth(Disc.FIRST + next(2) * Disc.SECTOR + 158, 4, next(30)); break;
            default:
                if (used > 0) {
                    int at = 23 * Disc.SECTOR + next(Math.min(used, 4 * Disc.SECTOR)) / 2 % 300 * 2;
                    d.poke(at, next(3) == 0 ? next(256) : d.byteAt(at) + next(3) - 1);
                }
        }
    }

    private static void look(Disc x, int answer) {
        Check.yes("an answer of mount", answer > 0 ? answer < 100 : answer < 0 && -1 - answer < 400000);
        for (int k = -1; k <= Math.max(answer, 0); k++) {
            boolean known = k >= 0 && k < answer;
            for (int what = -1; what < 10; what++) {
                Check.yes("node", given(x, 0, k, what) == (known && what >= 0 && what < 9));
            }
            int name = known ? x.node(k, 7) : 0;
            int target = known ? x.node(k, 8) : 0;
            int size = known && x.node(k, 1) == 1 ? x.node(k, 2) : 0;
            Check.yes("lengths", name >= 0 && name <= 60 && target >= 0 && target <= 400 && size >= 0);
            for (int i : new int[] {-1, 0, 5, name - 1, name, target - 1, target, size - 1, size}) {
                Check.yes("name", given(x, 1, k, i) == (i >= 0 && i < name));
                Check.yes("target", given(x, 2, k, i) == (i >= 0 && i < target));
                Check.yes("read", given(x, 3, k, i) == (i >= 0 && i < size));
            }
        }
    }

    /** Whether a call answers; it must not throw anything but NoSuchElementException. */
    private static boolean given(Disc x, int call, int k, int i) {
        try {
            switch (call) {
                case 0: x.node(k, i); break;
                case 1: x.name(k, i); break;
                case 2: x.target(k, i); break;
                default: x.read(k, i);
            }
            return true;
        } catch (NoSuchElementException e) {
            return false;
        }
    }
}
