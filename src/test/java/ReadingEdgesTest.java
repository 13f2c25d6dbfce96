/** Promises 12 and 14 to 17: each sentence that names a boundary case has a test of its own. */
public final class ReadingEdgesTest {
    private static final Check CHECK = new Check();
    private static final int LEAST = Integer.MIN_VALUE;
    private static final int MOST = Integer.MAX_VALUE;
    private static final int LONG = Draft.LONG;
    private static final long WIDEST = 4294967295L;
    private static final int[] ORDERS = {73, 77};
    // Multiples of 13 and of 2 that wrap around to small ones, among them.
    private static final int[] FAR = {LEAST, LEAST + 1, -40, -2, -1, 40, 41, 330382100, 1 << 30,
        (1 << 30) + 1, MOST - 1, MOST};

    public static void main(String[] args) {
        read();
        whatWasRead();
        of();
        where();
        dots();
        look();
        CHECK.end("ReadingEdgesTest");
    }

    /** A page of three strips, 5 + 0 + 3 bytes, and one of an empty strip; read. */
    private static PictureFile made(int order) {
        PictureFile x = Step.MADE.reach(order);
        CHECK.due("two pages", x.read(), 2);
        return x;
    }

    // ---- promise 12

    private static void read() {
        CHECK.sentence("promise 12: The file is READ: how many pages it has", () -> {
            for (int order : ORDERS) {
                for (int n : new int[] {1, 2, 39, 40}) {
                    PictureFile x = Step.BEGUN.reach(order);
                    for (int i = 0; i < n; i++) {
                        x.page(i + 1, 1, 1, 1, 1);
                        x.strip();
                        x.close();
                    }
                    x.end();
                    CHECK.due("read()", x.read(), n);
                    CHECK.due("and again", x.read(), n);
                    CHECK.due("pages read", x.look(6), n);
                    CHECK.due("the last one", x.of(n - 1, 0), n);
                    CHECK.indexRefused("behind it", x, () -> x.of(n, 0));
                }
            }
        });
        CHECK.sentence("promise 12: less the FAULT, if there is one (then there are none)", () -> {
            for (int order : ORDERS) {
                PictureFile x = made(order);
                x.cut(x.look(0) - 1);
                CHECK.faultDue("a fault of the second page", x, 2, 1, 0, 0);
                CHECK.indexRefused("where of the first", x, () -> x.where(0, 0, 0));
                CHECK.indexRefused("dots of the first", x, () -> x.dots(0, 0, 0));
                x.give(0, 1);
                CHECK.due("mended", x.read(), 2);
                CHECK.due("the order again", x.look(7), order);
                x.cut(0);
                CHECK.faultDue("an empty file", x, 1, 0, 0, 0);
            }
        });
        CHECK.sentence("promise 12: IllegalStateException if a file is being made", () -> {
            for (Step s : Step.values()) {
                PictureFile x = s.reach(77);
                if (s.making()) {
                    CHECK.stateRefused(s + ": read", x, x::read);
                } else {
                    CHECK.due(s + ": read", x.read(), s == Step.MADE ? 2 : -1);
                }
            }
            PictureFile x = made(73);
            x.begin(77);
            CHECK.stateRefused("behind an earlier read", x, x::read);
        });
    }

    private static String whatIsRead(PictureFile x) {
        StringBuilder all = new StringBuilder();
        for (int page = 0; page < 2; page++) {
            for (int w = 0; w < 13; w++) {
                all.append(x.of(page, w)).append(' ');
            }
            for (int i = 0; i < x.of(page, 6); i++) {
                all.append(x.where(page, i, 0)).append('+').append(x.where(page, i, 1)).append(' ');
            }
        }
        return all.append(x.look(6)).append(' ').append(x.look(7)).toString();
    }

    private static void whatWasRead() {
        CHECK.sentence("promise 12: (What was read stays, when the file changes later, but for its bytes.)",
                () -> {
            PictureFile x = made(73);
            String want = whatIsRead(x);
            x.give(-1, 8);
            CHECK.dueText("behind give", whatIsRead(x), want);
            for (int k = 0; k < x.look(0); k++) {
                x.poke(k, 255);
            }
            CHECK.dueText("behind poke", whatIsRead(x), want);
            CHECK.due("but for its bytes", x.dots(0, 0, 0), 255);
            x.cut(0);
            CHECK.dueText("behind cut", whatIsRead(x), want);
            for (Step s : Step.values()) {
                s.take(x, 77);
                CHECK.dueText("behind " + s, whatIsRead(x), want);
            }
        });
        CHECK.sentence("promise 12: .. stays: the FAULT of the latest read() too", () -> {
            PictureFile x = new PictureFile();
            x.read();
            for (Step s : Step.values()) {
                s.take(x, 77);
                for (int w = 0; w < 3; w++) {
                    CHECK.due(s + ": fault(" + w + ")", x.fault(w), 0);
                }
            }
            CHECK.due("read at last", x.read(), 2);
            CHECK.due("none", x.fault(0), PictureFile.NONE);
        });
    }

    // ---- promise 14

    private static void of() {
        CHECK.sentence("promise 14: 5: ROWS (at most HEIGHT)", () -> {
            for (long rows : new long[] {1, 3, 4, 5, 65535, 65536, 1L << 31, WIDEST}) {
                int n = rows == 1 ? 4 : rows == 3 ? 2 : 1;
                long[][] e = Draft.with(Draft.plain(8, 0), Draft.one(278, LONG, rows));
                e = Draft.with(e, Draft.many(273, LONG, n, n == 1 ? 8 : 100));
                e = Draft.with(e, Draft.many(279, LONG, n, n == 1 ? 0 : 120));
                Draft d = new Draft(77, 8).directory(8, 0, e).length(140);
                for (int i = 0; i < 4; i++) {
                    d.at(100 + 4 * i, 8, 4);
                }
                PictureFile x = d.load();
                CHECK.due("read", x.read(), 1);
                CHECK.due("ROWS " + rows, x.of(0, 5), Math.min(rows, 4));
                CHECK.due("strips", x.of(0, 6), n);
            }
        });
        CHECK.sentence("promise 14: 8 .. 11: the numbers of FINENESS", () -> {
            for (int order : ORDERS) {
                long[][] e = Draft.with(Draft.plain(8, 0), Draft.one(282, 5, 100));
                e = Draft.with(e, Draft.one(283, 5, 108));
                Draft d = new Draft(order, 8).directory(8, 0, e);
                d.at(100, WIDEST, 4).at(104, 1L << 31, 4).at(108, 0, 4).at(112, WIDEST, 4);
                PictureFile x = d.load();
                CHECK.due("read", x.read(), 1);
                CHECK.due("8", x.of(0, 8), WIDEST);
                CHECK.due("9", x.of(0, 9), 1L << 31);
                CHECK.due("10", x.of(0, 10), 0);
                CHECK.due("11", x.of(0, 11), WIDEST);
            }
        });
        CHECK.sentence("promise 14: 12: the place of its directory", () -> {
            Draft d = new Draft(73, 200).directory(200, 8, Draft.plain(8, 0));
            PictureFile x = d.directory(8, 0, Draft.plain(8, 0)).load();
            CHECK.due("read", x.read(), 2);
            CHECK.due("the first one's", x.of(0, 12), 200);
            CHECK.due("the second one's", x.of(1, 12), 8);
        });
        CHECK.sentence("promise 14: IndexOutOfBoundsException if there is none such", () -> {
            PictureFile x = made(77);
            CHECK.due("the last page", x.of(1, 0), 20000);
            CHECK.indexRefused("page 2", x, () -> x.of(2, 0));
            for (int page : FAR) {
                CHECK.indexRefused("page " + page, x, () -> x.of(page, 0));
            }
        });
        CHECK.sentence("promise 14: or no such w", () -> {
            PictureFile x = made(77);
            CHECK.due("the last w", x.of(1, 12), 200);
            for (int page = 0; page < 2; page++) {
                int p = page;
                CHECK.indexRefused("w 13", x, () -> x.of(p, 13));
                CHECK.indexRefused("w -13", x, () -> x.of(p, -13));
                for (int w : FAR) {
                    CHECK.indexRefused("w " + w, x, () -> x.of(p, w));
                }
            }
        });
    }

    // ---- promise 15

    private static void where() {
        CHECK.sentence("promise 15: Of a strip: w = 0: its place, 1: its length", () -> {
            for (int order : ORDERS) {
                PictureFile x = made(order);
                int[][] want = {{0, 0, 8, 5}, {0, 1, 14, 0}, {0, 2, 14, 3}, {1, 0, 184, 0}};
                for (int[] s : want) {
                    CHECK.due("place", x.where(s[0], s[1], 0), s[2]);
                    CHECK.due("length", x.where(s[0], s[1], 1), s[3]);
                }
            }
        });
        CHECK.sentence("promise 15: IndexOutOfBoundsException if there is none such", () -> {
            PictureFile x = made(73);
            CHECK.indexRefused("strip 3 of 3", x, () -> x.where(0, 3, 0));
            CHECK.indexRefused("strip 1 of 1", x, () -> x.where(1, 1, 0));
            CHECK.indexRefused("page 2", x, () -> x.where(2, 0, 0));
            for (int far : FAR) {
                CHECK.indexRefused("page " + far, x, () -> x.where(far, 0, 0));
                CHECK.indexRefused("strip " + far, x, () -> x.where(0, far, 0));
                CHECK.indexRefused("strip " + far, x, () -> x.where(1, far, 1));
            }
        });
        CHECK.sentence("promise 15: or no such w", () -> {
            PictureFile x = made(73);
            CHECK.indexRefused("w 2", x, () -> x.where(0, 0, 2));
            CHECK.indexRefused("w 3", x, () -> x.where(0, 1, 3));
            CHECK.indexRefused("w -1", x, () -> x.where(0, 1, -1));
            for (int w : FAR) {
                CHECK.indexRefused("w " + w, x, () -> x.where(0, 0, w));
            }
        });
    }

    // ---- promise 16

    private static void dots() {
        CHECK.sentence("promise 16: Byte k of a strip, as the file is now", () -> {
            PictureFile x = made(73);
            int[] first = {1, 2, 3, 4, 5};
            for (int k = 0; k < 5; k++) {
                CHECK.due("byte " + k, x.dots(0, 0, k), first[k]);
            }
            CHECK.due("the last one's last", x.dots(0, 2, 2), 0xA3);
            x.poke(12, 0xFFF);
            CHECK.due("poked", x.dots(0, 0, 4), 255);
            x.poke(12, 128);
            CHECK.due("poked again", x.dots(0, 0, 4), 128);
            x.begin(77);
            x.page(1, 1, 1, 1, 1);
            x.put(0x7172, 2);
            CHECK.due("of a file that is being made", x.dots(0, 0, 1), 0x72);
        });
        CHECK.sentence("promise 16: IndexOutOfBoundsException if there is none such", () -> {
            PictureFile x = made(77);
            CHECK.indexRefused("behind the strip", x, () -> x.dots(0, 0, 5));
            CHECK.indexRefused("ahead of it", x, () -> x.dots(0, 2, -1));
            CHECK.indexRefused("of an empty one", x, () -> x.dots(0, 1, 0));
            CHECK.indexRefused("of an empty one", x, () -> x.dots(1, 0, 0));
            CHECK.indexRefused("strip 3 of 3", x, () -> x.dots(0, 3, 0));
            CHECK.indexRefused("page 2", x, () -> x.dots(2, 0, 0));
            for (int far : FAR) {
                CHECK.indexRefused("page " + far, x, () -> x.dots(far, 0, 0));
                CHECK.indexRefused("strip " + far, x, () -> x.dots(0, far, 0));
                CHECK.indexRefused("byte " + far, x, () -> x.dots(0, 0, far));
            }
        });
        CHECK.sentence("promise 16: .. none such, as the file is now: a byte that was cut", () -> {
            PictureFile x = made(77);
            x.cut(13);
            CHECK.due("the last one that stayed", x.dots(0, 0, 4), 5);
            CHECK.indexRefused("the first one that was cut", x, () -> x.dots(0, 2, 0));
            x.cut(12);
            CHECK.indexRefused("in the midst of a strip", x, () -> x.dots(0, 0, 4));
            CHECK.due("ahead of it", x.dots(0, 0, 3), 4);
            x.give(0x99, 1);
            CHECK.due("another came", x.dots(0, 0, 4), 0x99);
            x.begin(77);
            CHECK.indexRefused("a new file has none", x, () -> x.dots(0, 0, 0));
        });
        CHECK.sentence("promise 16: the strip that ends with the file", () -> {
            Draft d = new Draft(77, 8).directory(8, 0, Draft.plain(62, 3)).at(62, 0x8090A0, 3);
            PictureFile x = d.load();
            CHECK.due("read", x.read(), 1);
            CHECK.due("its last byte", x.dots(0, 0, 2), 0xA0);
            CHECK.indexRefused("behind it", x, () -> x.dots(0, 0, 3));
            x.give(1, 1);
            CHECK.indexRefused("where the file has grown", x, () -> x.dots(0, 0, 3));
        });
    }

    // ---- promise 17

    private static void look() {
        CHECK.sentence("promise 17: 0: bytes of the file .. 5: bytes of the strip that is being made",
                () -> {
            for (int order : ORDERS) {
                for (Step s : Step.values()) {
                    CHECK.looks("" + s, s.reach(order), s.looks());
                }
            }
        });
        CHECK.sentence("promise 17: 3: pages made (of the file that is being made, or was last)", () -> {
            PictureFile x = Step.MADE.reach(77);
            x.cut(0);
            x.give(1, 1);
            x.read();
            CHECK.due("of the last one", x.look(3), 2);
            CHECK.argumentRefused("begin(0)", x, () -> x.begin(0));
            x.begin(73);
            CHECK.due("of the new one", x.look(3), 0);
            x.end();
            CHECK.due("of the one that was last", x.look(3), 0);
        });
        CHECK.sentence("promise 17: 6: pages read, 7: the order of the file read (0 if there was a FAULT or"
                + " nothing was read)", () -> {
            for (int order : ORDERS) {
                PictureFile x = Step.MADE.reach(order);
                CHECK.looks("nothing was read", x, 326, 0, 0, 2, 0, 0, 0, 0);
                x.read();
                CHECK.looks("read", x, 326, 0, 0, 2, 0, 0, 2, order);
                x.poke(x.look(0) - 1, 1);
                x.poke(x.look(0) - 4, 1);
                CHECK.faultDue("a fault of a third page", x, 2, 2, 0, 0);
                CHECK.looks("a fault", x, 326, 0, 0, 2, 0, 0, 0, 0);
            }
        });
        CHECK.sentence("promise 17: NONE for any other which", () -> {
            for (Step s : Step.values()) {
                PictureFile x = s.reach(77);
                for (int which : new int[] {-1, 8, 9, 256, 65536, 1 << 30, LEAST, MOST}) {
                    CHECK.due(s + ": look(" + which + ")", x.look(which), PictureFile.NONE);
                }
            }
        });
        CHECK.sentence("The constants: NONE = -1",
                () -> CHECK.due("NONE", PictureFile.NONE, -1));
    }
}
