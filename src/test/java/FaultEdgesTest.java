import java.util.function.ObjIntConsumer;

/** The faults 1 to 9 and promise 13: each sentence that names a boundary case, by its words. */
public final class FaultEdgesTest {
    private static final Check CHECK = new Check();
    private static final int LEAST = Integer.MIN_VALUE;
    private static final int MOST = Integer.MAX_VALUE;
    private static final int SHORT = Draft.SHORT;
    private static final int LONG = Draft.LONG;
    private static final long WIDEST = 4294967295L;
    private static final int[] ORDERS = {73, 77};

    private static final long[][] PLAIN = Draft.plain(8, 0);
    private static final int PLAIN_BYTES = 2 + 12 * 4 + 4;
    private static final int AT = 200;
    private static final int LENGTH = 600;

    public static void main(String[] args) {
        fault1();
        fault2();
        pagesAtMost();
        fault3();
        fault4();
        fault5();
        fault6();
        fault7();
        finenessOf7();
        fault8();
        stripsAtMost();
        fault9();
        whichIsFirst();
        promise13();
        CHECK.end("FaultEdgesTest");
    }

    /** Plain pages, and behind them the one that is tested, at AT, in a file of LENGTH bytes. */
    private static Draft file(int order, int ahead, long[]... entries) {
        Draft d = new Draft(order, ahead == 0 ? AT : 8);
        for (int i = 0; i < ahead; i++) {
            int place = 8 + PLAIN_BYTES * i;
            d.directory(place, i == ahead - 1 ? AT : place + PLAIN_BYTES, PLAIN);
        }
        return d.directory(AT, 0, entries).length(LENGTH);
    }

    /** In both orders of bytes, as the first page and behind others. */
    private static void everywhere(ObjIntConsumer<Integer> test) {
        for (int order : ORDERS) {
            for (int ahead : new int[] {0, 1, 3}) {
                test.accept(order, ahead);
            }
        }
    }

    private static void faulty(String what, int kind, int tag, long[]... entries) {
        everywhere((order, ahead) ->
                CHECK.faultDue(what, file(order, ahead, entries).load(), kind, ahead, tag, 0));
    }

    private static void fine(String what, long[]... entries) {
        everywhere((order, ahead) -> right(what, file(order, ahead, entries), ahead + 1));
    }

    private static void right(String what, Draft d, int pages) {
        PictureFile x = d.load();
        CHECK.due(what + ": read()", x.read(), pages);
        CHECK.due(what + ": fault(0)", x.fault(0), PictureFile.NONE);
    }

    private static long[][] with(long[] more) {
        return Draft.with(PLAIN, more);
    }

    // ---- 1

    private static void fault1() {
        CHECK.sentence("fault 1: fewer than 8 bytes", () -> {
            for (int order : ORDERS) {
                for (int n = 0; n < 8; n++) {
                    Draft d = file(order, 0, PLAIN).length(n);
                    CHECK.faultDue(n + " bytes", d.load(), 1, 0, 0, 0);
                }
                CHECK.faultDue("8 bytes", file(order, 0, PLAIN).length(8).load(), 2, 0, 0, 0);
            }
        });
        CHECK.sentence("fault 1: or the two orders .. not as said", () -> {
            int[][] wrong = {{73, 77}, {77, 73}, {0, 0}, {72, 72}, {74, 74}, {76, 76}, {78, 78},
                {73, 0}, {0, 73}, {77, 0}, {0, 77}, {73, 74}, {77, 78}, {201, 201}};
            for (int order : ORDERS) {
                for (int[] w : wrong) {
                    Draft d = file(order, 0, PLAIN).at(0, w[0], 1).at(1, w[1], 1);
                    CHECK.faultDue(w[0] + ", " + w[1], d.load(), 1, 0, 0, 0);
                }
                right("the order twice", file(order, 0, PLAIN), 1);
            }
        });
        CHECK.sentence("fault 1: or 42 not as said", () -> {
            for (int order : ORDERS) {
                for (int v : new int[] {0, 41, 43, 42 << 8, 42 + 256, 65535}) {
                    Draft d = file(order, 0, PLAIN).at(2, v, 2);
                    CHECK.faultDue("" + v, d.load(), 1, 0, 0, 0);
                }
                Draft other = file(order, 0, PLAIN).at(0, 150 - order, 1).at(1, 150 - order, 1);
                CHECK.faultDue("42 in the other order", other.load(), 1, 0, 0, 0);
            }
        });
    }

    // ---- 2

    /** The place of the directory that is tested becomes another. */
    private static Draft linked(int order, int ahead, long place) {
        int link = ahead == 0 ? 4 : 8 + PLAIN_BYTES * ahead - 4;
        return file(order, ahead, PLAIN).at(link, place, 4);
    }

    private static void fault2() {
        CHECK.sentence("fault 2: (of the first one also if it is 0)", () -> {
            for (int order : ORDERS) {
                CHECK.faultDue("0", linked(order, 0, 0).load(), 2, 0, 0, 0);
                right("0 for the last one", linked(order, 1, 0), 1);
                right("0 for the last one", linked(order, 3, 0), 3);
            }
        });
        CHECK.sentence("fault 2: the place of a directory .. is less than 8", () -> {
            everywhere((order, ahead) -> {
                for (int place = 1; place < 8; place++) {
                    Draft d = linked(order, ahead, place);
                    CHECK.faultDue("at " + place, d.load(), 2, ahead, 0, 0);
                }
            });
            for (int order : ORDERS) {
                right("at 8", new Draft(order, 8).directory(8, 0, PLAIN), 1);
                CHECK.faultDue("at 2, else right", directoryAt2(order).load(), 2, 0, 0, 0);
            }
        });
        CHECK.sentence("fault 2: or odd", () -> everywhere((order, ahead) -> {
            int behind = 8 + PLAIN_BYTES * ahead;
            for (int place : new int[] {behind + 1, AT - 1, AT + 1, LENGTH - PLAIN_BYTES - 1}) {
                Draft d = linked(order, ahead, place).directory(place, 0, PLAIN);
                CHECK.faultDue("at " + place, d.load(), 2, ahead, 0, 0);
            }
        }));
        CHECK.sentence("fault 2: it has no entries", () -> everywhere((order, ahead) -> {
            Draft d = file(order, ahead, PLAIN).at(AT, 0, 2);
            CHECK.faultDue("none", d.load(), 2, ahead, 0, 0);
        }));
        CHECK.sentence("fault 2: or it, with its next place, does not lie in the file",
                FaultEdgesTest::directoryInTheFile);
    }

    /** 42 is then the number of its entries, and the LONG at 4 the TAG and TYPE of the first. */
    private static Draft directoryAt2(int order) {
        Draft d = new Draft(order, 2).length(2 + 2 + 42 * 12 + 4);
        int[] last = {256, 257, 273, 279};
        for (int i = 1; i < 42; i++) {
            int at = 4 + 12 * i;
            d.at(at, i < 38 ? 2 + i : last[i - 38], 2).at(at + 2, LONG, 2).at(at + 4, 1, 4);
            d.at(at + 8, i < 38 ? 0 : i == 41 ? 0 : 8, 4);
        }
        return d;
    }

    private static void directoryInTheFile() {
        everywhere((order, ahead) -> {
            for (int n = AT; n < AT + PLAIN_BYTES; n++) {
                Draft d = file(order, ahead, PLAIN).length(n);
                CHECK.faultDue("cut at " + n, d.load(), 2, ahead, 0, 0);
            }
            right("not cut", file(order, ahead, PLAIN).length(AT + PLAIN_BYTES), ahead + 1);
            Draft more = file(order, ahead, PLAIN).length(AT + PLAIN_BYTES).at(AT, 5, 2);
            CHECK.faultDue("an entry more", more.load(), 2, ahead, 0, 0);
            Draft most = file(order, ahead, PLAIN).at(AT, 65535, 2);
            CHECK.faultDue("65535 entries", most.load(), 2, ahead, 0, 0);
            long[] places = {LENGTH - 2, LENGTH, LENGTH + 2, 65534, 65536, 65536 + AT, 1L << 31,
                (1L << 31) + AT, WIDEST - 1, WIDEST - 7, WIDEST - 53};
            for (long place : places) {
                CHECK.faultDue("at " + place, linked(order, ahead, place).load(), 2, ahead, 0, 0);
            }
        });
    }

    private static void pagesAtMost() {
        CHECK.sentence("fault 2: or there would be more than 40 pages", () -> {
            for (int order : ORDERS) {
                right("40 pages", chain(order, 40), 40);
                CHECK.faultDue("41 pages", chain(order, 41).load(), 2, 40, 0, 0);
                CHECK.faultDue("42 pages", chain(order, 42).load(), 2, 40, 0, 0);
                Draft ring = new Draft(order, 8).directory(8, 8, PLAIN);
                CHECK.faultDue("a ring of one", ring.load(), 2, 40, 0, 0);
                Draft two = new Draft(order, 8).directory(8, 100, PLAIN).directory(100, 8, PLAIN);
                CHECK.faultDue("a ring of two", two.load(), 2, 40, 0, 0);
                Draft last = chain(order, 40).at(8 + 39 * PLAIN_BYTES + 10, 0, 4);
                CHECK.faultDue("a fault of the 40th", last.load(), 7, 39, 256, 0);
            }
        });
    }

    private static Draft chain(int order, int pages) {
        Draft d = new Draft(order, 8);
        for (int i = 0; i < pages; i++) {
            int place = 8 + PLAIN_BYTES * i;
            d.directory(place, i == pages - 1 ? 0 : place + PLAIN_BYTES, PLAIN);
        }
        return d;
    }

    // ---- 3

    private static void fault3() {
        CHECK.sentence("fault 3: a tag that is not above the one before", () -> {
            long[] tags = {256, 257, 273, 279};
            for (int i = 1; i < 4; i++) {
                for (long less = 0; less < 3; less++) {
                    long[][] e = Draft.plain(8, 0);
                    e[i][0] = tags[i - 1] - less;
                    faulty("entry " + i + ", " + less + " below", 3, (int) e[i][0], e);
                }
            }
            faulty("twice 0", 3, 0, new long[] {0, 3, 1, 0}, new long[] {0, 3, 1, 0});
            faulty("0 behind 65535", 3, 0, new long[] {65535, 3, 1, 0}, new long[] {0, 3, 1, 0});
            faulty("without a meaning", 3, 299, PLAIN[0], PLAIN[1], PLAIN[2], PLAIN[3],
                    Draft.one(300, 3, 0), Draft.one(299, 3, 0));
            fine("0 ahead of all", with(Draft.one(0, 3, 0)));
            fine("each one above",
                    Draft.with(with(Draft.one(32767, 3, 0)), Draft.one(32768, 3, 0)));
            fine("65535 behind all", with(Draft.one(65535, 3, 0)));
        });
    }

    // ---- 4

    private static final int[] ONES = {256, 257, 259, 262, 266, 278, 282, 283, 296};

    private static int typeOf(int tag) {
        return tag == 282 || tag == 283 ? 5 : tag == 259 || tag == 262 || tag == 266 || tag == 296
                ? SHORT : LONG;
    }

    private static void fault4() {
        CHECK.sentence("fault 4: a TYPE that it can not have", () -> {
            for (int tag : new int[] {256, 257, 259, 262, 266, 273, 278, 279, 282, 283, 296}) {
                for (int type : new int[] {0, 1, 2, 3, 4, 5, 6, 259, 3 << 8, 65535}) {
                    int widest = typeOf(tag);
                    if (type != widest && (type != SHORT || widest != LONG)) {
                        faulty(tag + " of type " + type, 4, tag, with(Draft.one(tag, type, 8)));
                    }
                }
            }
            fine("SHORT for LONG", Draft.one(256, SHORT, 1), Draft.one(257, SHORT, 1),
                    Draft.one(273, SHORT, 8), Draft.one(278, SHORT, 1), Draft.one(279, SHORT, 0));
        });
        CHECK.sentence("fault 4: a COUNT that is 0", () -> {
            for (int tag : ONES) {
                faulty(tag + " of none", 4, tag, with(Draft.many(tag, typeOf(tag), 0, 8)));
            }
            faulty("273 of none", 4, 273, with(Draft.many(273, LONG, 0, 8)));
            faulty("279 of none", 4, 279, with(Draft.many(279, LONG, 0, 8)));
        });
        CHECK.sentence("fault 4: above 4096", () -> {
            for (int tag : new int[] {273, 279}) {
                for (long n : new long[] {4097, 8192, 65536, 65537, 1L << 30, 1L << 31, WIDEST}) {
                    faulty(tag + " of " + n, 4, tag, with(Draft.many(tag, SHORT, n, 8)));
                }
                faulty(tag + " of 4096", 5, tag, with(Draft.many(tag, SHORT, 4096, 8)));
            }
        });
        CHECK.sentence("fault 4: or not 1 where it must be 1", () -> {
            for (int tag : ONES) {
                for (long n : new long[] {2, 3, 4096, 65537, WIDEST}) {
                    faulty(tag + " of " + n, 4, tag, with(Draft.many(tag, typeOf(tag), n, 8)));
                }
            }
            faulty("two SHORTs, though they fit", 4, 256, with(Draft.many(256, SHORT, 2, 9)));
        });
        CHECK.sentence("fault 4: For those that have a meaning", () -> {
            int[] others = {0, 1, 254, 255, 258, 260, 261, 263, 265, 267, 272, 274, 277, 280, 281,
                284, 295, 297, 512 + 256, 32768, 65535};
            for (int tag : others) {
                fine(tag + " of any form", with(Draft.many(tag, 0, 0, WIDEST)));
                fine(tag + " of any size", with(Draft.many(tag, 5, WIDEST, WIDEST)));
            }
        });
    }

    // ---- 5

    private static void fault5() {
        CHECK.sentence("fault 5: what it says does not lie in the file", () -> {
            long[][] lists = {{273, LONG, 2}, {273, SHORT, 3}, {279, LONG, 2}, {279, SHORT, 3},
                {273, LONG, 16}, {279, SHORT, 31}};
            for (long[] l : lists) {
                int tag = (int) l[0];
                int type = (int) l[1];
                long size = l[2] * (type == SHORT ? 2 : 4);
                outside(tag, type, l[2], size);
                faulty("up to the last byte", 8, tag,
                        with(Draft.many(tag, type, l[2], LENGTH - size)));
                faulty("at 0", 8, tag, with(Draft.many(tag, type, l[2], 0)));
            }
            for (int tag : new int[] {282, 283}) {
                outside(tag, 5, 1, 8);
                faulty("up to the last byte", 7, tag, with(Draft.one(tag, 5, LENGTH - 8)));
                fine("at 0", with(Draft.one(tag, 5, 0)));
            }
        });
        CHECK.sentence("if COUNT things of the TYPE need at most four, they stand there", () -> {
            faulty("two SHORTs", 8, 273, with(Draft.many(273, SHORT, 2, WIDEST)));
            faulty("two SHORTs", 8, 279, with(Draft.many(279, SHORT, 2, WIDEST)));
            faulty("one LONG", 9, 273, with(Draft.one(273, LONG, WIDEST)));
            fine("one LONG", with(Draft.one(278, LONG, WIDEST)));
            faulty("one SHORT", 9, 273, with(Draft.one(273, SHORT, 65535)));
        });
    }

    private static void outside(int tag, int type, long count, long size) {
        long[] places = {LENGTH - size + 1, LENGTH - 1, LENGTH, LENGTH + 1, 65536, 1L << 31,
            WIDEST + 1 - size, WIDEST};
        for (long place : places) {
            faulty(tag + " at " + place, 5, tag, with(Draft.many(tag, type, count, place)));
        }
    }

    // ---- 6

    private static void fault6() {
        CHECK.sentence("fault 6: 256, 257, 273 or 279 is not there", () -> {
            for (int tag : new int[] {256, 257, 273, 279}) {
                faulty("without " + tag, 6, tag, Draft.without(PLAIN, tag));
                fine("with " + tag, PLAIN);
            }
            faulty("one entry of no meaning", 6, 256, new long[] {300, 3, 1, 0});
        });
        CHECK.sentence("promise 13: 6: the one that is missing, the least", () -> {
            int[] tags = {256, 257, 273, 279};
            for (int some = 1; some < 15; some++) {
                long[][] e = with(Draft.one(300, SHORT, 0));
                for (int i = 0; i < 4; i++) {
                    e = (some >> i & 1) == 1 ? Draft.without(e, tags[i]) : e;
                }
                faulty("without " + some, 6, tags[Integer.numberOfTrailingZeros(some)], e);
            }
        });
        CHECK.sentence("(1 if it is not there) .. (300 and 1)", () -> everywhere((order, ahead) -> {
            PictureFile x = file(order, ahead, PLAIN).load();
            x.read();
            long[] want = {9, 4, 1, 0, 1, 4, 1, 2, 300, 1, 300, 1};
            for (int w = 0; w < want.length; w++) {
                CHECK.due("of(" + ahead + ", " + w + ")", x.of(ahead, w), want[w]);
            }
        }));
    }

    // ---- 7

    private static void fault7() {
        for (int tag : new int[] {256, 257}) {
            CHECK.sentence("fault 7: WIDTH or HEIGHT is 0 or above 20000: " + tag, () -> {
                for (long v : new long[] {0, 20001, 65536, 65537, 1L << 31, WIDEST}) {
                    faulty("LONG " + v, 7, tag, with(Draft.one(tag, LONG, v)));
                }
                for (long v : new long[] {0, 20001, 32768, 65535}) {
                    faulty("SHORT " + v, 7, tag, with(Draft.one(tag, SHORT, v)));
                }
                for (int type : new int[] {SHORT, LONG}) {
                    fine("1", with(Draft.one(tag, type, 1)));
                    fine("20000", with(Draft.one(tag, type, 20000)));
                }
            });
        }
        CHECK.sentence("fault 7: CODE is there and neither 1 nor 4", () -> values(259, 1, 4));
        CHECK.sentence("fault 7: INK not 0 or 1", () -> values(262, 0, 1));
        CHECK.sentence("fault 7: FILL not 1 or 2", () -> values(266, 1, 2));
        CHECK.sentence("fault 7: UNIT not 1 .. 3", () -> values(296, 1, 2, 3));
        CHECK.sentence("fault 7: ROWS 0", () -> {
            faulty("LONG 0", 7, 278, with(Draft.one(278, LONG, 0)));
            faulty("SHORT 0", 7, 278, with(Draft.one(278, SHORT, 0)));
            for (long v : new long[] {4, 5, 65536, 1L << 31, WIDEST}) {
                fine("ROWS " + v, with(Draft.one(278, LONG, v)));
            }
            fine("ROWS 65535", with(Draft.one(278, SHORT, 65535)));
        });
    }

    private static void values(int tag, int... can) {
        for (int v : new int[] {0, 1, 2, 3, 4, 5, 255, 256, 257, 1024, 65535}) {
            boolean is = false;
            for (int c : can) {
                is |= c == v;
            }
            if (is) {
                fine(tag + " " + v, with(Draft.one(tag, SHORT, v)));
            } else {
                faulty(tag + " " + v, 7, tag, with(Draft.one(tag, SHORT, v)));
            }
        }
    }

    private static void secondNumbers(int order, int ahead) {
        for (int tag : new int[] {282, 283}) {
            Draft d = file(order, ahead, with(Draft.one(tag, 5, LENGTH - 8)));
            for (long first : new long[] {0, 1, WIDEST}) {
                d.at(LENGTH - 8, first, 4).at(LENGTH - 4, 0, 4);
                CHECK.faultDue(first + " and 0", d.load(), 7, ahead, tag, 0);
                right(first + " and 1", d.at(LENGTH - 4, 1, 4), ahead + 1);
                right(first + " and the most", d.at(LENGTH - 4, WIDEST, 4), ahead + 1);
            }
        }
    }

    private static void finenessOf7() {
        CHECK.sentence("fault 7: a FINENESS whose second number is 0",
                () -> everywhere(FaultEdgesTest::secondNumbers));
        CHECK.sentence("promise 13: 7: .. the first in the order in which 7 names them (296 ahead of 282,"
                + " 283)", () -> {
            int[] tags = {256, 257, 259, 262, 266, 278, 296, 282, 283};
            long[] wrong = {0, 20001, 2, 2, 0, 0, 4, LENGTH - 8, LENGTH - 8};
            for (int i = 0; i < tags.length; i++) {
                for (int j = i; j < tags.length; j++) {
                    long[][] e = with(Draft.one(tags[i], typeOf(tags[i]), wrong[i]));
                    e = Draft.with(e, Draft.one(tags[j], typeOf(tags[j]), wrong[j]));
                    faulty(tags[i] + " and " + tags[j], 7, tags[i], e);
                }
            }
        });
    }

    // ---- 8

    private static long[][] strips(long height, long rows, long places, long lengths) {
        long[][] e = Draft.with(with(Draft.one(257, LONG, height)), Draft.one(278, LONG, rows));
        e = Draft.with(e, Draft.many(273, SHORT, places, places <= 2 ? 0 : 400));
        return Draft.with(e, Draft.many(279, SHORT, lengths, lengths <= 2 ? 0 : 500));
    }

    private static void fault8() {
        CHECK.sentence("fault 8: the COUNT of PLACES .. is not that of the strips", () -> {
            long[][] wrong = {{5, 2, 2, 3}, {5, 2, 4, 3}, {5, 2, 2, 2}, {5, 2, 4, 4}, {4, 4, 2, 1},
                {20000, 1, 31, 31}, {1, WIDEST, 2, 1}, {20000, 19999, 1, 2}, {20000, 20000, 2, 2}};
            for (long[] w : wrong) {
                faulty(w[0] + " by " + w[1] + ": " + w[2], 8, 273, strips(w[0], w[1], w[2], w[3]));
            }
        });
        CHECK.sentence("fault 8: the COUNT of .. LENGTHS is not that of the strips", () -> {
            long[][] wrong = {{5, 2, 3, 2}, {5, 2, 3, 4}, {5, 5, 1, 2}, {5, 4, 2, 1},
                {31, 1, 31, 30}, {1, WIDEST, 1, 2}};
            for (long[] w : wrong) {
                faulty(w[0] + " by " + w[1] + ": " + w[3], 8, 279, strips(w[0], w[1], w[2], w[3]));
            }
        });
        CHECK.sentence("the number of STRIPS, (HEIGHT + ROWS - 1) / ROWS", () -> {
            long[][] pages = {{1, 1, 1}, {5, 5, 1}, {5, 4, 2}, {5, 3, 2}, {5, 2, 3}, {6, 2, 3},
                {5, 1, 5}, {5, 6, 1}, {5, WIDEST, 1}, {20000, WIDEST, 1}, {20000, 20000, 1},
                {20000, 19999, 2},
                {20000, 10000, 2}, {20000, 9999, 3}};
            for (long[] p : pages) {
                everywhere((order, ahead) -> stripsDue(order, ahead, p));
            }
        });
    }

    private static void stripsDue(int order, int ahead, long[] p) {
        Draft d = file(order, ahead, strips(p[0], p[1], p[2], p[2]));
        int list = AT + 2 + 12 * 2 + 8;
        for (int i = 0; i < p[2]; i++) {
            d.at((p[2] <= 2 ? list : 400) + 2 * i, 8 + i, 2);
        }
        PictureFile x = d.load();
        CHECK.due(p[0] + " by " + p[1] + ": read()", x.read(), ahead + 1);
        CHECK.due("strips", x.of(ahead, 6), p[2]);
        CHECK.due("ROWS", x.of(ahead, 5), Math.min(p[0], p[1]));
        CHECK.due("the last one's place", x.where(ahead, (int) p[2] - 1, 0), 7 + p[2]);
    }

    private static void stripsAtMost() {
        CHECK.sentence("fault 8: or those of this page and the ones before it are more than 8192", () -> {
            for (int order : ORDERS) {
                right("2 pages of 4096", pagesOf(order, 4096, 4096), 2);
                CHECK.faultDue("and 1 more", pagesOf(order, 4096, 4096, 1).load(), 8, 2, 278, 0);
                right("8192", pagesOf(order, 4096, 4095, 1), 3);
                CHECK.faultDue("8193", pagesOf(order, 4096, 4095, 2).load(), 8, 2, 278, 0);
                CHECK.faultDue("far more", pagesOf(order, 4095, 4096, 4096).load(), 8, 2, 278, 0);
                PictureFile again = pagesOf(order, 4096, 4096).load();
                for (int i = 0; i < 3; i++) {
                    CHECK.due("those of an earlier read do not count", again.read(), 2);
                }
            }
            Draft ring = pagesOf(77, 205);
            ring.at(8 + 2 + 12 * 5, 8, 4);
            CHECK.faultDue("a ring of 205", ring.load(), 8, 39, 278, 0);
        });
        CHECK.sentence("promise 13: 8: 273, or 279 if 273 is right, or 278 if both are", () -> {
            for (int order : ORDERS) {
                Draft both = pagesOf(order, 4096, 4096, 4);
                CHECK.faultDue("278", both.load(), 8, 2, 278, 0);
                Draft places = pagesOf(order, 4096, 4096, 4).at(entryAt(2, 2) + 4, 3, 4);
                CHECK.faultDue("273", places.load(), 8, 2, 273, 0);
                Draft lengths = pagesOf(order, 4096, 4096, 4).at(entryAt(2, 4) + 4, 3, 4);
                CHECK.faultDue("279", lengths.load(), 8, 2, 279, 0);
            }
        });
    }

    private static int pageAt(int page) {
        return 8 + 66 * page;
    }

    private static int entryAt(int page, int i) {
        return pageAt(page) + 2 + 12 * i;
    }

    /** Pages of so many strips each, which share the lists of their places and lengths. */
    private static Draft pagesOf(int order, int... counts) {
        Draft d = new Draft(order, 8);
        for (int i = 0; i < counts.length; i++) {
            int n = counts[i];
            d.directory(pageAt(i), i == counts.length - 1 ? 0 : pageAt(i + 1),
                    Draft.one(256, LONG, 1), Draft.one(257, LONG, n),
                    Draft.many(273, SHORT, n, 400), Draft.one(278, LONG, 1),
                    Draft.many(279, SHORT, n, 400 + 8192));
            if (n <= 2) {
                d.at(entryAt(i, 2) + 8, 8, 2).at(entryAt(i, 2) + 10, 8, 2);
                d.at(entryAt(i, 4) + 8, 0, 4);
            }
        }
        d.length(400 + 16384);
        for (int i = 0; i < 4096; i++) {
            d.at(400 + 2 * i, 8, 2);
        }
        return d;
    }

    // ---- 9

    private static void fault9() {
        CHECK.sentence("fault 9: a strip whose place is below 8", () -> {
            for (long place = 0; place < 8; place++) {
                faulty("at " + place, 9, 273, Draft.plain(place, 0));
                faulty("at " + place, 9, 273, Draft.plain(place, 1));
            }
            fine("at 8", Draft.plain(8, 0));
            fine("at 9", Draft.plain(9, 1));
        });
        CHECK.sentence("fault 9: or that does not lie in the file", () -> {
            long[][] wrong = {{8, LENGTH - 7}, {LENGTH - 1, 2}, {LENGTH, 1}, {LENGTH + 1, 1},
                {8, WIDEST}, {WIDEST, 1}, {WIDEST, WIDEST}, {1L << 31, 1L << 31},
                {WIDEST - 7, 16}, {16, WIDEST - 15}, {(1L << 31) + 8, 1}, {8, 1L << 31}};
            for (long[] w : wrong) {
                faulty(w[0] + " and " + w[1], 9, 273, Draft.plain(w[0], w[1]));
            }
            fine("all behind the head", Draft.plain(8, LENGTH - 8));
            fine("the last byte", Draft.plain(LENGTH - 1, 1));
        });
        CHECK.sentence("fault 9: (with a LENGTH 0 it does where its place is not above the file's"
                + " length)", () -> {
            fine("at its length", Draft.plain(LENGTH, 0));
            fine("one ahead", Draft.plain(LENGTH - 1, 0));
            for (long place : new long[] {LENGTH + 1, 65536, 1L << 31, WIDEST}) {
                faulty("at " + place, 9, 273, Draft.plain(place, 0));
            }
        });
        CHECK.sentence("promise 13: 2: for 9 the strip", () -> everywhere((order, ahead) -> {
            for (int bad = 0; bad < 31; bad += 5) {
                Draft d = file(order, ahead, strips(31, 1, 31, 31));
                for (int i = 0; i < 31; i++) {
                    d.at(400 + 2 * i, i < bad ? 8 + i : 7, 2);
                }
                CHECK.faultDue("strip " + bad, d.load(), 9, ahead, 273, bad);
            }
        }));
    }

    // ---- the first one

    private static void whichIsFirst() {
        CHECK.sentence("first 2 to 5 for all of a page's entries one by one, then 6 to 9", () -> {
            long[] wrongType = {257, 9, 1, 1};
            long[] wrongPlace = {273, LONG, 2, WIDEST};
            long[] wrongTag = {100, LONG, 1, 1};
            faulty("4 of an entry ahead of 3 of the next", 4, 257, wrongType, wrongTag);
            faulty("5 of an entry ahead of 3 of the next", 5, 273, wrongPlace, wrongTag);
            faulty("5 of an entry ahead of 4 of the next", 5, 273, wrongPlace,
                    Draft.one(279, 9, 1));
            faulty("4 of an entry ahead of 5 of the next", 4, 257, wrongType, wrongPlace);
            faulty("3 of an entry ahead of its 4", 3, 257, Draft.one(257, LONG, 1), wrongType);
            faulty("4 of an entry ahead of its 5", 4, 282, new long[] {282, 5, 2, WIDEST});
            faulty("4 of the last ahead of 6", 4, 296, Draft.one(296, LONG, 1));
            faulty("5 of the last ahead of 6", 5, 283, Draft.one(283, 5, WIDEST));
            faulty("3 of the last ahead of 7", 3, 1, Draft.one(256, LONG, 0), PLAIN[1], PLAIN[2],
                    PLAIN[3], Draft.one(1, LONG, 0));
            faulty("6 ahead of 7", 6, 279, Draft.one(256, LONG, 0), PLAIN[1], PLAIN[2]);
            faulty("7 ahead of 8", 7, 296,
                    Draft.with(strips(5, 1, 3, 3), Draft.one(296, SHORT, 0)));
            faulty("8 ahead of 9", 8, 279, strips(5, 1, 5, 4));
        });
        CHECK.sentence("pages are gone through one by one", () -> {
            for (int order : ORDERS) {
                Draft d = file(order, 1, Draft.one(256, 9, 0)).at(8 + 2 + 12 * 2 + 8, 7, 4);
                CHECK.faultDue("9 of the first, 4 of the second", d.load(), 9, 0, 273, 0);
                Draft next = file(order, 1, PLAIN).at(8 + PLAIN_BYTES - 4, 1, 4);
                CHECK.faultDue("2 of the second", next.load(), 2, 1, 0, 0);
                next.at(8 + 2 + 8, 0, 4);
                CHECK.faultDue("7 of the first, 2 of the second", next.load(), 7, 0, 256, 0);
                next.at(4, 3, 4);
                CHECK.faultDue("2 of the first", next.load(), 2, 0, 0, 0);
                next.at(2, 0, 2);
                CHECK.faultDue("1 ahead of all", next.load(), 1, 0, 0, 0);
            }
        });
    }

    // ---- promise 13

    private static void promise13() {
        CHECK.sentence("promise 13: NONE if there was no FAULT", () -> {
            PictureFile x = file(77, 1, PLAIN).load();
            for (int round = 0; round < 2; round++) {
                for (int w = -1; w <= 3; w++) {
                    CHECK.due("round " + round + ": " + w, x.fault(w), PictureFile.NONE);
                }
                x.read();
            }
        });
        CHECK.sentence("promise 13: or no such w", () -> {
            PictureFile x = file(77, 1, Draft.plain(7, 0)).load();
            CHECK.faultDue("9", x, 9, 1, 273, 0);
            for (int w : new int[] {-1, -2, 3, 4, 256, 65536, LEAST, MOST}) {
                CHECK.due("fault(" + w + ")", x.fault(w), PictureFile.NONE);
            }
        });
        CHECK.sentence("promise 13: Where the FAULT of the latest read() was", () -> {
            PictureFile x = file(73, 3, strips(31, 1, 31, 31)).load();
            x.poke(400, 8);
            CHECK.faultDue("9", x, 9, 3, 273, 1);
            x.poke(0, 0);
            CHECK.due("what is not read yet", x.fault(2), 1);
            CHECK.faultDue("then 1", x, 1, 0, 0, 0);
            x.poke(0, 73);
            x.poke(10 + 8, 0);
            CHECK.faultDue("then 7", x, 7, 0, 256, 0);
            x.poke(4, 8 + PLAIN_BYTES * 2);
            x.poke(8 + PLAIN_BYTES * 3 - 4, 0);
            x.poke(8 + PLAIN_BYTES * 3 - 3, 0);
            CHECK.due("then none", x.read(), 1);
            CHECK.due("none", x.fault(0), PictureFile.NONE);
            x.cut(7);
            x.begin(77);
            CHECK.stateRefused("a refused read is none", x, x::read);
        });
        CHECK.sentence("promise 13: 0 for others", () -> {
            CHECK.faultDue("1", new PictureFile(), 1, 0, 0, 0);
            CHECK.faultDue("2", linked(77, 3, 1).load(), 2, 3, 0, 0);
            faulty("2: the strip", 4, 273, with(Draft.one(273, 9, 0)));
        });
    }
}
