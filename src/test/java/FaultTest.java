import java.util.ArrayList;
import java.util.List;

/** Promises 12 and 13: the faults 1 to 9, where they are, and which one is first. */
public final class FaultTest {
    private static final Check CHECK = new Check();
    private static final long[][] PLAIN = Draft.plain(8, 0);
    private static final int PLAIN_LENGTH = 8 + 2 + 4 * 12 + 4;

    public static void main(String[] args) {
        for (int order : new int[] {73, 77}) {
            fault1(order);
            fault2(order);
            fault3(order);
            fault4(order);
            fault5(order);
            fault6(order);
            fault7(order);
            fault8(order);
            fault9(order);
            theFirstOne(order);
        }
        manyStrips();
        fortyPages();
        faultOfALaterRead();
        faultOfNothing();
        CHECK.end("FaultTest");
    }

    private static Draft draft(int order, long[][] entries) {
        return new Draft(order, 8).directory(8, 0, entries);
    }

    private static void fault(String what, Draft d, int kind, int tag) {
        CHECK.faultDue(what, d.load(), kind, 0, tag, 0);
    }

    private static void right(String what, Draft d, int pages) {
        PictureFile x = d.load();
        CHECK.due(what, x.read(), pages);
        for (int w = -1; w <= 3; w++) {
            CHECK.due(what + ": fault(" + w + ")", x.fault(w), PictureFile.NONE);
        }
    }

    private static void fault1(int order) {
        right("a plain file", draft(order, PLAIN), 1);
        for (int n = 0; n < 8; n++) {
            fault(n + " bytes", draft(order, PLAIN).length(n), 1, 0);
        }
        fault("eight bytes", draft(order, PLAIN).length(8), 2, 0);
        fault("another first order", draft(order, PLAIN).at(0, 150 - order, 1), 1, 0);
        fault("another second order", draft(order, PLAIN).at(1, 150 - order, 1), 1, 0);
        fault("no order", draft(order, PLAIN).at(0, 0, 2), 1, 0);
        fault("42 in the other order", draft(order, PLAIN).at(2, 42 << 8, 2), 1, 0);
        fault("43", draft(order, PLAIN).at(2, 43, 2), 1, 0);
        fault("298", draft(order, PLAIN).at(2, 42 + 256, 2), 1, 0);
        fault("the other order twice",
                draft(order, PLAIN).at(0, 150 - order, 1).at(1, 150 - order, 1), 1, 0);
    }

    private static void fault2(int order) {
        for (long place : new long[] {0, 1, 2, 6, 7, 9, 60, 62, 64, 65534, 65536,
            1L << 31, (1L << 31) + 8, (1L << 32) - 2, (1L << 32) - 1}) {
            Draft d = draft(order, PLAIN).at(4, place, 4);
            fault("first directory at " + place, d, 2, 0);
            if (place != 0) {
                Draft next = new Draft(order, 8).directory(8, place, PLAIN);
                CHECK.faultDue("second directory at " + place, next.load(), 2, 1, 0, 0);
            }
        }
        fault("no entries", draft(order, PLAIN).at(8, 0, 2), 2, 0);
        fault("one entry too many", draft(order, PLAIN).at(8, 5, 2), 2, 0);
        fault("many entries", draft(order, PLAIN).at(8, 65535, 2), 2, 0);
        for (int n = 9; n < PLAIN_LENGTH; n++) {
            fault("cut at " + n, draft(order, PLAIN).length(n), 2, 0);
        }
        right("not cut", draft(order, PLAIN).length(PLAIN_LENGTH), 1);
        Draft two = new Draft(order, 80).directory(8, 0, PLAIN).directory(80, 8, PLAIN);
        right("the second one ahead of the first", two, 2);
    }

    private static void fault3(int order) {
        long[][] same = Draft.with(PLAIN, Draft.one(300, 3, 0));
        right("a tag without meaning", draft(order, same), 1);
        for (int i = 1; i < same.length; i++) {
            long before = same[i - 1][0];
            fault("a tag twice", draft(order, same).at(10 + 12 * i, before, 2), 3, (int) before);
            fault("a lesser tag", draft(order, same).at(10 + 12 * i, before - 1, 2), 3,
                    (int) before - 1);
        }
        fault("tag 0 behind another", draft(order, same).at(10 + 12 * 4, 0, 2), 3, 0);
        right("tag 0 ahead of all", draft(order, Draft.with(PLAIN, Draft.one(0, 3, 0))), 1);
        fault("tag 0 twice", draft(order, new long[][] {{0, 3, 1, 0}, {0, 3, 1, 0}}), 3, 0);
        right("the greatest tag", draft(order, Draft.with(PLAIN, Draft.one(65535, 0, 0))), 1);
    }

    private static void fault4(int order) {
        int[] shorts = {259, 262, 266, 296};
        int[] either = {256, 257, 273, 278, 279};
        int[] pairs = {282, 283};
        for (int type : new int[] {0, 1, 2, 3, 4, 5, 6, 259, 3 << 8, 65535}) {
            type(order, shorts, type, type == 3);
            type(order, either, type, type == 3 || type == 4);
            type(order, pairs, type, type == 5);
        }
        for (int tag : new int[] {256, 257, 259, 262, 266, 278, 282, 283, 296}) {
            for (long n : new long[] {0, 2, 4096, 4097, 65536 + 1, 1L << 24, 4294967295L}) {
                fault(tag + " with COUNT " + n, counted(order, tag, n), 4, tag);
            }
        }
        for (int tag : new int[] {273, 279}) {
            for (long n : new long[] {0, 4097, 65536 + 1, 1L << 24, 1L << 31, 4294967295L}) {
                fault(tag + " with COUNT " + n, counted(order, tag, n), 4, tag);
            }
            fault(tag + " with COUNT 4096", counted(order, tag, 4096), 5, tag);
            fault(tag + " with COUNT 2", counted(order, tag, 2).length(70), 8, tag);
        }
        long[][] other = Draft.with(PLAIN, Draft.many(258, 77, 0, 1));
        right("a tag without meaning has any form", draft(order, other), 1);
    }

    private static void type(int order, int[] tags, int type, boolean can) {
        for (int tag : tags) {
            PictureFile x = draft(order, Draft.with(PLAIN, Draft.one(tag, type, 1))).load();
            int got = x.read();
            CHECK.due(tag + " of type " + type, got == -4, !can);
            CHECK.due("fault about " + tag, got != -4 || x.fault(1) == tag, true);
            CHECK.due("fault 2 is 0", x.fault(2) == (got > 0 ? -1 : 0), true);
        }
    }

    private static Draft counted(int order, int tag, long n) {
        int type = tag == 282 || tag == 283 ? 5 : tag == 259 || tag == 262 || tag == 266
                || tag == 296 ? 3 : 4;
        return draft(order, Draft.with(PLAIN, Draft.many(tag, type, n, 8)));
    }

    private static void fault5(int order) {
        for (int tag : new int[] {282, 283}) {
            long[][] e = Draft.with(PLAIN, Draft.one(tag, 5, 0));
            int size = 8 + 2 + 12 * 5 + 4;
            int at = tag == 282 || tag == 283 ? 10 + 12 * 4 + 8 : 0;
            for (long place : new long[] {size - 7, size, size + 1, 1L << 31, 4294967288L,
                4294967295L}) {
                fault(tag + " at " + place, draft(order, e).at(at, place, 4), 5, tag);
            }
            right(tag + " at the end", draft(order, e).at(at, size, 4).at(size, 1, 4)
                    .at(size + 4, 1, 4), 1);
            Draft early = draft(order, e).at(at, 0, 4);
            CHECK.due(tag + " at 0 lies in the file", early.load().read(), 1);
        }
        for (int tag : new int[] {273, 279}) {
            int size = PLAIN_LENGTH + 12;
            fault("three SHORTs at the end", lists(order, tag, 3, 3, size - 5), 5, tag);
            fault("two LONGs at the end", lists(order, tag, 4, 2, size - 7), 5, tag);
            fault("three SHORTs in the file", lists(order, tag, 3, 3, size - 6), 8, tag);
            fault("two LONGs in the file", lists(order, tag, 4, 2, size - 8), 8, tag);
            fault("two SHORTs in the entry", lists(order, tag, 3, 2, 4294967295L), 8, tag);
            fault("one LONG in the entry", lists(order, tag, 4, 1, 4294967295L), 9, 273);
        }
    }

    private static Draft lists(int order, int tag, int type, long count, long place) {
        long[][] e = Draft.with(PLAIN, Draft.one(300, 3, 0));
        return draft(order, Draft.with(e, Draft.many(tag, type, count, place)));
    }

    private static void fault6(int order) {
        int[] needed = {256, 257, 273, 279};
        for (int i = 0; i < needed.length; i++) {
            fault("without " + needed[i], draft(order, Draft.without(PLAIN, needed[i])), 6,
                    needed[i]);
            for (int j = i + 1; j < needed.length; j++) {
                long[][] e = Draft.without(Draft.without(PLAIN, needed[i]), needed[j]);
                fault("without " + needed[i] + ", " + needed[j], draft(order, e), 6, needed[i]);
            }
        }
        fault("without any", draft(order, new long[][] {{300, 3, 1, 0}}), 6, 256);
        Draft two = new Draft(order, 80).directory(80, 8, PLAIN)
                .directory(8, 0, Draft.without(PLAIN, 273));
        CHECK.faultDue("in the second page", two.load(), 6, 1, 273, 0);
    }

    private static void fault7(int order) {
        for (int tag : new int[] {256, 257}) {
            for (long v : new long[] {0, 20001, 65536, 65537, 1L << 31, 4294967295L}) {
                fault(tag + " " + v, draft(order, Draft.with(PLAIN, Draft.one(tag, 4, v))), 7, tag);
            }
            for (long v : new long[] {0, 20001, 65535}) {
                fault(tag + " " + v, draft(order, Draft.with(PLAIN, Draft.one(tag, 3, v))), 7, tag);
            }
            right(tag + " 20000", draft(order, Draft.with(PLAIN, Draft.one(tag, 4, 20000))), 1);
            right(tag + " 1", draft(order, Draft.with(PLAIN, Draft.one(tag, 3, 1))), 1);
        }
        values(order, 259, new int[] {1, 4});
        values(order, 262, new int[] {0, 1});
        values(order, 266, new int[] {1, 2});
        values(order, 296, new int[] {1, 2, 3});
        fault("278 0", draft(order, Draft.with(PLAIN, Draft.one(278, 4, 0))), 7, 278);
        fault("278 SHORT 0", draft(order, Draft.with(PLAIN, Draft.one(278, 3, 0))), 7, 278);
        for (int tag : new int[] {282, 283}) {
            Draft d = draft(order, Draft.with(PLAIN, Draft.one(tag, 5, 80)));
            fault(tag + " of 0", d.at(80, 5, 4).at(84, 0, 4), 7, tag);
            right(tag + " of 1", d.at(80, 0, 4).at(84, 1, 4), 1);
        }
        orderOf7(order);
    }

    private static void values(int order, int tag, int[] can) {
        for (int v : new int[] {0, 1, 2, 3, 4, 5, 256, 1024, 65535}) {
            boolean is = false;
            for (int c : can) {
                is |= c == v;
            }
            Draft d = draft(order, Draft.with(PLAIN, Draft.one(tag, 3, v)));
            if (is) {
                right(tag + " " + v, d, 1);
            } else {
                fault(tag + " " + v, d, 7, tag);
            }
        }
    }

    /** All values are wrong; one by one, in the order of the document, they are mended. */
    private static void orderOf7(int order) {
        int[] tags = {256, 257, 259, 262, 266, 278, 296, 282, 283};
        long[] wrong = {0, 20001, 2, 2, 0, 0, 4, 200, 200};
        long[] mended = {1, 1, 4, 1, 2, 1, 3, 208, 208};
        long[][] e = PLAIN;
        for (int i = 0; i < tags.length; i++) {
            e = Draft.with(e, Draft.one(tags[i], typeOf(tags[i]), wrong[i]));
        }
        for (int i = 0; i < tags.length; i++) {
            fault("7 at " + tags[i], draft(order, e).at(200, 7, 4).at(204, 0, 4).at(208, 7, 4)
                    .at(212, 7, 4), 7, tags[i]);
            e = Draft.with(e, Draft.one(tags[i], typeOf(tags[i]), mended[i]));
        }
        right("all mended", draft(order, e).at(208, 7, 4).at(212, 7, 4), 1);
    }

    private static int typeOf(int tag) {
        return tag == 282 || tag == 283 ? 5 : tag == 256 || tag == 257 || tag == 278 ? 4 : 3;
    }

    private static void fault8(int order) {
        int[][] cases = {
            {4, 4, 1, 1, 0}, {4, 9, 1, 1, 0}, {4, 3, 2, 2, 0}, {4, 2, 2, 2, 0}, {4, 1, 4, 4, 0},
            {5, 2, 3, 3, 0}, {5, 2, 2, 2, 273}, {5, 2, 3, 2, 279}, {5, 2, 2, 3, 273},
            {5, 2, 4, 3, 273}, {5, 2, 3, 4, 279}, {4, 4, 2, 2, 273}, {4, 4, 1, 2, 279},
            {20000, 1, 1, 1, 273}, {4096, 1, 4096, 4096, 0}, {4097, 1, 4096, 4096, 273},
        };
        for (int[] c : cases) {
            long[][] e = Draft.with(PLAIN, Draft.one(257, 4, c[0]));
            e = Draft.with(e, Draft.one(278, 4, c[1]));
            e = Draft.with(e, list(273, c[2], 100));
            e = Draft.with(e, list(279, c[3], 100 + 2 * 4096));
            Draft d = draft(order, e).length(100 + 4 * 4096);
            for (int i = 0; i < 4096; i++) {
                d.at(100 + 2 * i, 8, 2);
            }
            if (c[4] == 0) {
                right("strips of " + c[0] + " by " + c[1], d, 1);
            } else {
                fault("strips of " + c[0] + " by " + c[1], d, 8, c[4]);
            }
        }
    }

    /** One or two SHORTs stand in the entry: then a place of 8 and a length of 0. */
    private static long[] list(int tag, int count, int place) {
        if (count == 1) {
            return Draft.one(tag, 3, tag == 273 ? 8 : 0);
        }
        if (count == 2) {
            return Draft.many(tag, 3, 2, tag == 273 ? 8L << 16 | 8 : 0);
        }
        return Draft.many(tag, 3, count, place);
    }

    private static void fault9(int order) {
        int size = PLAIN_LENGTH;
        long[][] wrong = {
            {7, 0}, {0, 0}, {7, 1}, {8, size - 7}, {size, 1}, {size + 1, 0}, {size - 1, 2},
            {4294967295L, 0}, {8, 4294967295L}, {4294967295L, 4294967295L}, {1L << 31, 1L << 31},
            {size, 4294967295L}, {4294967288L, 16},
        };
        for (long[] w : wrong) {
            fault("strip " + w[0] + ", " + w[1], draft(order, Draft.plain(w[0], w[1])), 9, 273);
        }
        long[][] fine = {{8, 0}, {8, size - 8}, {size, 0}, {size - 1, 1}, {9, 1}};
        for (long[] f : fine) {
            right("strip " + f[0] + ", " + f[1], draft(order, Draft.plain(f[0], f[1])), 1);
        }
        for (int bad = 0; bad < 5; bad++) {
            long[][] e = Draft.with(PLAIN, Draft.one(257, 4, 5));
            e = Draft.with(e, Draft.one(278, 4, 1));
            e = Draft.with(e, Draft.many(273, 4, 5, 100));
            e = Draft.with(e, Draft.many(279, 3, 5, 120));
            Draft d = draft(order, e);
            for (int i = 0; i < 5; i++) {
                d.at(100 + 4 * i, i < bad ? 130 : 131, 4).at(120 + 2 * i, 0, 2);
            }
            CHECK.faultDue("strip " + bad, d.load(), 9, 0, 273, bad);
        }
    }

    /** One page with all faults from 2 on is mended step by step. */
    private static void theFirstOne(int order) {
        Draft d = draft(order, new long[][] {
            {256, 9, 1, 0}, {256, 3, 2, 8}, {258, 9, 0, 0}, {273, 4, 2, 5000}, {279, 4, 1, 5000},
        });
        d.at(8, 500, 2);
        fault("2 ahead of 3", d, 2, 0);
        d.at(8, 5, 2);
        fault("4 of an entry ahead of 3 of the next", d, 4, 256);
        d.at(12, 4, 2);
        fault("3 ahead of 4", d, 3, 256);
        d.at(22, 257, 2);
        fault("4 ahead of 5", d, 4, 257);
        d.at(22, 254, 2);
        fault("3 of a tag without meaning", d, 3, 254);
        d.at(22, 257, 2).at(26, 1, 4).at(30, 8, 2);
        fault("5 ahead of 7", d, 5, 273);
        d.at(58, 273, 2);
        fault("5 of an entry ahead of 3 of the next", d, 5, 273);
        d.at(58, 279, 2).at(54, 16, 4).at(10, 255, 2);
        fault("6 ahead of 7", d, 6, 256);
        d.at(10, 256, 2);
        fault("7 ahead of 8", d, 7, 256);
        d.at(18, 1, 4);
        fault("8 ahead of 9", d, 8, 273);
        d.at(50, 1, 4).at(54, 8, 4);
        fault("9", d, 9, 273);
        d.at(66, 0, 4);
        right("all is mended", d, 1);
        d.at(70, 4, 4);
        CHECK.faultDue("the next page", d.load(), 2, 1, 0, 0);
        d.at(66, 5000, 4);
        fault("9 of a page ahead of 2 of the next", d, 9, 273);
    }

    /** Two pages of 4096 strips may be; a strip more may not, whatever page it is on. */
    private static void manyStrips() {
        long[][] e = Draft.with(PLAIN, Draft.one(257, 4, 4096));
        e = Draft.with(e, Draft.one(278, 3, 1));
        e = Draft.with(e, Draft.many(273, 3, 4096, 300));
        e = Draft.with(e, Draft.many(279, 3, 4096, 300 + 8192));
        Draft d = new Draft(73, 8).directory(8, 100, e).directory(100, 0, e).length(300 + 16384);
        for (int i = 0; i < 4096; i++) {
            d.at(300 + 2 * i, 8 + i, 2).at(300 + 8192 + 2 * i, i % 7, 2);
        }
        PictureFile x = d.load();
        CHECK.due("8192 strips", x.read(), 2);
        for (int i = 0; i < 4096; i += 5) {
            CHECK.due("place " + i, x.where(0, i, 0), 8 + i);
            CHECK.due("place " + i, x.where(1, i, 0), 8 + i);
            CHECK.due("length " + i, x.where(1, i, 1), i % 7);
        }
        CHECK.due("the last one", x.where(1, 4095, 0), 4103);
        CHECK.indexDue("behind it", () -> x.where(1, 4096, 0));
        CHECK.due("read again", x.read(), 2);
        d.directory(100, 200, e).directory(200, 0, PLAIN);
        CHECK.faultDue("8193 strips", d.load(), 8, 2, 278, 0);
        d.directory(200, 0, Draft.with(PLAIN, Draft.one(278, 4, 3)));
        CHECK.faultDue("8194 strips of wrong counts", d.load(), 8, 2, 273, 0);
    }

    private static void fortyPages() {
        Draft d = new Draft(77, 8);
        for (int i = 0; i < 41; i++) {
            d.directory(8 + 54 * i, i == 39 ? 0 : 8 + 54 * (i + 1), PLAIN);
        }
        List<PictureFile> both = new ArrayList<>();
        both.add(d.load());
        d.directory(8 + 54 * 39, 8 + 54 * 40, PLAIN).directory(8 + 54 * 40, 0, PLAIN);
        both.add(d.load());
        CHECK.due("40 pages", both.get(0).read(), 40);
        CHECK.due("the last one's place", both.get(0).of(39, 12), 8 + 54 * 39);
        CHECK.faultDue("41 pages", both.get(1), 2, 40, 0, 0);
    }

    private static void faultOfALaterRead() {
        PictureFile x = new Draft(73, 8).directory(8, 1, PLAIN).load();
        CHECK.faultDue("in the second page", x, 2, 1, 0, 0);
        x.poke(2, 0);
        CHECK.faultDue("then at the beginning", x, 1, 0, 0, 0);
        x.poke(2, 42);
        x.poke(8 + 2 + 12 * 2 + 8, 7);
        CHECK.faultDue("then of a strip", x, 9, 0, 273, 0);
        x.poke(8 + 2 + 12 * 2 + 8, 8);
        x.poke(8 + 2 + 12 * 4, 0);
        CHECK.due("then none", x.read(), 1);
        CHECK.due("nowhere", x.fault(0), PictureFile.NONE);
    }

    private static void faultOfNothing() {
        PictureFile x = new PictureFile();
        CHECK.faultDue("an empty file", x, 1, 0, 0, 0);
        for (int w : new int[] {-1, 3, 4, Integer.MIN_VALUE, Integer.MAX_VALUE}) {
            CHECK.due("fault(" + w + ")", x.fault(w), PictureFile.NONE);
        }
        x.begin(77);
        CHECK.stateDue("read", x::read);
        CHECK.due("the latest read's fault stays", x.fault(0), 0);
    }
}
