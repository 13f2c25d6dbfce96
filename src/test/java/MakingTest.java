import java.util.Arrays;

/** Promises 6 to 11: begin, page, put, strip, close, end; and look while a file is made. */
public final class MakingTest {
    private static final Check CHECK = new Check();

    public static void main(String[] args) {
        begin();
        beginInPlaceOfAll();
        pageRefuses();
        pageCountsStrips();
        put();
        putRefuses();
        padding();
        strip();
        close();
        end();
        fortyPages();
        for (int order : new int[] {73, 77}) {
            aWholeFile(order);
        }
        putLimit();
        putLimitBehindAByteZero();
        closeLimit();
        closeLimitWithoutLists();
        CHECK.end("MakingTest");
    }

    private static PictureFile begun(int order) {
        PictureFile x = new PictureFile();
        x.begin(order);
        return x;
    }

    private static void begin() {
        PictureFile x = new PictureFile();
        x.give(7, 1);
        for (int order : new int[] {0, 72, 74, 76, 78, -73, 73 + 256, Integer.MAX_VALUE}) {
            CHECK.argumentDue("begin(" + order + ")", () -> x.begin(order));
        }
        CHECK.looks("a refused begin", x, 1, 0, 0, 0, 0, 0, 0, 0);
        x.begin(73);
        CHECK.looks("begin(73)", x, 8, 1, 0, 0, 0, 0, 0, 0);
        CHECK.due("begin(73)", x.bytes(0), 0x49492A0000000000L);
        x.begin(77);
        CHECK.due("begin(77)", x.bytes(0), 0x4D4D002A00000000L);
        CHECK.due("bytes(1)", x.bytes(1), 0);
    }

    private static void beginInPlaceOfAll() {
        PictureFile x = begun(77);
        x.page(1, 3, 1, 1, 1);
        x.strip();
        x.strip();
        x.strip();
        x.close();
        x.page(1, 3, 1, 1, 1);
        x.put(-1, 8);
        x.strip();
        x.put(-1, 3);
        CHECK.argumentDue("begin(1)", () -> x.begin(1));
        CHECK.looks("in the midst", x, 185, 1, 1, 1, 2, 3, 0, 0);
        x.begin(73);
        CHECK.looks("begin again", x, 8, 1, 0, 0, 0, 0, 0, 0);
        x.page(5, 6, 6, 7, 8);
        x.strip();
        x.close();
        x.end();
        CHECK.due("what is made then", x.read(), 1);
        CHECK.due("strips of it", x.of(0, 6), 1);
        CHECK.due("place of its directory", x.of(0, 12), 24);
        CHECK.due("bytes of it", x.look(0), 150);
    }

    private static void pageRefuses() {
        PictureFile x = begun(77);
        int[][] wrong = {
            {0, 1, 1, 1, 1}, {20001, 1, 1, 1, 1}, {-1, 1, 1, 1, 1},
            {1, 0, 1, 1, 1}, {1, 20001, 20000, 1, 1}, {1, -1, -1, 1, 1},
            {1, 5, 0, 1, 1}, {1, 5, 6, 1, 1}, {1, 5, -1, 1, 1},
            {1, 513, 1, 1, 1}, {1, 1025, 2, 1, 1}, {1, 20000, 39, 1, 1},
            {1, 1, 1, 0, 1}, {1, 1, 1, 10001, 1}, {1, 1, 1, 1, 0}, {1, 1, 1, 1, 10001},
            {1, 1, 1, -1, 1}, {1, 1, 1, 1, Integer.MIN_VALUE},
            {Integer.MAX_VALUE, Integer.MAX_VALUE, Integer.MAX_VALUE, 1, 1},
        };
        for (int[] w : wrong) {
            CHECK.argumentDue("page " + Arrays.toString(w),
                    () -> x.page(w[0], w[1], w[2], w[3], w[4]));
        }
        CHECK.looks("refused pages", x, 8, 1, 0, 0, 0, 0, 0, 0);
        CHECK.due("a page", x.page(1, 2, 1, 1, 1), 2);
        CHECK.stateDue("a page in a page", () -> x.page(1, 1, 1, 1, 1));
        CHECK.stateDue("a wrong page in a page", () -> x.page(0, 1, 1, 1, 1));
        CHECK.looks("the page", x, 8, 1, 1, 0, 2, 0, 0, 0);
        x.strip();
        x.strip();
        CHECK.stateDue("a page that is not closed", () -> x.page(1, 1, 1, 1, 1));
        x.close();
        x.end();
        CHECK.stateDue("a page of a made file", () -> x.page(1, 1, 1, 1, 1));
    }

    private static void pageCountsStrips() {
        int[][] pages = {
            {1, 1, 1}, {5, 1, 5}, {5, 2, 3}, {5, 4, 2}, {5, 5, 1}, {6, 3, 2}, {512, 1, 512},
            {1024, 2, 512}, {1023, 2, 512}, {20000, 40, 500}, {20000, 20000, 1}, {20000, 19999, 2},
        };
        for (int[] p : pages) {
            PictureFile x = begun(73);
            CHECK.due("strips of " + Arrays.toString(p), x.page(20000, p[0], p[1], 10000, 1), p[2]);
            CHECK.due("to come", x.look(4), p[2]);
            CHECK.due("a page is made", x.look(2), 1);
        }
    }

    private static void put() {
        PictureFile x = begun(73);
        x.page(1, 2, 1, 1, 1);
        CHECK.due("put 3", x.put(0x8182838485868788L, 3), true);
        CHECK.due("put 8", x.put(0x0102030405060708L, 8), true);
        CHECK.looks("two parts", x, 19, 1, 1, 0, 2, 11, 0, 0);
        CHECK.due("highest first in both orders", x.bytes(1), 0x8687880102030405L);
        CHECK.due("the rest", x.bytes(2), 0x0607080000000000L);
    }

    private static void putRefuses() {
        PictureFile x = begun(73);
        CHECK.due("put without a page", x.put(1, 1), false);
        x.page(1, 1, 1, 1, 1);
        for (int n : new int[] {0, -1, 9, Integer.MIN_VALUE, Integer.MAX_VALUE}) {
            CHECK.due("put n " + n, x.put(-1, n), false);
        }
        CHECK.looks("nothing was put", x, 8, 1, 1, 0, 1, 0, 0, 0);
        x.put(1, 1);
        x.strip();
        CHECK.due("put behind the last strip", x.put(1, 1), false);
        CHECK.looks("no more strips", x, 9, 1, 1, 0, 0, 0, 0, 0);
        x.close();
        CHECK.due("put behind the page", x.put(1, 1), false);
        x.end();
        CHECK.due("put behind the file", x.put(1, 1), false);
        CHECK.due("bytes", x.look(0), 10 + 16 + 126);
    }

    private static void padding() {
        PictureFile x = begun(77);
        x.page(1, 4, 1, 1, 1);
        x.put(-1, 1);
        x.strip();
        CHECK.due("no byte 0 yet", x.look(0), 9);
        CHECK.due("a refused put brings none", x.put(1, 9), false);
        CHECK.due("no byte 0 still", x.look(0), 9);
        x.put(0xAB, 1);
        CHECK.due("a byte 0 ahead of the first one", x.look(0), 11);
        CHECK.due("which is not of the strip", x.look(5), 1);
        x.put(0xCD, 1);
        CHECK.due("none ahead of the next ones", x.look(0), 12);
        x.put(0xEF, 1);
        x.strip();
        CHECK.due("bytes", x.bytes(1), 0xFF00ABCDEF000000L);
        CHECK.due("odd", x.look(0), 13);
        x.strip();
        CHECK.due("an empty one has it, too", x.look(0), 14);
        x.strip();
        CHECK.due("an empty one at an even place has none", x.look(0), 14);
        x.close();
        x.end();
        x.read();
        int[] places = {8, 10, 14, 14};
        int[] lengths = {1, 3, 0, 0};
        for (int i = 0; i < 4; i++) {
            CHECK.due("place " + i, x.where(0, i, 0), places[i]);
            CHECK.due("length " + i, x.where(0, i, 1), lengths[i]);
        }
        paddingOverOldBytes();
    }

    private static void paddingOverOldBytes() {
        PictureFile x = new PictureFile();
        for (int i = 0; i < 30; i++) {
            x.give(-1, 8);
        }
        x.begin(77);
        x.page(1, 1, 1, 1, 1);
        x.put(7, 1);
        x.strip();
        x.close();
        CHECK.due("a byte 0 where another stood", x.bytes(1), 0x0700000000010000L);
    }

    private static void strip() {
        PictureFile x = begun(77);
        CHECK.stateDue("strip without a page", x::strip);
        x.page(1, 3, 1, 1, 1);
        CHECK.due("first", x.strip(), 2);
        x.put(1, 2);
        CHECK.due("second", x.strip(), 1);
        CHECK.looks("two", x, 10, 1, 1, 0, 1, 0, 0, 0);
        CHECK.due("third", x.strip(), 0);
        CHECK.stateDue("a fourth", x::strip);
        CHECK.looks("three", x, 10, 1, 1, 0, 0, 0, 0, 0);
        x.close();
        CHECK.stateDue("strip behind the page", x::strip);
    }

    private static void close() {
        PictureFile x = begun(77);
        CHECK.stateDue("close without a page", x::close);
        x.page(1, 2, 1, 1, 1);
        CHECK.stateDue("close with no strip", x::close);
        x.strip();
        CHECK.stateDue("close with one of two", x::close);
        CHECK.looks("not closed", x, 8, 1, 1, 0, 1, 0, 0, 0);
        x.put(1, 1);
        x.strip();
        CHECK.due("close", x.close(), 10 + 16 + 16 + 126);
        CHECK.looks("closed", x, 168, 1, 0, 1, 0, 0, 0, 0);
        CHECK.stateDue("close twice", x::close);
        x.page(1, 1, 1, 1, 1);
        x.strip();
        CHECK.due("one strip has no lists", x.close(), 168 + 16 + 126);
    }

    private static void end() {
        PictureFile x = begun(77);
        CHECK.due("no pages", x.end(), 0);
        CHECK.looks("ended", x, 8, 0, 0, 0, 0, 0, 0, 0);
        CHECK.stateDue("end twice", x::end);
        CHECK.faultDue("no directory", x, 2, 0, 0, 0);
        x.begin(77);
        x.page(1, 1, 1, 1, 1);
        CHECK.stateDue("end in a page", x::end);
        x.strip();
        CHECK.stateDue("end in a page with its strips", x::end);
        CHECK.due("one is made still", x.look(1), 1);
        x.close();
        CHECK.due("one page", x.end(), 1);
        CHECK.looks("ended with one", x, 150, 0, 0, 1, 0, 0, 0, 0);
        x.cut(0);
        CHECK.due("pages made last", x.look(3), 1);
    }

    private static void fortyPages() {
        PictureFile x = begun(73);
        for (int i = 1; i <= 40; i++) {
            CHECK.due("page " + i, x.page(i, 1, 1, i, i), 1);
            x.strip();
            CHECK.due("close " + i, x.close(), 8 + 142 * i);
            CHECK.due("pages " + i, x.look(3), i);
        }
        CHECK.stateDue("page 41", () -> x.page(1, 1, 1, 1, 1));
        CHECK.stateDue("page 41, wrong", () -> x.page(0, 1, 1, 1, 1));
        CHECK.due("forty", x.end(), 40);
        CHECK.due("forty are read", x.read(), 40);
        for (int i = 0; i < 40; i++) {
            CHECK.due("width " + i, x.of(i, 0), i + 1);
            CHECK.due("place " + i, x.of(i, 12), 24 + 142 * i);
        }
    }

    /** Every byte of a file of two pages, against the document's words. */
    private static void aWholeFile(int order) {
        PictureFile x = begun(order);
        x.page(20000, 7, 3, 10000, 1);
        x.put(0x0A0B0C, 3);
        x.strip();
        x.strip();
        x.put(0x0D0E, 2);
        x.strip();
        CHECK.due("close", x.close(), 180);
        x.page(300, 20000, 20000, 72, 75);
        x.put(0x77, 1);
        x.strip();
        CHECK.due("close", x.close(), 324);
        x.end();
        Draft d = new Draft(order, 54);
        bytes(d, 8, 0x0A, 0x0B, 0x0C, 0, 0x0D, 0x0E);
        longs(d, 14, 8, 12, 12, 3, 0, 2, 10000, 1, 1, 1);
        d.directory(54, 198,
                Draft.one(256, 4, 20000), Draft.one(257, 4, 7), Draft.one(259, 3, 4),
                Draft.one(262, 3, 0), Draft.many(273, 4, 3, 14), Draft.one(278, 4, 3),
                Draft.many(279, 4, 3, 26), Draft.one(282, 5, 38), Draft.one(283, 5, 46),
                Draft.one(296, 3, 2));
        bytes(d, 180, 0x77, 0);
        longs(d, 182, 72, 1, 75, 1);
        d.directory(198, 0,
                Draft.one(256, 4, 300), Draft.one(257, 4, 20000), Draft.one(259, 3, 4),
                Draft.one(262, 3, 0), Draft.one(273, 4, 180), Draft.one(278, 4, 20000),
                Draft.one(279, 4, 1), Draft.one(282, 5, 182), Draft.one(283, 5, 190),
                Draft.one(296, 3, 2));
        CHECK.dueText("file of order " + order, Arrays.toString(Draft.bytesOf(x)),
                Arrays.toString(d.cells()));
        CHECK.due("two pages", x.read(), 2);
        CHECK.due("order", x.look(7), order);
    }

    private static void bytes(Draft d, int place, int... all) {
        for (int i = 0; i < all.length; i++) {
            d.at(place + i, all[i], 1);
        }
    }

    private static void longs(Draft d, int place, long... all) {
        for (int i = 0; i < all.length; i++) {
            d.at(place + 4 * i, all[i], 4);
        }
    }

    private static PictureFile filledTo(int size) {
        PictureFile x = begun(77);
        x.page(1, 3, 1, 1, 1);
        fill(x, size);
        return x;
    }

    /** More calls than an object is promised for, here and below: the limits lie behind them. */
    private static void putLimit() {
        PictureFile x = filledTo(59993);
        CHECK.due("60001 bytes", x.put(-1, 8), false);
        CHECK.due("60000 bytes", x.put(-1, 7), true);
        CHECK.due("one more", x.put(-1, 1), false);
        CHECK.looks("full", x, 60000, 1, 1, 0, 3, 59992, 0, 0);
        x.strip();
        CHECK.due("a new strip has no room", x.put(-1, 1), false);
        x.strip();
        x.strip();
        CHECK.due("close", x.close(), 60000 + 24 + 142);
        x.page(1, 1, 1, 1, 1);
        CHECK.due("a new page has no room", x.put(-1, 1), false);
        CHECK.due("but an empty strip", x.strip(), 0);
        CHECK.due("close again", x.close(), 60166 + 142);
    }

    private static void putLimitBehindAByteZero() {
        PictureFile x = filledTo(59991);
        x.strip();
        CHECK.due("a byte 0 and nine", x.put(-1, 8), true);
        x = filledTo(59993);
        x.strip();
        CHECK.due("a byte 0 and seven", x.put(-1, 7), false);
        CHECK.due("no byte 0 came", x.look(0), 59993);
        CHECK.due("a byte 0 and six", x.put(-1, 6), true);
        CHECK.due("60000", x.look(0), 60000);
        x = filledTo(59999);
        x.strip();
        CHECK.due("only the byte 0 has room", x.put(-1, 1), false);
        CHECK.due("an empty strip", x.strip(), 1);
        CHECK.due("has it", x.look(0), 60000);
        x = filledTo(59999);
        CHECK.due("one more in the same strip", x.put(-1, 1), true);
    }

    private static void closeLimit() {
        PictureFile fits = filledBehindAPage(59996);
        CHECK.due("a page up to the last byte", fits.close(), 65536);
        CHECK.due("two pages", fits.end(), 2);
        CHECK.due("two are read", fits.read(), 2);
        CHECK.due("strips", fits.of(1, 6), 145);
        CHECK.due("give has no room", fits.give(1, 1), false);
        PictureFile full = filledBehindAPage(59998);
        CHECK.stateDue("a page above it", full::close);
        CHECK.looks("nothing changed", full, 59998 + 4238, 1, 1, 1, 0, 0, 0, 0);
        CHECK.stateDue("the page can not end", full::end);
        full.begin(73);
        CHECK.looks("but another can begin", full, 8, 1, 0, 0, 0, 0, 0, 0);
    }

    /** Pages of one strip, which have no lists, up to the last byte. */
    private static void closeLimitWithoutLists() {
        PictureFile x = filledPage(65536 - 10 * 142 - 4238);
        for (int i = 9; i >= 0; i--) {
            x.page(1, 1, 1, 1, 1);
            x.strip();
            CHECK.due("a page of no bytes", x.close(), 65536 - i * 142);
        }
        x.page(1, 1, 1, 1, 1);
        x.strip();
        CHECK.stateDue("one page too many", x::close);
        CHECK.looks("nothing changed", x, 65536, 1, 1, 11, 0, 0, 0, 0);
    }

    /** A page of 512 strips, its first one up to a size. */
    private static PictureFile filledPage(int size) {
        PictureFile x = begun(77);
        x.page(1, 512, 1, 1, 1);
        fill(x, size);
        strips(x, 512);
        CHECK.due("the first page", x.close(), size + 512 * 8 + 142);
        return x;
    }

    /** Behind such a page one of 145 strips that is not closed yet. */
    private static PictureFile filledBehindAPage(int size) {
        PictureFile x = filledPage(size);
        x.page(1, 145, 1, 1, 1);
        strips(x, 145);
        return x;
    }

    private static void strips(PictureFile x, int n) {
        for (int i = 0; i < n; i++) {
            x.strip();
        }
    }

    private static void fill(PictureFile x, int size) {
        while (x.look(0) < size) {
            x.put(-1, Math.min(8, size - x.look(0)));
        }
    }
}
