/** Promises 1 to 5: a new object, give, poke, cut, bytes. */
public final class BytesTest {
    private static final Check CHECK = new Check();

    public static void main(String[] args) {
        aNewObject();
        giveTakesTheLowestBytes();
        giveRefuses();
        giveFillsTheFile();
        poke();
        cut();
        bytesOutside();
        cutBytesDoNotComeBack();
        CHECK.end("BytesTest");
    }

    private static void aNewObject() {
        PictureFile x = new PictureFile();
        CHECK.looks("a new object", x, 0, 0, 0, 0, 0, 0, 0, 0);
        CHECK.due("bytes(0)", x.bytes(0), 0);
        for (int w = -1; w <= 3; w++) {
            CHECK.due("fault(" + w + ") before a read", x.fault(w), PictureFile.NONE);
        }
        CHECK.indexDue("of", () -> x.of(0, 0));
        CHECK.indexDue("where", () -> x.where(0, 0, 0));
        CHECK.indexDue("dots", () -> x.dots(0, 0, 0));
        CHECK.stateDue("page", () -> x.page(1, 1, 1, 1, 1));
        CHECK.stateDue("page ahead of its wrong arguments", () -> x.page(0, 0, 0, 0, 0));
        CHECK.stateDue("strip", x::strip);
        CHECK.stateDue("close", x::close);
        CHECK.stateDue("end", x::end);
        CHECK.due("put", x.put(1, 1), false);
        CHECK.due("NONE", PictureFile.NONE, -1);
    }

    private static void giveTakesTheLowestBytes() {
        long part = 0x8182838485868788L;
        for (int n = 1; n <= 8; n++) {
            PictureFile x = new PictureFile();
            CHECK.due("give " + n, x.give(part, n), true);
            CHECK.due("bytes after " + n, x.look(0), n);
            CHECK.due("what " + n + " gave", x.bytes(0), part << (64 - 8 * n));
        }
        PictureFile x = new PictureFile();
        x.give(0x0102, 2);
        x.give(0x030405060708090AL, 8);
        CHECK.due("behind the file", x.bytes(0), 0x0102030405060708L);
        CHECK.due("behind the first eight", x.bytes(1), 0x090AL << 48);
    }

    private static void giveRefuses() {
        PictureFile x = new PictureFile();
        for (int n : new int[] {0, -1, 9, 64, Integer.MIN_VALUE, Integer.MAX_VALUE}) {
            CHECK.due("give n " + n, x.give(-1, n), false);
        }
        CHECK.due("nothing came", x.look(0), 0);
        x.begin(77);
        CHECK.due("give while one is made", x.give(1, 1), false);
        CHECK.due("nothing came to it", x.look(0), 8);
        x.end();
        CHECK.due("give when it is made", x.give(1, 1), true);
        CHECK.due("it came", x.look(0), 9);
    }

    /** More calls than an object is promised for: the document's limit lies behind them. */
    private static void giveFillsTheFile() {
        PictureFile x = new PictureFile();
        for (int i = 0; i < 8191; i++) {
            x.give(i * 0x9E3779B97F4A7C15L, 8);
        }
        CHECK.due("seven more", x.give(-1, 7), true);
        CHECK.due("two too many", x.give(-1, 2), false);
        CHECK.due("65535", x.look(0), 65535);
        CHECK.due("the last one", x.give(0xAB, 1), true);
        CHECK.due("65536", x.look(0), 65536);
        CHECK.due("one too many", x.give(-1, 1), false);
        CHECK.due("65536 still", x.look(0), 65536);
        CHECK.due("the last eight", x.bytes(8191), 0xFFFFFFFFFFFFFFABL);
        CHECK.due("behind them", x.bytes(8192), 0);
        for (int i = 0; i < 8191; i++) {
            CHECK.due("bytes(" + i + ")", x.bytes(i), i * 0x9E3779B97F4A7C15L);
        }
        CHECK.due("poke the last", x.poke(65535, 1), true);
        CHECK.due("poke behind it", x.poke(65536, 1), false);
    }

    private static void poke() {
        PictureFile x = new PictureFile();
        CHECK.due("poke nothing", x.poke(0, 1), false);
        x.give(0x0102030405060708L, 8);
        CHECK.due("poke 0", x.poke(0, 0xFFF1), true);
        CHECK.due("poke 7", x.poke(7, -2), true);
        CHECK.due("poke 8", x.poke(8, 1), false);
        CHECK.due("poke -1", x.poke(-1, 1), false);
        CHECK.due("poke the least", x.poke(Integer.MIN_VALUE, 1), false);
        CHECK.due("poke the greatest", x.poke(Integer.MAX_VALUE, 1), false);
        CHECK.due("poked", x.bytes(0), 0xF1020304050607FEL);
        x.begin(77);
        CHECK.due("poke while one is made", x.poke(0, 1), false);
        CHECK.due("the beginning", x.bytes(0), 0x4D4D002A00000000L);
    }

    private static void cut() {
        PictureFile x = new PictureFile();
        CHECK.due("cut an empty one", x.cut(0), true);
        CHECK.due("cut more than there is", x.cut(1), false);
        x.give(0x0102030405060708L, 8);
        CHECK.due("cut -1", x.cut(-1), false);
        CHECK.due("cut the least", x.cut(Integer.MIN_VALUE), false);
        CHECK.due("cut 9", x.cut(9), false);
        CHECK.due("cut 8", x.cut(8), true);
        CHECK.due("all are there", x.look(0), 8);
        CHECK.due("cut 3", x.cut(3), true);
        CHECK.due("three", x.look(0), 3);
        CHECK.due("the first three", x.bytes(0), 0x0102030000000000L);
        CHECK.due("cut what was", x.cut(8), false);
        x.begin(77);
        CHECK.due("cut while one is made", x.cut(0), false);
        CHECK.due("eight", x.look(0), 8);
    }

    private static void bytesOutside() {
        PictureFile x = new PictureFile();
        x.give(-1, 8);
        x.give(-1, 3);
        CHECK.due("whole", x.bytes(0), -1L);
        CHECK.due("part", x.bytes(1), 0xFFFFFF0000000000L);
        int[] outside = {2, -1, -2, 1 << 29, 1 << 28, Integer.MAX_VALUE, Integer.MIN_VALUE};
        for (int k : outside) {
            CHECK.due("bytes(" + k + ")", x.bytes(k), 0);
        }
    }

    private static void cutBytesDoNotComeBack() {
        PictureFile x = new PictureFile();
        x.give(-1, 8);
        x.cut(2);
        x.give(0, 1);
        CHECK.due("behind a cut", x.bytes(0), 0xFFFF000000000000L);
        CHECK.due("poke what was cut", x.poke(3, 1), false);
    }
}
