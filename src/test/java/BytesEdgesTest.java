/** Promises 1 to 5: each sentence that names a boundary case has a test of its own here. */
public final class BytesEdgesTest {
    private static final Check CHECK = new Check();
    private static final int LEAST = Integer.MIN_VALUE;
    private static final int MOST = Integer.MAX_VALUE;
    private static final long PART = 0x8182838485868788L;
    private static final int[] ORDERS = {73, 77};

    public static void main(String[] args) {
        aNewObject();
        give();
        poke();
        cut();
        bytes();
        CHECK.end("BytesEdgesTest");
    }

    // ---- promise 1

    private static void aNewObject() {
        CHECK.sentence("promise 1: An empty file", () -> {
            PictureFile x = new PictureFile();
            CHECK.due("its bytes", x.look(0), 0);
            CHECK.due("bytes(0)", x.bytes(0), 0);
            CHECK.refused("poke(0, 1)", x, () -> x.poke(0, 1));
            CHECK.refused("cut(1)", x, () -> x.cut(1));
            CHECK.due("cut(0)", x.cut(0), true);
            CHECK.faultDue("fewer than 8 bytes", x, 1, 0, 0, 0);
        });
        CHECK.sentence("promise 1: nothing is being made", () -> {
            PictureFile x = new PictureFile();
            CHECK.looks("a new object", x, 0, 0, 0, 0, 0, 0);
            CHECK.stateRefused("page", x, () -> x.page(1, 1, 1, 1, 1));
            CHECK.refused("put", x, () -> x.put(1, 1));
            CHECK.stateRefused("strip", x, x::strip);
            CHECK.stateRefused("close", x, x::close);
            CHECK.stateRefused("end", x, x::end);
            CHECK.due("give", x.give(1, 1), true);
        });
        CHECK.sentence("promise 1: nothing was read", () -> {
            PictureFile x = new PictureFile();
            CHECK.due("pages", x.look(6), 0);
            CHECK.due("order", x.look(7), 0);
            for (int w = 0; w < 3; w++) {
                CHECK.due("fault(" + w + ")", x.fault(w), PictureFile.NONE);
            }
            CHECK.indexRefused("of", x, () -> x.of(0, 0));
            CHECK.indexRefused("where", x, () -> x.where(0, 0, 0));
            CHECK.indexRefused("dots", x, () -> x.dots(0, 0, 0));
        });
    }

    // ---- promise 2

    private static void give() {
        CHECK.sentence("promise 2: The n lowest bytes of part, the highest first", () -> {
            for (int n = 1; n <= 8; n++) {
                PictureFile x = new PictureFile();
                CHECK.due("give " + n, x.give(PART, n), true);
                CHECK.due("so many", x.look(0), n);
                CHECK.due("the lowest " + n, x.bytes(0), PART << (64 - 8 * n));
            }
        });
        CHECK.sentence("promise 2: come behind the file", () -> {
            PictureFile x = new PictureFile();
            x.give(0x01, 1);
            x.give(PART, 8);
            x.give(0x02, 1);
            CHECK.due("bytes(0)", x.bytes(0), 0x0181828384858687L);
            CHECK.due("bytes(1)", x.bytes(1), 0x8802000000000000L);
            CHECK.due("ten", x.look(0), 10);
        });
        CHECK.sentence("promise 2: false if n is not 1 .. 8", () -> {
            PictureFile x = new PictureFile();
            x.give(5, 3);
            for (int n : new int[] {0, 9, -1, -8, 16, 257, 264, LEAST, LEAST + 1, MOST}) {
                CHECK.refused("n = " + n, x, () -> x.give(-1, n));
            }
            CHECK.due("n = 1", x.give(-1, 1), true);
            CHECK.due("n = 8", x.give(-1, 8), true);
        });
        CHECK.sentence("promise 2: there would be more than 65536", BytesEdgesTest::giveUpToTheLastByte);
        CHECK.sentence("promise 2: false if .. a file is being made", () -> {
            for (int order : ORDERS) {
                for (Step s : Step.values()) {
                    PictureFile x = s.reach(order);
                    if (s.making()) {
                        CHECK.refused(s + ": give", x, () -> x.give(1, 1));
                    } else {
                        CHECK.due(s + ": give", x.give(1, 1), true);
                    }
                }
            }
        });
    }

    private static void giveUpToTheLastByte() {
        for (int n = 1; n <= 8; n++) {
            int parts = n;
            PictureFile fits = filled(65536 - n);
            CHECK.due("the last " + n, fits.give(PART, n), true);
            CHECK.due("full", fits.look(0), 65536);
            CHECK.due("the last bytes", fits.bytes(8191) << (64 - 8 * n), PART << (64 - 8 * n));
            CHECK.due("one more", fits.give(1, 1), false);
            CHECK.due("eight more", fits.give(1, 8), false);
            PictureFile full = filled(65537 - n);
            CHECK.refused("one of " + n + " too many", full, () -> full.give(PART, parts));
        }
    }

    /** More calls than an object is promised for: the document's limit lies behind them. */
    private static PictureFile filled(int size) {
        PictureFile x = new PictureFile();
        for (int k = 0; k < size; k += 8) {
            x.give(-1, Math.min(8, size - k));
        }
        return x;
    }

    // ---- promise 3

    private static void poke() {
        CHECK.sentence("promise 3: Byte k of the file becomes v & 255", () -> {
            int[] values = {0, 1, 127, 128, 255, 256, 511, -1, -128, -256, LEAST, MOST};
            for (int v : values) {
                PictureFile x = filled(16);
                CHECK.due("the first one", x.poke(0, v), true);
                CHECK.due("the last one", x.poke(15, v), true);
                long b = v & 255;
                CHECK.due("first " + v, x.bytes(0), b << 56 | 0x00FFFFFFFFFFFFFFL);
                CHECK.due("last " + v, x.bytes(1), 0xFFFFFFFFFFFFFF00L | b);
                CHECK.due("as many as before", x.look(0), 16);
            }
        });
        CHECK.sentence("promise 3: false if there is none such", () -> {
            PictureFile x = filled(16);
            for (int k : new int[] {-1, 16, 17, 65535, 65536, LEAST, MOST, LEAST + 3}) {
                CHECK.refused("byte " + k + " of 16", x, () -> x.poke(k, 1));
            }
            x.cut(7);
            CHECK.refused("a byte that was cut", x, () -> x.poke(7, 1));
            CHECK.due("the last one that stayed", x.poke(6, 1), true);
            PictureFile full = filled(65536);
            CHECK.refused("behind a full file", full, () -> full.poke(65536, 1));
            CHECK.due("the last byte of all", full.poke(65535, 0), true);
            CHECK.due("poked", full.bytes(8191), -256);
        });
        CHECK.sentence("promise 3: false if .. a file is being made", () -> {
            for (Step s : Step.values()) {
                PictureFile x = s.reach(77);
                if (s.making()) {
                    CHECK.refused(s + ": poke", x, () -> x.poke(0, 1));
                    CHECK.refused(s + ": the last", x, () -> x.poke(x.look(0) - 1, 1));
                } else {
                    CHECK.due(s + ": poke", x.poke(0, 1), x.look(0) > 0);
                }
            }
        });
    }

    // ---- promise 4

    private static void cut() {
        CHECK.sentence("promise 4: The file's first n bytes stay", () -> {
            for (int n = 0; n <= 8; n++) {
                PictureFile x = new PictureFile();
                x.give(PART, 8);
                CHECK.due("cut(" + n + ")", x.cut(n), true);
                CHECK.due("so many", x.look(0), n);
                int gone = 64 - 8 * n;
                long first = n == 0 ? 0 : PART >> gone << gone;
                CHECK.due("the first ones", x.bytes(0), first);
                x.give(0, 1);
                CHECK.due("what was cut stays away", x.bytes(0), first);
            }
        });
        CHECK.sentence("promise 4: false if it has not so many", () -> {
            PictureFile x = new PictureFile();
            CHECK.refused("one of none", x, () -> x.cut(1));
            x.give(PART, 8);
            for (int n : new int[] {9, 10, 65536, 65537, MOST}) {
                CHECK.refused(n + " of 8", x, () -> x.cut(n));
            }
            x.cut(3);
            CHECK.refused("as many as there were", x, () -> x.cut(8));
            CHECK.due("as many as there are", x.cut(3), true);
            PictureFile full = filled(65536);
            CHECK.refused("65537", full, () -> full.cut(65537));
            CHECK.due("65536", full.cut(65536), true);
        });
        CHECK.sentence("promise 4: n is below 0", () -> {
            PictureFile x = new PictureFile();
            CHECK.refused("-1 of none", x, () -> x.cut(-1));
            x.give(PART, 8);
            for (int n : new int[] {-1, -8, LEAST, LEAST + 1}) {
                CHECK.refused("cut(" + n + ")", x, () -> x.cut(n));
            }
            CHECK.due("cut(0)", x.cut(0), true);
            CHECK.due("none stays", x.look(0), 0);
        });
        CHECK.sentence("promise 4: false if .. a file is being made", () -> {
            for (Step s : Step.values()) {
                PictureFile x = s.reach(73);
                if (s.making()) {
                    CHECK.refused(s + ": none", x, () -> x.cut(0));
                    CHECK.refused(s + ": all", x, () -> x.cut(x.look(0)));
                } else {
                    CHECK.due(s + ": all", x.cut(x.look(0)), true);
                    CHECK.due(s + ": none", x.cut(0), true);
                }
            }
        });
    }

    // ---- promise 5

    private static void bytes() {
        CHECK.sentence("promise 5: Eight bytes 8 * k .. 8 * k + 7 of the file, the first one highest",
                () -> {
            PictureFile x = new PictureFile();
            for (int i = 0; i < 24; i++) {
                x.give(i + 1, 1);
            }
            CHECK.due("bytes(0)", x.bytes(0), 0x0102030405060708L);
            CHECK.due("bytes(1)", x.bytes(1), 0x090A0B0C0D0E0F10L);
            CHECK.due("bytes(2)", x.bytes(2), 0x1112131415161718L);
            PictureFile full = filled(65536);
            CHECK.due("the last eight of all", full.bytes(8191), -1);
        });
        CHECK.sentence("promise 5: 0 where there are none", () -> {
            for (int n = 0; n < 8; n++) {
                PictureFile x = filled(8 + n);
                CHECK.due(n + " of eight", x.bytes(1), n == 0 ? 0 : -1L << (64 - 8 * n));
                CHECK.due("behind them", x.bytes(2), 0);
            }
            PictureFile full = filled(65536);
            // Eight times these wrap around to places that the file has, if taken as int.
            int[] wraps = {1 << 29, 1 << 30, 3 << 29, LEAST, LEAST + 1, (1 << 29) + 8191};
            for (int k : wraps) {
                CHECK.due("bytes(" + k + ")", full.bytes(k), 0);
            }
            for (int k : new int[] {-1, -2, -8191, 8192, 8193, 1 << 28, MOST, MOST - 1}) {
                CHECK.due("bytes(" + k + ")", full.bytes(k), 0);
            }
        });
    }
}
