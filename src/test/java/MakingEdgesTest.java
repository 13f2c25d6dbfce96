import java.util.Arrays;

/** Promises 6 to 11: each sentence that names a boundary case has a test of its own here. */
public final class MakingEdgesTest {
    private static final Check CHECK = new Check();
    private static final int LEAST = Integer.MIN_VALUE;
    private static final int MOST = Integer.MAX_VALUE;
    private static final int[] ORDERS = {73, 77};

    public static void main(String[] args) {
        begin();
        page();
        pageArguments();
        put();
        putLimits();
        strip();
        close();
        end();
        terms();
        CHECK.end("MakingEdgesTest");
    }

    private static PictureFile begun() {
        return Step.BEGUN.reach(77);
    }

    private static PictureFile onPage(int strips) {
        PictureFile x = begun();
        x.page(1, strips, 1, 1, 1);
        return x;
    }

    private static void strips(PictureFile x, int n) {
        for (int i = 0; i < n; i++) {
            x.strip();
        }
    }

    private static void emptyPages(PictureFile x, int n) {
        for (int i = 0; i < n; i++) {
            x.page(1, 1, 1, 1, 1);
            x.strip();
            x.close();
        }
    }

    // ---- promise 6

    private static void begin() {
        CHECK.sentence("promise 6: A new file is being made", () -> {
            for (Step s : Step.values()) {
                PictureFile x = s.reach(73);
                x.begin(73);
                CHECK.due(s + ": order 73", x.bytes(0), 0x49492A0000000000L);
                x.begin(77);
                CHECK.due(s + ": order 77", x.bytes(0), 0x4D4D002A00000000L);
                CHECK.looks(s + ": begun", x, 8, 1, 0, 0, 0, 0, 0, 0);
            }
        });
        CHECK.sentence("promise 6: in place of all there is", MakingEdgesTest::beginInPlaceOfAll);
        CHECK.sentence("promise 6: IllegalArgumentException if order is not 73 or 77", () -> {
            int[] wrong = {0, 72, 74, 75, 76, 78, -73, -77, 73 + 256, 77 + 65536, LEAST, MOST};
            for (Step s : Step.values()) {
                PictureFile x = s.reach(77);
                for (int order : wrong) {
                    CHECK.argumentRefused(s + ": begin(" + order + ")", x, () -> x.begin(order));
                }
            }
        });
    }

    private static void beginInPlaceOfAll() {
        String alone = Shot.of(Step.MADE.reach(73));
        for (Step s : Step.values()) {
            PictureFile x = s.reach(77);
            for (Step t : Step.values()) {
                t.take(x, 73);
            }
            CHECK.dueText(s + ": another file behind it", Shot.of(x), alone);
        }
        PictureFile full = new PictureFile();
        for (int i = 0; i < 8192; i++) {
            full.give(-1, 8);
        }
        full.begin(73);
        CHECK.due("a full file gives way", full.look(0), 8);
        CHECK.due("nothing of it is left", full.bytes(1), 0);
        PictureFile forty = begun();
        emptyPages(forty, 40);
        forty.begin(77);
        CHECK.due("forty pages give way", forty.page(1, 1, 1, 1, 1), 1);
    }

    // ---- promise 7

    private static void page() {
        CHECK.sentence("promise 7: A page is begun: how many strips it is to have", () -> {
            int[][] pages = {
                {1, 1, 1}, {2, 2, 1}, {2, 1, 2}, {3, 2, 2}, {4, 2, 2}, {5, 2, 3}, {512, 1, 512},
                {513, 2, 257}, {20000, 20000, 1}, {20000, 19999, 2}, {20000, 10000, 2},
                {20000, 9999, 3}, {20000, 40, 500},
            };
            for (int[] p : pages) {
                PictureFile x = begun();
                CHECK.due("strips " + Arrays.toString(p), x.page(1, p[0], p[1], 1, 1), p[2]);
                CHECK.looks("page " + Arrays.toString(p), x, 8, 1, 1, 0, p[2], 0);
            }
        });
        CHECK.sentence("promise 7: IllegalStateException if no file is being made, a page is", () -> {
            for (Step s : Step.values()) {
                PictureFile x = s.reach(73);
                if (!s.making() || s.onPage()) {
                    CHECK.stateRefused(s + ": page", x, () -> x.page(1, 1, 1, 1, 1));
                } else {
                    CHECK.due(s + ": page", x.page(1, 1, 1, 1, 1), 1);
                }
            }
            PictureFile none = begun();
            none.end();
            CHECK.stateRefused("behind a file of no pages", none, () -> none.page(1, 1, 1, 1, 1));
        });
        CHECK.sentence("promise 7: IllegalStateException if .. there are 40", () -> {
            PictureFile x = begun();
            emptyPages(x, 39);
            CHECK.due("the 40th", x.page(1, 1, 1, 1, 1), 1);
            x.strip();
            x.close();
            CHECK.stateRefused("the 41st", x, () -> x.page(1, 1, 1, 1, 1));
            CHECK.due("forty", x.end(), 40);
        });
        CHECK.sentence("promise 7: Of several exceptions that hold the first one listed is thrown", () -> {
            PictureFile forty = begun();
            emptyPages(forty, 40);
            CHECK.stateRefused("the 41st, wrong", forty, () -> forty.page(0, 0, 0, 0, 0));
            for (Step s : Step.values()) {
                PictureFile x = s.reach(77);
                if (!s.making() || s.onPage()) {
                    CHECK.stateRefused(s + ": a wrong page", x, () -> x.page(0, 1, 1, 1, 1));
                    CHECK.stateRefused(s + ": wrong", x, () -> x.page(1, 1, 1, 1, 10001));
                } else {
                    CHECK.argumentRefused(s + ": a wrong page", x, () -> x.page(0, 1, 1, 1, 1));
                }
            }
        });
    }

    private static void pageArguments() {
        CHECK.sentence("promise 7: IllegalArgumentException if width .. is not 1 .. 20000", () -> {
            for (int v : new int[] {0, -1, 20001, 65537, LEAST, MOST}) {
                pageRefused(v, 1, 1, 1, 1);
            }
            pageTaken(1, 1, 1, 1, 1);
            pageTaken(20000, 1, 1, 1, 1);
        });
        CHECK.sentence("promise 7: IllegalArgumentException if .. height is not 1 .. 20000", () -> {
            for (int v : new int[] {0, -1, 20001, 20002, 65537, LEAST, MOST}) {
                pageRefused(1, v, 1, 1, 1);
                pageRefused(1, v, 20000, 1, 1);
                pageRefused(1, v, v, 1, 1);
            }
            pageTaken(1, 1, 1, 1, 1);
            pageTaken(1, 20000, 20000, 1, 1);
        });
        CHECK.sentence("promise 7: rows not 1 .. height", () -> {
            for (int height : new int[] {1, 2, 500, 20000}) {
                for (int v : new int[] {0, -1, -height, height + 1, LEAST, MOST}) {
                    pageRefused(1, height, v, 1, 1);
                }
                pageTaken(1, height, height, 1, 1);
            }
            pageTaken(1, 500, 1, 1, 1);
        });
        CHECK.sentence("promise 7: there would be more than 512 strips", () -> {
            int[][] wrong = {{513, 1}, {1025, 2}, {20000, 1}, {20000, 39}, {1537, 3}};
            for (int[] w : wrong) {
                pageRefused(1, w[0], w[1], 1, 1);
            }
            int[][] right = {{512, 1}, {1024, 2}, {1023, 2}, {1536, 3}, {20000, 40}, {19968, 39}};
            for (int[] r : right) {
                pageTaken(1, r[0], r[1], 1, 1);
            }
        });
        CHECK.sentence("promise 7: or a fineness is not 1 .. 10000", () -> {
            for (int v : new int[] {0, -1, 10001, 65537, LEAST, MOST}) {
                pageRefused(1, 1, 1, v, 1);
                pageRefused(1, 1, 1, 1, v);
                pageRefused(1, 1, 1, v, v);
            }
            pageTaken(1, 1, 1, 1, 10000);
            pageTaken(1, 1, 1, 10000, 1);
        });
    }

    private static void pageRefused(int width, int height, int rows, int across, int down) {
        PictureFile x = begun();
        int[] all = {width, height, rows, across, down};
        CHECK.argumentRefused("page " + Arrays.toString(all), x,
                () -> x.page(width, height, rows, across, down));
    }

    private static void pageTaken(int width, int height, int rows, int across, int down) {
        PictureFile x = begun();
        int n = x.page(width, height, rows, across, down);
        CHECK.due("strips", n, (height + rows - 1) / rows);
        strips(x, n);
        x.close();
        x.end();
        CHECK.due("read", x.read(), 1);
        int[] at = {0, 1, 5, 8, 10};
        int[] want = {width, height, rows, across, down};
        for (int i = 0; i < at.length; i++) {
            CHECK.due("of(0, " + at[i] + ")", x.of(0, at[i]), want[i]);
        }
    }

    // ---- promise 8

    private static void put() {
        CHECK.sentence("promise 8: The n lowest bytes of part, the highest first", () -> {
            long part = 0xF1F2F3F4F5F6F7F8L;
            for (int order : ORDERS) {
                for (int n = 1; n <= 8; n++) {
                    PictureFile x = Step.ON_PAGE.reach(order);
                    CHECK.due("put " + n, x.put(part, n), true);
                    CHECK.due("the lowest " + n, x.bytes(1), part << (64 - 8 * n));
                    CHECK.looks("put " + n, x, 8 + n, 1, 1, 0, 3, n);
                }
            }
        });
        CHECK.sentence("promise 8: false if n is not 1 .. 8", () -> {
            for (Step s : Step.values()) {
                PictureFile x = s.reach(77);
                for (int n : new int[] {0, 9, -1, -8, 257, 264, LEAST, LEAST + 1, MOST}) {
                    CHECK.refused(s + ": n = " + n, x, () -> x.put(-1, n));
                }
            }
        });
        CHECK.sentence("promise 8: no page is being made", () -> {
            for (Step s : Step.values()) {
                PictureFile x = s.reach(73);
                if (!s.onPage()) {
                    CHECK.refused(s + ": put", x, () -> x.put(1, 1));
                } else {
                    CHECK.due(s + ": put", x.put(1, 1), s.stripsToCome() > 0);
                }
            }
        });
        CHECK.sentence("promise 8: it has all its strips", () -> {
            for (int n : new int[] {1, 2, 512}) {
                PictureFile x = onPage(n);
                strips(x, n - 1);
                CHECK.due("in the last one", x.put(1, 2), true);
                x.strip();
                CHECK.refused("behind the last one", x, () -> x.put(1, 1));
                CHECK.refused("eight behind it", x, () -> x.put(1, 8));
            }
        });
    }

    /** More calls than an object is promised for, here and below: the limits lie behind them. */
    private static PictureFile filledTo(int size) {
        PictureFile x = onPage(3);
        for (int k = 8; k < size; k += 8) {
            x.put(-1, Math.min(8, size - k));
        }
        return x;
    }

    private static void putLimits() {
        CHECK.sentence("promise 8: or the file would have more than 60000 bytes then", () -> {
            for (int n = 1; n <= 8; n++) {
                int parts = n;
                PictureFile fits = filledTo(60000 - n);
                CHECK.due(n + " up to 60000", fits.put(7, n), true);
                CHECK.looks("full", fits, 60000, 1, 1, 0, 3, 59992);
                CHECK.refused("one more", fits, () -> fits.put(7, 1));
                PictureFile full = filledTo(60001 - n);
                CHECK.refused("one of " + n + " too many", full, () -> full.put(7, parts));
            }
        });
        CHECK.sentence("promise 8: with the byte 0 ahead of the strip's first one, where its place would be"
                + " odd", () -> {
            PictureFile odd = filledTo(59991);
            odd.strip();
            CHECK.due("a byte 0 and eight", odd.put(-1, 8), true);
            CHECK.due("60000", odd.look(0), 60000);
            PictureFile full = filledTo(59993);
            full.strip();
            CHECK.refused("a byte 0 and seven", full, () -> full.put(-1, 7));
            CHECK.due("a byte 0 and six", full.put(-1, 6), true);
            PictureFile one = filledTo(59999);
            one.strip();
            CHECK.refused("a byte 0 and one", one, () -> one.put(-1, 1));
            PictureFile same = filledTo(59999);
            CHECK.due("no byte 0 within a strip", same.put(-1, 1), true);
            PictureFile even = filledTo(59992);
            even.strip();
            CHECK.due("no byte 0 at an even place", even.put(-1, 8), true);
        });
        CHECK.sentence("promise 8: an empty one has it, too", () -> {
            PictureFile x = onPage(3);
            x.put(9, 1);
            x.strip();
            x.strip();
            CHECK.due("behind an odd one", x.look(0), 10);
            x.strip();
            CHECK.due("behind an even place", x.look(0), 10);
            PictureFile full = filledTo(59999);
            full.strip();
            CHECK.due("up to 60000", full.strip(), 1);
            CHECK.due("60000", full.look(0), 60000);
        });
    }

    // ---- promise 9

    private static void strip() {
        CHECK.sentence("promise 9: The strip is at its end (it can be empty)", () -> {
            PictureFile x = onPage(3);
            x.strip();
            x.put(5, 2);
            x.strip();
            x.strip();
            x.close();
            x.end();
            x.read();
            int[][] want = {{8, 0}, {8, 2}, {10, 0}};
            for (int i = 0; i < 3; i++) {
                CHECK.due("place " + i, x.where(0, i, 0), want[i][0]);
                CHECK.due("length " + i, x.where(0, i, 1), want[i][1]);
            }
        });
        CHECK.sentence("promise 9: how many are still to come", () -> {
            for (int n : new int[] {1, 2, 16, 17, 512}) {
                PictureFile x = onPage(n);
                for (int i = n - 1; i >= 0; i--) {
                    CHECK.due("of " + n, x.strip(), i);
                    CHECK.due("to come", x.look(4), i);
                    CHECK.due("a new strip is empty", x.look(5), 0);
                }
            }
        });
        CHECK.sentence("promise 9: IllegalStateException if no page is being made", () -> {
            for (Step s : Step.values()) {
                PictureFile x = s.reach(73);
                if (!s.onPage()) {
                    CHECK.stateRefused(s + ": strip", x, x::strip);
                } else if (s.stripsToCome() > 0) {
                    CHECK.due(s + ": strip", x.strip(), s.stripsToCome() - 1);
                }
            }
        });
        CHECK.sentence("promise 9: IllegalStateException if .. it has all its strips", () -> {
            for (int n : new int[] {1, 2, 512}) {
                PictureFile x = onPage(n);
                strips(x, n);
                CHECK.stateRefused("behind the last of " + n, x, x::strip);
                CHECK.stateRefused("and again", x, x::strip);
            }
        });
    }

    // ---- promise 10

    private static void close() {
        CHECK.sentence("promise 10: The page is at its end: how many bytes the file has", () -> {
            for (int n : new int[] {1, 2, 3, 512}) {
                PictureFile x = onPage(n);
                strips(x, n);
                int lists = n == 1 ? 0 : 8 * n;
                CHECK.due("a page of " + n, x.close(), 8 + lists + 16 + 126);
                CHECK.looks("closed", x, 8 + lists + 142, 1, 0, 1, 0, 0);
            }
        });
        CHECK.sentence("promise 10: IllegalStateException if no page is being made", () -> {
            for (Step s : Step.values()) {
                PictureFile x = s.reach(77);
                if (!s.onPage()) {
                    CHECK.stateRefused(s + ": close", x, x::close);
                }
            }
        });
        CHECK.sentence("promise 10: it has not all its strips", () -> {
            for (int n : new int[] {1, 2, 512}) {
                PictureFile x = onPage(n);
                CHECK.stateRefused("none of " + n, x, x::close);
                strips(x, n - 1);
                CHECK.stateRefused("all but one of " + n, x, x::close);
                x.put(1, 8);
                CHECK.stateRefused("in the last of " + n, x, x::close);
                x.strip();
                CHECK.due("all of " + n, x.close() > 8, true);
            }
        });
        CHECK.sentence("promise 10: or the file would have more than 65536 bytes",
                MakingEdgesTest::closeUpToTheLastByte);
    }

    /** Behind others a page that is to be closed, with 65536 bytes then, and some more or less. */
    private static PictureFile readyToClose(int strips, int pagesAhead, int more) {
        int lists = strips == 1 ? 0 : 8 * strips;
        PictureFile x = filledTo(65536 - 142 - lists - 142 * pagesAhead - 142 - 24 + more);
        strips(x, 3);
        x.close();
        emptyPages(x, pagesAhead);
        x.page(1, strips, 1, 1, 1);
        strips(x, strips);
        return x;
    }

    private static void closeUpToTheLastByte() {
        int[][] pages = {{1, 37}, {2, 37}, {512, 8}};
        for (int[] p : pages) {
            CHECK.due("two less", readyToClose(p[0], p[1], -2).close(), 65534);
            CHECK.due("one less, and a byte 0", readyToClose(p[0], p[1], -1).close(), 65536);
            PictureFile last = readyToClose(p[0], p[1], 0);
            CHECK.due("up to the last byte", last.close(), 65536);
            CHECK.due("its pages", last.end(), p[1] + 2);
            CHECK.due("are read", last.read(), p[1] + 2);
            CHECK.refused("it is full", last, () -> last.give(1, 1));
            for (int more = 1; more <= 3; more++) {
                PictureFile full = readyToClose(p[0], p[1], more);
                CHECK.stateRefused("above it", full, full::close);
                CHECK.stateRefused("no end then", full, full::end);
                full.begin(73);
                CHECK.due("but another file", full.look(0), 8);
            }
        }
    }

    // ---- promise 11

    private static void end() {
        CHECK.sentence("promise 11: The file is made: how many pages", () -> {
            for (int n : new int[] {0, 1, 39, 40}) {
                PictureFile x = begun();
                emptyPages(x, n);
                CHECK.due("pages", x.end(), n);
                CHECK.looks("made", x, 8 + 142 * n, 0, 0, n, 0, 0);
            }
        });
        CHECK.sentence("promise 11: IllegalStateException if none is being made", () -> {
            for (Step s : Step.values()) {
                PictureFile x = s.reach(73);
                if (!s.making()) {
                    CHECK.stateRefused(s + ": end", x, x::end);
                }
            }
            PictureFile twice = begun();
            twice.end();
            CHECK.stateRefused("twice", twice, twice::end);
        });
        CHECK.sentence("promise 11: IllegalStateException if .. a page is", () -> {
            for (Step s : Step.values()) {
                PictureFile x = s.reach(73);
                if (s.onPage()) {
                    CHECK.stateRefused(s + ": end", x, x::end);
                } else if (s.making()) {
                    CHECK.due(s + ": end", x.end(), s.looks()[3]);
                }
            }
        });
    }

    // ---- what is said of all of them

    private static void terms() {
        CHECK.sentence("What throws, or answers false, changes nothing", () -> {
            for (int order : ORDERS) {
                PictureFile x = new PictureFile();
                for (Step s : Step.values()) {
                    s.take(x, order);
                    callsThatAreRefused(x, s);
                }
                CHECK.dueText("made among refused calls", Shot.of(x),
                        Shot.of(Step.MADE.reach(order)));
            }
        });
        CHECK.sentence("each at an even place (if it isn't, a byte 0 comes before it)", () -> {
            PictureFile x = onPage(4);
            int[] lengths = {1, 2, 3, 8};
            for (int n : lengths) {
                x.put(-1, n);
                x.strip();
            }
            CHECK.due("a byte 0 behind the first", x.bytes(1), 0xFF00FFFFFFFFFF00L);
            CHECK.due("none behind the last", x.look(0), 24);
        });
        CHECK.sentence("then, at an even place, PLACES as LONGs, if there are two strips or more",
                MakingEdgesTest::lists);
    }

    private static void lists() {
        for (int length = 1; length <= 2; length++) {
            PictureFile one = onPage(1);
            one.put(-1, length);
            one.strip();
            CHECK.due("one strip has no lists", one.close(), 10 + 142);
            CHECK.due("but FINENESS at an even place", one.bytes(1) & 0xFFFFFFFFFFFFL,
                    0x000000010000L);
            PictureFile two = onPage(2);
            two.strip();
            two.put(-1, length);
            two.strip();
            CHECK.due("two have them", two.close(), 10 + 16 + 142);
            CHECK.due("places", two.bytes(1) & 0xFFFFFFFFFFFFL, 0x000000080000L);
            CHECK.due("and lengths", two.bytes(2), 0x0008000000000000L);
            CHECK.due("and FINENESS", two.bytes(3), (long) length << 48 | 0x10000);
        }
    }

    private static void callsThatAreRefused(PictureFile x, Step s) {
        CHECK.argumentRefused(s + ": begin", x, () -> x.begin(60 + s.ordinal()));
        CHECK.refused(s + ": give", x, () -> x.give(-1, s.making() ? 8 : 9));
        CHECK.refused(s + ": poke", x, () -> x.poke(s.making() ? 4 : -1, 255));
        CHECK.refused(s + ": cut", x, () -> x.cut(s.making() ? 4 : -1));
        CHECK.refused(s + ": put", x, () -> x.put(-1, s.stripsToCome() > 0 ? 9 : 8));
        if (s.making() && !s.onPage()) {
            CHECK.argumentRefused(s + ": page", x, () -> x.page(5, 20000, 1, 6, 7));
        } else {
            CHECK.stateRefused(s + ": page", x, () -> x.page(5, 7, 1, 6, 7));
        }
        if (s.stripsToCome() == 0) {
            CHECK.stateRefused(s + ": strip", x, x::strip);
        }
        if (!s.onPage() || s.stripsToCome() > 0) {
            CHECK.stateRefused(s + ": close", x, x::close);
        }
        if (!s.making() || s.onPage()) {
            CHECK.stateRefused(s + ": end", x, x::end);
        }
        if (s.making()) {
            CHECK.stateRefused(s + ": read", x, x::read);
        }
        CHECK.indexRefused(s + ": of", x, () -> x.of(0, 0));
    }
}
