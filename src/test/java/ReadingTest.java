/** Promises 12 and 14 to 17: read, of, where, dots, look. */
public final class ReadingTest {
    private static final Check CHECK = new Check();

    public static void main(String[] args) {
        for (int order : new int[] {73, 77}) {
            whatIsNotThere(order);
            allThatIsThere(order);
            numbersInTheEntry(order);
            greatNumbers(order);
        }
        readWhileMaking();
        whatWasReadStays();
        aFaultForgets();
        outside();
        dots();
        aRing();
        look();
        CHECK.end("ReadingTest");
    }

    private static void pageDue(String what, PictureFile x, int page, long... want) {
        for (int w = 0; w < want.length; w++) {
            CHECK.due(what + ": of(" + page + ", " + w + ")", x.of(page, w), want[w]);
        }
    }

    private static void stripDue(String what, PictureFile x, int i, int place, int length) {
        CHECK.due(what + ": place of strip " + i, x.where(0, i, 0), place);
        CHECK.due(what + ": length of strip " + i, x.where(0, i, 1), length);
    }

    private static void whatIsNotThere(int order) {
        PictureFile x = new Draft(order, 10).directory(10, 0, Draft.plain(8, 2)).load();
        CHECK.due("one page", x.read(), 1);
        pageDue("what is not there", x, 0, 9, 4, 1, 0, 1, 4, 1, 2, 300, 1, 300, 1, 10);
        stripDue("what is not there", x, 0, 8, 2);
        CHECK.due("order", x.look(7), order);
        CHECK.due("pages", x.look(6), 1);
    }

    private static void allThatIsThere(int order) {
        Draft d = new Draft(order, 60);
        d.at(8, 4294967295L, 4).at(12, 4294967294L, 4).at(16, 0, 4).at(20, 1, 4);
        d.at(24, 8, 4).at(28, 9, 4).at(32, 60, 4).at(40, 7, 2).at(42, 0, 2).at(44, 3, 2);
        d.directory(60, 0,
                Draft.one(0, 9, 77), Draft.one(255, 0, 77),
                Draft.one(256, 3, 20000), Draft.one(257, 3, 11), Draft.one(258, 99, 1),
                Draft.one(259, 3, 1), Draft.one(262, 3, 1), Draft.one(266, 3, 2),
                Draft.many(273, 4, 3, 24), Draft.one(278, 3, 5), Draft.many(279, 3, 3, 40),
                Draft.one(282, 5, 8), Draft.one(283, 5, 16), Draft.many(284, 2, 0, 1),
                Draft.one(296, 3, 1), Draft.many(65535, 4, 4294967295L, 4294967295L));
        PictureFile x = d.load();
        CHECK.due("one page", x.read(), 1);
        pageDue("all", x, 0, 20000, 11, 1, 1, 2, 5, 3, 1, 4294967295L, 4294967294L, 0, 1, 60);
        stripDue("all", x, 0, 8, 7);
        stripDue("all", x, 1, 9, 0);
        stripDue("all", x, 2, 60, 3);
    }

    /** Two SHORTs, and one of either type, stand in the entry itself. */
    private static void numbersInTheEntry(int order) {
        Draft d = new Draft(order, 20);
        long two = order == 77 ? 8L << 16 | 10 : 10L << 16 | 8;
        d.directory(20, 0, Draft.one(256, 3, 8), Draft.one(257, 4, 2),
                Draft.many(273, 3, 2, two), Draft.one(278, 4, 1), Draft.many(279, 3, 2, two));
        PictureFile x = d.load();
        CHECK.due("one page", x.read(), 1);
        pageDue("in the entry", x, 0, 8, 2, 1, 0, 1, 1, 2);
        stripDue("in the entry", x, 0, 8, 8);
        stripDue("in the entry", x, 1, 10, 10);
    }

    private static void greatNumbers(int order) {
        long[][] e = Draft.with(Draft.plain(8, 0), Draft.one(278, 4, 4294967295L));
        PictureFile x = new Draft(order, 8).directory(8, 0, e).load();
        CHECK.due("ROWS above HEIGHT", x.read(), 1);
        CHECK.due("are HEIGHT", x.of(0, 5), 4);
        CHECK.due("one strip", x.of(0, 6), 1);
        e = Draft.with(e, Draft.one(257, 4, 20000));
        e = Draft.with(e, Draft.one(256, 4, 20000));
        x = new Draft(order, 8).directory(8, 0, e).load();
        CHECK.due("greatest sides", x.read(), 1);
        CHECK.due("ROWS", x.of(0, 5), 20000);
    }

    private static void readWhileMaking() {
        PictureFile x = new Draft(77, 8).directory(8, 0, Draft.plain(8, 0)).load();
        x.read();
        x.begin(77);
        CHECK.stateDue("read while one is made", x::read);
        CHECK.due("pages stay", x.look(6), 1);
        x.page(1, 1, 1, 1, 1);
        CHECK.stateDue("read while a page is made", x::read);
        CHECK.due("order stays", x.look(7), 77);
        x.cut(0);
        CHECK.due("no fault", x.fault(0), PictureFile.NONE);
    }

    private static void whatWasReadStays() {
        PictureFile x = new Draft(73, 16).at(8, 0x5A, 1).directory(16, 0, Draft.plain(8, 4)).load();
        x.read();
        int size = x.look(0);
        x.poke(0, 1);
        x.poke(8, 0x1C3);
        CHECK.due("bytes as they are now", x.dots(0, 0, 0), 0xC3);
        x.cut(10);
        CHECK.due("a byte that stayed", x.dots(0, 0, 1), 0);
        CHECK.indexDue("a byte that was cut", () -> x.dots(0, 0, 2));
        CHECK.due("its length stays", x.where(0, 0, 1), 4);
        pageDue("as read", x, 0, 9, 4, 1, 0, 1, 4, 1, 2, 300, 1, 300, 1, 16);
        x.cut(0);
        CHECK.due("pages stay", x.look(6), 1);
        CHECK.due("order stays", x.look(7), 73);
        CHECK.indexDue("no bytes", () -> x.dots(0, 0, 0));
        x.give(0x0102030405060708L, 8);
        x.give(0xF1F2F3F4L, 4);
        CHECK.due("bytes that came", x.dots(0, 0, 3), 0xF4);
        CHECK.due("the file was longer", size > 12, true);
    }

    private static void aFaultForgets() {
        PictureFile x = new Draft(77, 8).directory(8, 0, Draft.plain(8, 4)).load();
        x.read();
        x.poke(0, 1);
        CHECK.faultDue("fault 1", x, 1, 0, 0, 0);
        CHECK.indexDue("where", () -> x.where(0, 0, 0));
        CHECK.indexDue("dots", () -> x.dots(0, 0, 0));
        x.poke(0, 77);
        CHECK.due("read again", x.read(), 1);
        CHECK.due("no fault", x.fault(0), PictureFile.NONE);
        CHECK.due("order", x.look(7), 77);
    }

    private static void outside() {
        Draft d = new Draft(77, 8).directory(8, 70, Draft.plain(8, 3));
        d.at(200, 8, 4).at(204, 9, 4).at(208, 0, 4).at(212, 1, 4);
        d.directory(70, 0, Draft.one(256, 4, 1), Draft.one(257, 4, 2),
                Draft.many(273, 4, 2, 200), Draft.one(278, 4, 1), Draft.many(279, 4, 2, 208));
        PictureFile x = d.load();
        CHECK.due("two pages", x.read(), 2);
        CHECK.due("the last one's last strip", x.where(1, 1, 0), 9);
        CHECK.due("its length", x.where(1, 1, 1), 1);
        for (int bad : new int[] {-1, 2, 40, Integer.MIN_VALUE, Integer.MAX_VALUE, 330382100}) {
            CHECK.indexDue("of page " + bad, () -> x.of(bad, 0));
            CHECK.indexDue("where page " + bad, () -> x.where(bad, 0, 0));
            CHECK.indexDue("dots page " + bad, () -> x.dots(bad, 0, 0));
            CHECK.indexDue("where w " + bad, () -> x.where(0, 0, bad));
            CHECK.indexDue("where strip " + bad, () -> x.where(1, bad, 0));
            CHECK.indexDue("dots strip " + bad, () -> x.dots(1, bad, 0));
        }
        CHECK.indexDue("where strip 1 of 1", () -> x.where(0, 1, 0));
        CHECK.indexDue("dots strip 1 of 1", () -> x.dots(0, 1, 0));
        for (int bad : new int[] {-1, 13, Integer.MIN_VALUE, Integer.MAX_VALUE}) {
            CHECK.indexDue("of w " + bad, () -> x.of(0, bad));
            CHECK.indexDue("of w " + bad, () -> x.of(1, bad));
        }
        for (int bad : new int[] {-1, 3, Integer.MIN_VALUE, Integer.MAX_VALUE}) {
            CHECK.indexDue("dots k " + bad, () -> x.dots(0, 0, bad));
        }
    }

    private static void dots() {
        PictureFile x = new PictureFile();
        x.begin(73);
        x.page(8, 2, 1, 1, 1);
        x.put(0x80FF7F00L, 4);
        x.strip();
        x.put(0x11, 1);
        x.strip();
        x.close();
        x.end();
        CHECK.due("nothing is read yet", x.look(6), 0);
        CHECK.indexDue("dots before read", () -> x.dots(0, 0, 0));
        x.read();
        int[] want = {0x80, 0xFF, 0x7F, 0};
        for (int k = 0; k < 4; k++) {
            CHECK.due("dots " + k, x.dots(0, 0, k), want[k]);
        }
        CHECK.indexDue("behind the strip", () -> x.dots(0, 0, 4));
        CHECK.due("the second strip", x.dots(0, 1, 0), 0x11);
        CHECK.indexDue("behind the second", () -> x.dots(0, 1, 1));
    }

    /** A directory that says itself as its next one. */
    private static void aRing() {
        PictureFile x = new Draft(77, 8).directory(8, 8, Draft.plain(8, 0)).load();
        CHECK.faultDue("a ring", x, 2, 40, 0, 0);
    }

    private static void look() {
        PictureFile x = new PictureFile();
        for (int which : new int[] {-1, 8, 9, Integer.MIN_VALUE, Integer.MAX_VALUE}) {
            CHECK.due("look(" + which + ")", x.look(which), PictureFile.NONE);
        }
        x.begin(73);
        x.page(1, 1, 1, 1, 1);
        x.put(1, 3);
        x.strip();
        x.close();
        x.page(1, 5, 1, 1, 1);
        x.strip();
        x.put(1, 3);
        CHECK.looks("in a page", x, 157, 1, 1, 1, 4, 3, 0, 0);
        for (int i = 0; i < 4; i++) {
            x.strip();
        }
        x.close();
        x.end();
        x.read();
        CHECK.looks("read", x, 158 + 40 + 142, 0, 0, 2, 0, 0, 2, 73);
    }
}
