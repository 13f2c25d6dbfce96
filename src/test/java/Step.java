/** A file of two pages on its way, call by call, with what look(0) to look(5) are to answer. */
enum Step {
    NEW(0, 0, 0, 0, 0, 0),
    BEGUN(8, 1, 0, 0, 0, 0),
    ON_PAGE(8, 1, 1, 0, 3, 0),
    IN_STRIP(13, 1, 1, 0, 3, 5),
    BEHIND_STRIP(13, 1, 1, 0, 2, 0),
    BEHIND_EMPTY_STRIP(14, 1, 1, 0, 1, 0),
    IN_LAST_STRIP(17, 1, 1, 0, 1, 3),
    ALL_STRIPS(17, 1, 1, 0, 0, 0),
    PAGE_CLOSED(184, 1, 0, 1, 0, 0),
    ON_SECOND_PAGE(184, 1, 1, 1, 1, 0),
    SECOND_HAS_ALL_STRIPS(184, 1, 1, 1, 0, 0),
    SECOND_CLOSED(326, 1, 0, 2, 0, 0),
    MADE(326, 0, 0, 2, 0, 0);

    private final int[] looks;

    Step(int... looks) {
        this.looks = looks;
    }

    int[] looks() {
        return looks.clone();
    }

    boolean making() {
        return looks[1] == 1;
    }

    boolean onPage() {
        return looks[2] == 1;
    }

    int stripsToCome() {
        return looks[4];
    }

    /** A new object that has come to this step. */
    PictureFile reach(int order) {
        PictureFile x = new PictureFile();
        for (Step s : values()) {
            if (s.ordinal() <= ordinal()) {
                s.take(x, order);
            }
        }
        return x;
    }

    /** The one call that leads here from the step before. */
    void take(PictureFile x, int order) {
        switch (this) {
            case BEGUN -> x.begin(order);
            case ON_PAGE -> x.page(9, 3, 1, 72, 75);
            case IN_STRIP -> x.put(0x0102030405L, 5);
            case IN_LAST_STRIP -> x.put(0xA1A2A3L, 3);
            case BEHIND_STRIP, BEHIND_EMPTY_STRIP, ALL_STRIPS, SECOND_HAS_ALL_STRIPS -> x.strip();
            case ON_SECOND_PAGE -> x.page(20000, 1, 1, 10000, 1);
            case PAGE_CLOSED, SECOND_CLOSED -> x.close();
            case MADE -> x.end();
            default -> { }
        }
    }
}
