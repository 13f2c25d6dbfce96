/** All that an object tells of itself without being changed, as a text. */
final class Shot {
    private Shot() {
    }

    static String of(PictureFile x) {
        StringBuilder all = new StringBuilder("look");
        for (int which = 0; which < 8; which++) {
            all.append(' ').append(x.look(which));
        }
        all.append(" fault");
        for (int w = 0; w < 3; w++) {
            all.append(' ').append(x.fault(w));
        }
        for (int page = 0; page < x.look(6); page++) {
            page(all, x, page);
        }
        all.append(" bytes");
        for (int k = 0; k <= x.look(0) / 8; k++) {
            all.append(' ').append(Long.toHexString(x.bytes(k)));
        }
        return all.toString();
    }

    private static void page(StringBuilder all, PictureFile x, int page) {
        all.append(" page");
        for (int w = 0; w < 13; w++) {
            all.append(' ').append(x.of(page, w));
        }
        all.append(" strips");
        for (int i = 0; i < x.of(page, 6); i++) {
            all.append(' ').append(x.where(page, i, 0)).append('+').append(x.where(page, i, 1));
        }
    }
}
