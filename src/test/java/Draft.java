import java.io.ByteArrayOutputStream;
import java.util.Arrays;

/** A file written by hand, byte by byte, in one order of bytes. */
final class Draft {
    static final int SHORT = 3;
    static final int LONG = 4;
    static final int TWO_LONGS = 5;

    private final int order;
    private byte[] cells = new byte[0];

    Draft(int order, long first) {
        this.order = order;
        at(0, order, 1);
        at(1, order, 1);
        at(2, 42, 2);
        at(4, first, 4);
    }

    /** A number of so many bytes comes to a place; the file grows to hold it. */
    Draft at(int place, long v, int width) {
        if (place + width > cells.length) {
            cells = Arrays.copyOf(cells, place + width);
        }
        for (int i = 0; i < width; i++) {
            int shift = order == 77 ? 8 * (width - 1 - i) : 8 * i;
            cells[place + i] = (byte) (v >>> shift);
        }
        return this;
    }

    Draft length(int n) {
        cells = Arrays.copyOf(cells, n);
        return this;
    }

    int length() {
        return cells.length;
    }

    /** Entries of TAG, TYPE, COUNT and what the last four bytes say (a SHORT stands first). */
    Draft directory(int place, long next, long[]... entries) {
        at(place, entries.length, 2);
        int k = place + 2;
        for (long[] e : entries) {
            at(k, e[0], 2);
            at(k + 2, e[1], 2);
            at(k + 4, e[2], 4);
            at(k + 8, 0, 4);
            at(k + 8, e[3], e[1] == SHORT && e[2] == 1 ? 2 : 4);
            k += 12;
        }
        return at(k, next, 4);
    }

    static long[] one(int tag, int type, long v) {
        return new long[] {tag, type, 1, v};
    }

    static long[] many(int tag, int type, long count, long v) {
        return new long[] {tag, type, count, v};
    }

    /** The entries that there must be, for a page of one strip. */
    static long[][] plain(long place, long length) {
        return new long[][] {
            one(256, LONG, 9), one(257, LONG, 4), one(273, LONG, place), one(279, LONG, length)
        };
    }

    /** The same entries and one more, at its place among the tags (or instead of the same tag). */
    static long[][] with(long[][] entries, long[] more) {
        long[][] all = Arrays.stream(entries).filter(e -> e[0] != more[0]).toArray(long[][]::new);
        all = Arrays.copyOf(all, all.length + 1);
        all[all.length - 1] = more;
        Arrays.sort(all, (a, b) -> Long.compare(a[0], b[0]));
        return all;
    }

    static long[][] without(long[][] entries, int tag) {
        return Arrays.stream(entries).filter(e -> e[0] != tag).toArray(long[][]::new);
    }

    PictureFile load() {
        PictureFile x = new PictureFile();
        loadInto(x);
        return x;
    }

    void loadInto(PictureFile x) {
        for (int k = 0; k < cells.length; k += 8) {
            int n = Math.min(8, cells.length - k);
            long part = 0;
            for (int i = 0; i < n; i++) {
                part = part << 8 | cells[k + i] & 255;
            }
            if (!x.give(part, n)) {
                throw new IllegalStateException("give refused at " + k);
            }
        }
    }

    static byte[] bytesOf(PictureFile x) {
        ByteArrayOutputStream all = new ByteArrayOutputStream();
        for (int k = 0; k < x.look(0); k++) {
            all.write((int) (x.bytes(k / 8) >>> (56 - 8 * (k % 8))));
        }
        return all.toByteArray();
    }

    byte[] cells() {
        return cells.clone();
    }
}
