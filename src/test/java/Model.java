import java.nio.ByteBuffer;
import java.nio.ByteOrder;
import java.util.ArrayList;
import java.util.List;
import java.util.Map;
import java.util.TreeMap;

/** The document again, as plainly as the Java library allows, to hold the program against. */
final class Model {
    private static final List<Integer> MEANT =
            List.of(256, 257, 259, 262, 266, 273, 278, 279, 282, 283, 296);
    private static final List<Integer> SHORT_OR_LONG = List.of(256, 257, 273, 278, 279);

    private static final class Fault extends RuntimeException {
        private static final long serialVersionUID = 1L;
        final int kind;
        final int tag;
        final int strip;

        Fault(int kind, int tag, int strip) {
            this.kind = kind;
            this.tag = tag;
            this.strip = strip;
        }
    }

    private static final class ReadPage {
        final long[] numbers = new long[13];
        final List<long[]> strips = new ArrayList<>();
    }

    private record Entry(int type, long count, int place) { }

    private List<Integer> file = new ArrayList<>();
    private boolean making;
    private int[] sheet;
    private List<List<Integer>> stripsMade;
    private List<Integer> stripPlaces;
    private List<Integer> strip;
    private int pagesMade;
    private int orderMade;
    private int linkMade;
    private List<ReadPage> read = new ArrayList<>();
    private int orderRead;
    private int[] fault;

    private static boolean in(long v, long a, long b) {
        return a <= v && v <= b;
    }

    boolean give(long part, int n) {
        if (!in(n, 1, 8) || making || file.size() + n > 65536) {
            return false;
        }
        addPart(file, part, n);
        return true;
    }

    private static void addPart(List<Integer> to, long part, int n) {
        for (int i = n - 1; i >= 0; i--) {
            to.add((int) (part >>> 8 * i) & 255);
        }
    }

    boolean poke(int k, int v) {
        if (making || !in(k, 0, file.size() - 1)) {
            return false;
        }
        file.set(k, v & 255);
        return true;
    }

    boolean cut(int n) {
        if (making || !in(n, 0, file.size())) {
            return false;
        }
        file = new ArrayList<>(file.subList(0, n));
        return true;
    }

    long bytes(int k) {
        List<Integer> all = file;
        long v = 0;
        for (long i = 8L * k; i <= 8L * k + 7; i++) {
            v = v * 256 + (in(i, 0, all.size() - 1) ? all.get((int) i) : 0);
        }
        return v;
    }

    void begin(int order) {
        if (order != 73 && order != 77) {
            throw new IllegalArgumentException();
        }
        making = true;
        orderMade = order;
        pagesMade = 0;
        sheet = null;
        linkMade = 4;
        file = new ArrayList<>(List.of(order, order));
        number(file, 42, 2);
        number(file, 0, 4);
    }

    private void number(List<Integer> to, long v, int width) {
        ByteBuffer b = ByteBuffer.allocate(8);
        b.order(orderMade == 77 ? ByteOrder.BIG_ENDIAN : ByteOrder.LITTLE_ENDIAN);
        if (width == 2) {
            b.putShort((short) v);
        } else {
            b.putInt((int) v);
        }
        for (int i = 0; i < width; i++) {
            to.add(b.get(i) & 255);
        }
    }

    int page(int width, int height, int rows, int across, int down) {
        if (!making || sheet != null || pagesMade == 40) {
            throw new IllegalStateException();
        }
        if (!in(width, 1, 20000) || !in(height, 1, 20000) || !in(rows, 1, height)
                || (height + rows - 1) / rows > 512
                || !in(across, 1, 10000) || !in(down, 1, 10000)) {
            throw new IllegalArgumentException();
        }
        sheet = new int[] {width, height, rows, across, down};
        stripsMade = new ArrayList<>();
        stripPlaces = new ArrayList<>();
        strip = new ArrayList<>();
        return toCome();
    }

    private int toCome() {
        return sheet == null ? 0 : (sheet[1] + sheet[2] - 1) / sheet[2] - stripsMade.size();
    }

    boolean put(long part, int n) {
        if (!in(n, 1, 8) || toCome() == 0) {
            return false;
        }
        int pad = strip.isEmpty() && file.size() % 2 == 1 ? 1 : 0;
        if (file.size() + pad + n > 60000) {
            return false;
        }
        if (pad == 1) {
            file.add(0);
        }
        addPart(file, part, n);
        addPart(strip, part, n);
        return true;
    }

    int strip() {
        if (toCome() == 0) {
            throw new IllegalStateException();
        }
        if (strip.isEmpty() && file.size() % 2 == 1) {
            file.add(0);
        }
        stripPlaces.add(file.size() - strip.size());
        stripsMade.add(strip);
        strip = new ArrayList<>();
        return toCome();
    }

    int close() {
        if (sheet == null || toCome() > 0) {
            throw new IllegalStateException();
        }
        List<Integer> all = new ArrayList<>(file);
        if (all.size() % 2 == 1) {
            all.add(0);
        }
        int n = stripsMade.size();
        long places = stripPlaces.get(0);
        long lengths = stripsMade.get(0).size();
        if (n > 1) {
            places = all.size();
            stripPlaces.forEach(p -> number(all, p, 4));
            lengths = all.size();
            stripsMade.forEach(s -> number(all, s.size(), 4));
        }
        int fine = all.size();
        for (int v : new int[] {sheet[3], 1, sheet[4], 1}) {
            number(all, v, 4);
        }
        int directory = all.size();
        long[][] entries = {
            {256, 4, 1, sheet[0]}, {257, 4, 1, sheet[1]}, {259, 3, 1, 4}, {262, 3, 1, 0},
            {273, 4, n, places}, {278, 4, 1, sheet[2]}, {279, 4, n, lengths},
            {282, 5, 1, fine}, {283, 5, 1, fine + 8}, {296, 3, 1, 2},
        };
        number(all, entries.length, 2);
        for (long[] e : entries) {
            number(all, e[0], 2);
            number(all, e[1], 2);
            number(all, e[2], 4);
            number(all, e[3], e[1] == 3 ? 2 : 4);
            if (e[1] == 3) {
                number(all, 0, 2);
            }
        }
        int link = all.size();
        number(all, 0, 4);
        if (all.size() > 65536) {
            throw new IllegalStateException();
        }
        List<Integer> place = new ArrayList<>();
        number(place, directory, 4);
        for (int i = 0; i < 4; i++) {
            all.set(linkMade + i, place.get(i));
        }
        linkMade = link;
        file = all;
        sheet = null;
        pagesMade++;
        return file.size();
    }

    int end() {
        if (!making || sheet != null) {
            throw new IllegalStateException();
        }
        making = false;
        return pagesMade;
    }

    int read() {
        if (making) {
            throw new IllegalStateException();
        }
        read = new ArrayList<>();
        fault = null;
        try {
            readPages();
            orderRead = file.get(0);
            return read.size();
        } catch (Fault f) {
            fault = new int[] {read.size(), f.tag, f.strip};
            read = new ArrayList<>();
            orderRead = 0;
            return -f.kind;
        }
    }

    private long numberAt(long place, int width) {
        ByteBuffer b = ByteBuffer.allocate(4);
        for (int i = 0; i < width; i++) {
            b.put(i, file.get((int) place + i).byteValue());
        }
        b.order(file.get(0) == 77 ? ByteOrder.BIG_ENDIAN : ByteOrder.LITTLE_ENDIAN);
        return width == 2 ? b.getShort(0) & 0xFFFFL : b.getInt(0) & 0xFFFFFFFFL;
    }

    private void readPages() {
        if (file.size() < 8 || !file.get(0).equals(file.get(1))
                || file.get(0) != 73 && file.get(0) != 77 || numberAt(2, 2) != 42) {
            throw new Fault(1, 0, 0);
        }
        long place = numberAt(4, 4);
        do {
            if (read.size() == 40 || place < 8 || place % 2 == 1 || place + 2 > file.size()) {
                throw new Fault(2, 0, 0);
            }
            long n = numberAt(place, 2);
            if (n == 0 || place + 2 + 12 * n + 4 > file.size()) {
                throw new Fault(2, 0, 0);
            }
            readPage((int) place, (int) n);
            place = numberAt(place + 2 + 12 * n, 4);
        } while (place != 0);
    }

    private void readPage(int place, int n) {
        Map<Integer, Entry> entries = new TreeMap<>();
        int last = -1;
        for (int k = place + 2; k < place + 2 + 12 * n; k += 12) {
            int tag = (int) numberAt(k, 2);
            if (tag <= last) {
                throw new Fault(3, tag, 0);
            }
            last = tag;
            if (MEANT.contains(tag)) {
                entries.put(tag, readEntry(tag, k));
            }
        }
        for (int tag : new int[] {256, 257, 273, 279}) {
            if (!entries.containsKey(tag)) {
                throw new Fault(6, tag, 0);
            }
        }
        ReadPage page = new ReadPage();
        readNumbers(entries, page.numbers);
        page.numbers[12] = place;
        readStrips(entries, page);
        read.add(page);
    }

    private Entry readEntry(int tag, int k) {
        int type = (int) numberAt(k + 2, 2);
        long count = numberAt(k + 4, 4);
        boolean typed = tag == 282 || tag == 283 ? type == 5
                : SHORT_OR_LONG.contains(tag) ? type == 3 || type == 4 : type == 3;
        boolean counted = tag == 273 || tag == 279 ? in(count, 1, 4096) : count == 1;
        if (!typed || !counted) {
            throw new Fault(4, tag, 0);
        }
        long size = count * (type == 3 ? 2 : type == 4 ? 4 : 8);
        if (size <= 4) {
            return new Entry(type, count, k + 8);
        }
        long place = numberAt(k + 8, 4);
        if (place + size > file.size()) {
            throw new Fault(5, tag, 0);
        }
        return new Entry(type, count, (int) place);
    }

    private long value(Map<Integer, Entry> entries, int tag, int i, long otherwise) {
        Entry e = entries.get(tag);
        if (e == null) {
            return otherwise;
        }
        int width = e.type() == 3 ? 2 : 4;
        return numberAt(e.place() + i * width, width);
    }

    private static void demand(boolean right, int tag) {
        if (!right) {
            throw new Fault(7, tag, 0);
        }
    }

    private void readNumbers(Map<Integer, Entry> entries, long[] to) {
        long width = value(entries, 256, 0, 0);
        demand(in(width, 1, 20000), 256);
        long height = value(entries, 257, 0, 0);
        demand(in(height, 1, 20000), 257);
        long code = value(entries, 259, 0, 1);
        demand(code == 1 || code == 4, 259);
        long ink = value(entries, 262, 0, 0);
        demand(in(ink, 0, 1), 262);
        long fill = value(entries, 266, 0, 1);
        demand(in(fill, 1, 2), 266);
        long rows = value(entries, 278, 0, height);
        demand(rows != 0, 278);
        long unit = value(entries, 296, 0, 2);
        demand(in(unit, 1, 3), 296);
        demand(value(entries, 282, 1, 1) != 0, 282);
        demand(value(entries, 283, 1, 1) != 0, 283);
        long[] all = {
            width, height, code, ink, fill, Math.min(rows, height), (height + rows - 1) / rows, unit,
            value(entries, 282, 0, 300), value(entries, 282, 1, 1),
            value(entries, 283, 0, 300), value(entries, 283, 1, 1),
        };
        System.arraycopy(all, 0, to, 0, all.length);
    }

    private void readStrips(Map<Integer, Entry> entries, ReadPage page) {
        long n = page.numbers[6];
        if (entries.get(273).count() != n) {
            throw new Fault(8, 273, 0);
        }
        if (entries.get(279).count() != n) {
            throw new Fault(8, 279, 0);
        }
        if (n + read.stream().mapToLong(p -> p.numbers[6]).sum() > 8192) {
            throw new Fault(8, 278, 0);
        }
        for (int i = 0; i < n; i++) {
            long place = value(entries, 273, i, 0);
            long length = value(entries, 279, i, 0);
            if (place < 8 || place + length > file.size()) {
                throw new Fault(9, 273, i);
            }
            page.strips.add(new long[] {place, length});
        }
    }

    int fault(int w) {
        return fault == null || !in(w, 0, 2) ? -1 : fault[w];
    }

    long of(int page, int w) {
        if (!in(page, 0, read.size() - 1) || !in(w, 0, 12)) {
            throw new IndexOutOfBoundsException();
        }
        return read.get(page).numbers[w];
    }

    int where(int page, int i, int w) {
        if (!in(page, 0, read.size() - 1) || !in(i, 0, read.get(page).strips.size() - 1)
                || !in(w, 0, 1)) {
            throw new IndexOutOfBoundsException();
        }
        return (int) read.get(page).strips.get(i)[w];
    }

    int dots(int page, int i, int k) {
        int place = where(page, i, 0);
        if (!in(k, 0, where(page, i, 1) - 1) || place + k >= file.size()) {
            throw new IndexOutOfBoundsException();
        }
        return file.get(place + k);
    }

    int look(int which) {
        return switch (which) {
            case 0 -> file.size();
            case 1 -> making ? 1 : 0;
            case 2 -> sheet != null ? 1 : 0;
            case 3 -> pagesMade;
            case 4 -> toCome();
            case 5 -> sheet == null ? 0 : strip.size();
            case 6 -> read.size();
            case 7 -> orderRead;
            default -> -1;
        };
    }
}
