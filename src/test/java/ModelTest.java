import java.util.Random;
import java.util.TreeMap;
import java.util.function.Supplier;

/** Runs of up to 512 calls, drawn from fixed seeds, each answer against Model's. */
public final class ModelTest {
    private static final int CALLS = 512;
    private static final int[] TAGS = {
        0, 254, 256, 257, 258, 259, 262, 266, 273, 278, 279, 282, 283, 284, 296, 300, 65535,
    };
    private static final int[] EDGES = {
        Integer.MIN_VALUE, -257, -1, 0, 1, 2, 7, 8, 9, 12, 13, 40, 41, 255, 256, 512, 513, 4096,
        4097, 8192, 10000, 10001, 20000, 20001, 65535, 65536, 1 << 28, 1 << 29, 1 << 30,
        Integer.MAX_VALUE,
    };
    private static final TreeMap<Integer, Integer> READS = new TreeMap<>();
    private static int wrong;

    private final Random random;
    private final long seed;
    private final PictureFile x = new PictureFile();
    private final Model model = new Model();
    private int calls;

    private ModelTest(long seed) {
        this.seed = seed;
        this.random = new Random(seed);
    }

    public static void main(String[] args) {
        int runs = args.length > 0 ? Integer.parseInt(args[0]) : 3000;
        for (int i = 0; i < runs && wrong < 20; i++) {
            ModelTest t = new ModelTest(i);
            switch (i % 3) {
                case 0 -> t.anyCalls();
                case 1 -> t.madeFiles();
                default -> t.handMadeFiles();
            }
        }
        System.out.println("ModelTest: answers of read() and how often: " + READS);
        for (int kind = 1; kind <= 9; kind++) {
            if (!READS.containsKey(-kind)) {
                wrong++;
                System.out.println("no run had the fault " + kind);
            }
        }
        if (wrong != 0) {
            System.exit(1);
        }
    }

    private static String answer(Supplier<Object> call) {
        try {
            return String.valueOf(call.get());
        } catch (RuntimeException e) {
            return "throws." + e.getClass().getSimpleName();
        }
    }

    private String same(String what, Supplier<Object> program, Supplier<Object> due) {
        calls++;
        String got = answer(program);
        String want = answer(due);
        if (!got.equals(want)) {
            wrong++;
            System.out.println("seed " + seed + ", call " + calls + ": " + what + " answered " + got
                    + ", due is " + want);
        }
        return got;
    }

    private boolean hasCalls(int n) {
        return calls + n <= CALLS && wrong < 20;
    }

    private int below(int n) {
        return n < 1 ? 0 : random.nextInt(n);
    }

    private int edge(int usual) {
        return below(8) == 0 ? EDGES[below(EDGES.length)] : usual;
    }

    // ---- the calls

    private void give(long part, int n) {
        same("give(" + part + ", " + n + ")", () -> x.give(part, n), () -> model.give(part, n));
    }

    private void poke(int k, int v) {
        same("poke(" + k + ", " + v + ")", () -> x.poke(k, v), () -> model.poke(k, v));
    }

    private void cut(int n) {
        same("cut(" + n + ")", () -> x.cut(n), () -> model.cut(n));
    }

    private void bytes(int k) {
        same("bytes(" + k + ")", () -> x.bytes(k), () -> model.bytes(k));
    }

    private void begin(int order) {
        same("begin(" + order + ")", () -> {
            x.begin(order);
            return "";
        }, () -> {
            model.begin(order);
            return "";
        });
    }

    private void page(int width, int height, int rows, int across, int down) {
        same("page(" + width + ", " + height + ", " + rows + ", " + across + ", " + down + ")",
                () -> x.page(width, height, rows, across, down),
                () -> model.page(width, height, rows, across, down));
    }

    private void put(long part, int n) {
        same("put(" + part + ", " + n + ")", () -> x.put(part, n), () -> model.put(part, n));
    }

    private void strip() {
        same("strip()", x::strip, model::strip);
    }

    private void close() {
        same("close()", x::close, model::close);
    }

    private void end() {
        same("end()", x::end, model::end);
    }

    private void read() {
        String got = same("read()", x::read, model::read);
        if (!got.startsWith("throws")) {
            READS.merge(Integer.parseInt(got), 1, Integer::sum);
        }
    }

    private void fault(int w) {
        same("fault(" + w + ")", () -> x.fault(w), () -> model.fault(w));
    }

    private void of(int page, int w) {
        same("of(" + page + ", " + w + ")", () -> x.of(page, w), () -> model.of(page, w));
    }

    private void where(int page, int i, int w) {
        same("where(" + page + ", " + i + ", " + w + ")", () -> x.where(page, i, w),
                () -> model.where(page, i, w));
    }

    private void dots(int page, int i, int k) {
        same("dots(" + page + ", " + i + ", " + k + ")", () -> x.dots(page, i, k),
                () -> model.dots(page, i, k));
    }

    private void look(int which) {
        same("look(" + which + ")", () -> x.look(which), () -> model.look(which));
    }

    // ---- the runs

    private void anyCalls() {
        while (hasCalls(1)) {
            switch (below(20)) {
                case 0 -> give(random.nextLong(), edge(1 + below(8)));
                case 1 -> poke(edge(below(x.look(0) + 1)), edge(below(256)));
                case 2 -> cut(edge(x.look(0) - below(4)));
                case 3 -> bytes(edge(below(x.look(0) / 8 + 2)));
                case 4 -> {
                    if (below(6) == 0) {
                        begin(edge(below(2) == 0 ? 73 : 77));
                    }
                }
                case 5 -> anyPage();
                case 6, 7 -> put(random.nextLong(), edge(1 + below(8)));
                case 8, 9, 10 -> strip();
                case 11, 12 -> close();
                case 13 -> {
                    if (below(3) == 0) {
                        end();
                    }
                }
                case 14 -> read();
                case 15 -> fault(edge(below(3)));
                case 16 -> of(edge(below(3)), edge(below(13)));
                case 17 -> where(edge(below(3)), edge(below(4)), edge(below(2)));
                case 18 -> dots(edge(below(2)), edge(below(3)), edge(below(9)));
                default -> look(edge(below(8)));
            }
        }
    }

    private void anyPage() {
        int rows = 1 + below(5);
        int height = below(10) == 0 ? 1 + below(20000) : rows + below(4 * rows);
        page(edge(1 + below(20000)), edge(height), edge(below(5) == 0 ? height : rows),
                edge(1 + below(10000)), edge(1 + below(10000)));
    }

    private void makeFile() {
        begin(below(2) == 0 ? 73 : 77);
        int pages = 1 + below(3);
        for (int p = 0; p < pages; p++) {
            int rows = 1 + below(3);
            int strips = 1 + below(4);
            page(1 + below(300), rows * strips, rows, 1 + below(10000), 1 + below(10000));
            for (int i = 0; i < strips; i++) {
                for (int j = below(3); j > 0; j--) {
                    put(random.nextLong(), 1 + below(8));
                }
                strip();
                look(below(8));
            }
            close();
        }
        end();
    }

    private void madeFiles() {
        while (hasCalls(150)) {
            makeFile();
            for (int k = 0; k <= x.look(0) / 8 && hasCalls(60); k++) {
                bytes(k);
            }
            read();
            askAll(10);
            for (int i = 0; i < 4 && hasCalls(12); i++) {
                poke(below(x.look(0)), below(2) == 0 ? below(10) : below(256));
                if (below(6) == 0) {
                    cut(below(x.look(0) + 1));
                }
                read();
                askAll(6);
            }
        }
    }

    private void askAll(int n) {
        fault(0);
        fault(1);
        fault(2);
        for (int i = 0; i < n && hasCalls(1); i++) {
            int page = below(x.look(6) + (below(5) == 0 ? 1 : 0));
            switch (below(4)) {
                case 0 -> of(page, below(13));
                case 1 -> where(page, below(4), below(2));
                case 2 -> dots(page, below(3), below(9));
                default -> look(6 + below(2));
            }
        }
    }

    private void handMadeFiles() {
        while (hasCalls(160)) {
            cut(0);
            byte[] cells = handMade().cells();
            for (int k = 0; k < cells.length; k += 8) {
                int n = Math.min(8, cells.length - k);
                long part = random.nextLong();
                for (int i = 0; i < n; i++) {
                    part = part << 8 | cells[k + i] & 255;
                }
                give(part, n);
            }
            read();
            askAll(14);
        }
    }

    private Draft handMade() {
        int order = below(2) == 0 ? 73 : 77;
        int place = 8 + 2 * below(10);
        Draft d = new Draft(order, below(20) == 0 ? below(64) : place);
        int pages = 1 + below(3);
        int size = 700 + below(40);
        for (int p = 0; p < pages; p++) {
            int next = place + 170 + 2 * below(3);
            long link = p + 1 < pages ? next : below(6) == 0 ? below(size) : 0;
            d.directory(place, link, anyEntries(size));
            place = next;
        }
        for (int i = 600; i < size; i += 4) {
            d.at(i, below(8) == 0 ? random.nextInt() : 8 + below(90), 4);
        }
        return d.length(below(12) == 0 ? below(size) : size);
    }

    private long[][] anyEntries(int size) {
        int strips = 1 + below(4);
        int rows = 1 + below(3);
        boolean faulty = below(2) == 0;
        TreeMap<Integer, long[]> all = new TreeMap<>();
        for (int tag : TAGS) {
            boolean needed = tag == 256 || tag == 257 || tag == 273 || tag == 279
                    || tag == 278 && strips > 1;
            if (needed && !(faulty && below(30) == 0) || !needed && below(3) == 0) {
                all.put(tag, anyEntry(tag, strips, rows, size));
            }
        }
        long[][] entries = all.values().toArray(new long[0][]);
        if (entries.length == 0) {
            return new long[][] {{below(300), 3, 1, 0}};
        }
        if (faulty && below(3) == 0) {
            long[] e = entries[below(entries.length)];
            switch (below(6)) {
                case 0 -> e[0] += below(9) - 4;
                case 1 -> e[1] = below(7);
                case 2 -> e[2] = below(3) == 0 ? EDGES[below(EDGES.length)] : below(5);
                case 3 -> e[3] = size - below(20);
                default -> e[3] = below(4) == 0 ? EDGES[below(EDGES.length)] : below(6);
            }
        }
        return entries;
    }

    private long[] anyEntry(int tag, int strips, int rows, int size) {
        int type = below(2) == 0 ? 3 : 4;
        return switch (tag) {
            case 256 -> Draft.one(tag, type, 1 + below(20000));
            case 257 -> Draft.one(tag, type, strips * rows - below(rows));
            case 278 -> Draft.one(tag, type, strips == 1 ? rows + below(60000) : rows);
            case 259 -> Draft.one(tag, 3, below(2) == 0 ? 1 : 4);
            case 262 -> Draft.one(tag, 3, below(2));
            case 266 -> Draft.one(tag, 3, 1 + below(2));
            case 296 -> Draft.one(tag, 3, 1 + below(3));
            case 282, 283 -> Draft.one(tag, 5, 600 + 4 * below(20));
            case 273, 279 -> {
                int n = below(25) == 0 ? 1 + below(4) : strips;
                boolean inside = (type == 3 ? 2 : 4) * n <= 4;
                long v = inside ? 8 + below(90) : 600 + 2 * below((size - 600) / 2 - 2 * n);
                yield Draft.many(tag, type, n, n == 2 && inside ? v << 16 | v : v);
            }
            default -> Draft.many(tag, below(20), below(70000), below(70000));
        };
    }
}
