import java.util.Arrays;

/**
 * Picture files of many pages of black and white dots: made page by page and strip by strip, and
 * read again, where a file that is not well-formed is refused by the name of its first fault.
 */
public final class PictureFile {
    /** There is none. */
    public static final int NONE = -1;

    private static final int LOW_FIRST = 73;
    private static final int HIGH_FIRST = 77;
    private static final int MARK = 42;

    private static final int HEAD_BYTES = 8;
    private static final int FIRST_LINK = 4;
    private static final int COUNT_BYTES = 2;
    private static final int ENTRY_BYTES = 12;
    private static final int LINK_BYTES = 4;
    private static final int INSIDE_BYTES = 4;

    private static final int SHORT = 3;
    private static final int LONG = 4;
    private static final int TWO_LONGS = 5;

    private static final int WIDTH = 256;
    private static final int HEIGHT = 257;
    private static final int CODE = 259;
    private static final int INK = 262;
    private static final int FILL = 266;
    private static final int PLACES = 273;
    private static final int ROWS = 278;
    private static final int LENGTHS = 279;
    private static final int ACROSS = 282;
    private static final int DOWN = 283;
    private static final int UNIT = 296;

    private static final int WRONG_HEAD = 1;
    private static final int WRONG_DIRECTORY = 2;
    private static final int WRONG_TAG = 3;
    private static final int WRONG_FORM = 4;
    private static final int OUTSIDE = 5;
    private static final int TAG_MISSING = 6;
    private static final int WRONG_VALUE = 7;
    private static final int WRONG_COUNT = 8;
    private static final int WRONG_STRIP = 9;

    private static final int MOST_BYTES = 65536;
    private static final int MOST_BYTES_PUT = 60000;
    private static final int MOST_PAGES = 40;
    private static final int MOST_SIDE = 20000;
    private static final int MOST_FINENESS = 10000;
    private static final int MOST_STRIPS_MADE = 512;
    private static final int MOST_STRIPS_READ = 8192;
    private static final int MOST_COUNT = 4096;

    private final Row file;
    private final Maker maker;
    private final Reader reader;

    public PictureFile() {
        Row row = new Row();
        file = row;
        maker = new Maker(row);
        reader = new Reader(row);
    }

    // ---- bytes

    public boolean give(long part, int n) {
        if (maker.making || !isPartLength(n) || file.size + n > MOST_BYTES) {
            return false;
        }
        file.append(part, n, HIGH_FIRST);
        return true;
    }

    public boolean poke(int k, int v) {
        if (maker.making || k < 0 || k >= file.size) {
            return false;
        }
        file.replace(k, v);
        return true;
    }

    public boolean cut(int n) {
        if (maker.making || n < 0 || n > file.size) {
            return false;
        }
        file.size = n;
        return true;
    }

    public long bytes(int k) {
        return file.number(8L * k, 8, HIGH_FIRST);
    }

    // ---- making

    public void begin(int order) throws IllegalArgumentException {
        if (!isOrder(order)) {
            throw new IllegalArgumentException("the order is not 73 or 77");
        }
        maker.startFile(order);
    }

    public int page(int width, int height, int rows, int across, int down)
            throws IllegalStateException, IllegalArgumentException {
        if (!maker.making || maker.onPage || maker.pages >= MOST_PAGES) {
            throw new IllegalStateException("no page can be begun now");
        }
        if (!isSheet(width, height, rows) || !isFineness(across) || !isFineness(down)) {
            throw new IllegalArgumentException("there can be no such page");
        }
        maker.startPage(width, height, rows, across, down);
        return maker.stripsToCome();
    }

    public boolean put(long part, int n) {
        if (!isPartLength(n) || maker.stripsToCome() == 0 || !maker.hasRoomFor(n)) {
            return false;
        }
        maker.addToStrip(part, n);
        return true;
    }

    public int strip() throws IllegalStateException {
        if (maker.stripsToCome() == 0) {
            throw new IllegalStateException("no strip is being made");
        }
        maker.finishStrip();
        return maker.stripsToCome();
    }

    public int close() throws IllegalStateException {
        if (!maker.onPage || maker.stripsToCome() > 0 || maker.sizeWithPage() > MOST_BYTES) {
            throw new IllegalStateException("no page can be closed now");
        }
        maker.finishPage();
        return file.size;
    }

    public int end() throws IllegalStateException {
        if (!maker.making || maker.onPage) {
            throw new IllegalStateException("no file can be ended now");
        }
        maker.making = false;
        return maker.pages;
    }

    // ---- reading

    public int read() throws IllegalStateException {
        if (maker.making) {
            throw new IllegalStateException("a file is being made");
        }
        reader.goThrough();
        return reader.faultKind == 0 ? reader.pages : -reader.faultKind;
    }

    public int fault(int w) {
        return reader.faultNumber(w);
    }

    public long of(int page, int w) throws IndexOutOfBoundsException {
        if (!reader.hasPage(page) || w < 0 || w >= PageNumbers.HOW_MANY) {
            throw new IndexOutOfBoundsException("no such page or number");
        }
        return reader.numbers.get(page, w);
    }

    public int where(int page, int i, int w) throws IndexOutOfBoundsException {
        if (!reader.hasStrip(page, i) || w < Strips.PLACE || w > Strips.LENGTH) {
            throw new IndexOutOfBoundsException("no such strip or number");
        }
        return reader.ofStrip(page, i, w);
    }

    public int dots(int page, int i, int k) throws IndexOutOfBoundsException {
        if (!reader.hasStrip(page, i) || k < 0 || k >= reader.ofStrip(page, i, Strips.LENGTH)) {
            throw new IndexOutOfBoundsException("no such byte of a strip");
        }
        int at = reader.ofStrip(page, i, Strips.PLACE) + k;
        if (at >= file.size) {
            throw new IndexOutOfBoundsException("the file has no such byte any more");
        }
        return file.at(at);
    }

    public int look(int which) {
        switch (which) {
            case 0: return file.size;
            case 1: return maker.making ? 1 : 0;
            case 2: return maker.onPage ? 1 : 0;
            case 3: return maker.pages;
            case 4: return maker.stripsToCome();
            case 5: return maker.stripBytes;
            case 6: return reader.pages;
            case 7: return reader.order;
            default: return NONE;
        }
    }

    // ---- what several calls ask

    private static boolean isWithin(long v, long least, long most) {
        return v >= least && v <= most;
    }

    private static boolean isPartLength(int n) {
        return isWithin(n, 1, 8);
    }

    private static boolean isOrder(int order) {
        return order == LOW_FIRST || order == HIGH_FIRST;
    }

    private static boolean isFineness(int v) {
        return isWithin(v, 1, MOST_FINENESS);
    }

    private static boolean isSheet(int width, int height, int rows) {
        return isWithin(width, 1, MOST_SIDE) && isWithin(height, 1, MOST_SIDE)
                && isWithin(rows, 1, height) && stripsOf(height, rows) <= MOST_STRIPS_MADE;
    }

    private static long stripsOf(long height, long rows) {
        return rows < 1 ? 0 : (height + rows - 1) / rows;
    }

    /** The file's bytes. It grows as bytes come, so that an object of few bytes stays small. */
    private static final class Row {
        private static final int FIRST_CELLS = 1024;

        private byte[] cells = new byte[FIRST_CELLS];
        private int size;

        /** 0 where there is no such byte. */
        private int at(long k) {
            return k >= 0 && k < size && k < cells.length ? cells[(int) k] & 255 : 0;
        }

        private void replace(int k, int v) {
            if (k >= 0 && k < size && k < cells.length) {
                cells[k] = (byte) v;
            }
        }

        private void add(int v) {
            if (size >= cells.length && size < MOST_BYTES) {
                cells = Arrays.copyOf(cells, Math.min(2 * size, MOST_BYTES));
            }
            if (size >= 0 && size < cells.length) {
                cells[size] = (byte) v;
                size++;
            }
        }

        private long number(long k, int width, int order) {
            long v = 0;
            for (int i = 0; i < width; i++) {
                v |= (long) at(k + i) << shiftOf(i, width, order);
            }
            return v;
        }

        private void append(long v, int width, int order) {
            for (int i = 0; i < width; i++) {
                add((int) (v >> shiftOf(i, width, order)));
            }
        }

        private void replaceLong(int k, long v, int order) {
            for (int i = 0; i < 4; i++) {
                replace(k + i, (int) (v >> shiftOf(i, 4, order)));
            }
        }

        private void makeEven() {
            if (size % 2 != 0) {
                add(0);
            }
        }

        private static int shiftOf(int i, int width, int order) {
            return 8 * (order == HIGH_FIRST ? width - 1 - i : i);
        }
    }

    /** Places and lengths of strips, side by side. */
    private static final class Strips {
        private static final int PLACE = 0;
        private static final int LENGTH = 1;
        private static final int FIRST_STRIPS = 16;

        private final int most;
        private int[] cells = new int[2 * FIRST_STRIPS];
        private int count;

        private Strips(int most) {
            this.most = most;
        }

        private void add(int place, int length) {
            if (2 * count >= cells.length && count < most) {
                cells = Arrays.copyOf(cells, 2 * Math.min(2 * count, most));
            }
            int k = 2 * count;
            if (k >= 0 && k + 1 < cells.length) {
                cells[k] = place;
                cells[k + 1] = length;
                count++;
            }
        }

        private int get(int i, int w) {
            int k = 2 * i + w;
            return k >= 0 && k < cells.length ? cells[k] : 0;
        }
    }

    /** The file that is being made, or was last. */
    private static final class Maker {
        private static final int ENTRIES = 10;
        private static final int FINENESS_BYTES = 16;
        private static final int TO_NEXT_LINK = COUNT_BYTES + ENTRY_BYTES * ENTRIES;
        private static final int MADE_CODE = 4;
        private static final int MADE_INK = 0;
        private static final int MADE_UNIT = 2;

        private final Row file;
        private final Strips strips = new Strips(MOST_STRIPS_MADE);
        private boolean making;
        private boolean onPage;
        private int order;
        private int pages;
        private int link;
        private int width;
        private int height;
        private int rows;
        private int across;
        private int down;
        private int stripsDue;
        private int stripBytes;

        private Maker(Row file) {
            this.file = file;
        }

        private void startFile(int newOrder) {
            making = true;
            order = newOrder;
            pages = 0;
            link = FIRST_LINK;
            leavePage();
            file.size = 0;
            file.append(order, 1, order);
            file.append(order, 1, order);
            addShort(MARK);
            addLong(0);
        }

        private void startPage(int newWidth, int newHeight, int newRows, int newAcross,
                int newDown) {
            width = newWidth;
            height = newHeight;
            rows = newRows;
            across = newAcross;
            down = newDown;
            stripsDue = (int) stripsOf(height, rows);
            onPage = true;
        }

        private void leavePage() {
            onPage = false;
            stripsDue = 0;
            stripBytes = 0;
            strips.count = 0;
        }

        private int stripsToCome() {
            return stripsDue - strips.count;
        }

        private boolean hasRoomFor(int n) {
            int before = stripBytes == 0 ? file.size % 2 : 0;
            return file.size + before + n <= MOST_BYTES_PUT;
        }

        private void addToStrip(long part, int n) {
            if (stripBytes == 0) {
                file.makeEven();
            }
            file.append(part, n, HIGH_FIRST);
            stripBytes += n;
        }

        private void finishStrip() {
            if (stripBytes == 0) {
                file.makeEven();
            }
            strips.add(file.size - stripBytes, stripBytes);
            stripBytes = 0;
        }

        private boolean hasLists() {
            return strips.count >= 2;
        }

        private int sizeWithPage() {
            int lists = hasLists() ? 8 * strips.count : 0;
            return file.size + file.size % 2 + lists + FINENESS_BYTES + TO_NEXT_LINK + LINK_BYTES;
        }

        private void finishPage() {
            file.makeEven();
            int lists = file.size;
            if (hasLists()) {
                addList(Strips.PLACE);
                addList(Strips.LENGTH);
            }
            int fineness = file.size;
            addFineness(across);
            addFineness(down);
            int directory = file.size;
            addDirectory(lists, fineness);
            file.replaceLong(link, directory, order);
            link = directory + TO_NEXT_LINK;
            pages++;
            leavePage();
        }

        private void addList(int w) {
            for (int i = 0; i < strips.count; i++) {
                addLong(strips.get(i, w));
            }
        }

        private void addFineness(int v) {
            addLong(v);
            addLong(1);
        }

        private void addDirectory(int lists, int fineness) {
            int count = strips.count;
            addShort(ENTRIES);
            addEntry(WIDTH, LONG, 1, width);
            addEntry(HEIGHT, LONG, 1, height);
            addEntry(CODE, SHORT, 1, MADE_CODE);
            addEntry(INK, SHORT, 1, MADE_INK);
            addEntry(PLACES, LONG, count, hasLists() ? lists : strips.get(0, Strips.PLACE));
            addEntry(ROWS, LONG, 1, rows);
            addEntry(LENGTHS, LONG, count,
                    hasLists() ? lists + 4 * count : strips.get(0, Strips.LENGTH));
            addEntry(ACROSS, TWO_LONGS, 1, fineness);
            addEntry(DOWN, TWO_LONGS, 1, fineness + 8);
            addEntry(UNIT, SHORT, 1, MADE_UNIT);
            addLong(0);
        }

        private void addEntry(int tag, int type, int count, int value) {
            addShort(tag);
            addShort(type);
            addLong(count);
            if (type == SHORT) {
                addShort(value);
                addShort(0);
            } else {
                addLong(value);
            }
        }

        private void addShort(int v) {
            file.append(v, 2, order);
        }

        private void addLong(int v) {
            file.append(v, 4, order);
        }
    }

    /** The numbers of each page that was read, under the numbers that of() gives them. */
    private static final class PageNumbers {
        private static final int OF_WIDTH = 0;
        private static final int OF_HEIGHT = 1;
        private static final int OF_CODE = 2;
        private static final int OF_INK = 3;
        private static final int OF_FILL = 4;
        private static final int OF_ROWS = 5;
        private static final int OF_STRIPS = 6;
        private static final int OF_UNIT = 7;
        private static final int OF_ACROSS = 8;
        private static final int OF_ACROSS_PER = 9;
        private static final int OF_DOWN = 10;
        private static final int OF_DOWN_PER = 11;
        private static final int OF_DIRECTORY = 12;
        private static final int HOW_MANY = 13;

        private final long[] cells = new long[MOST_PAGES * HOW_MANY];

        private long get(int page, int w) {
            int k = page * HOW_MANY + w;
            return k >= 0 && k < cells.length ? cells[k] : 0;
        }

        private void set(int page, int w, long v) {
            int k = page * HOW_MANY + w;
            if (k >= 0 && k < cells.length) {
                cells[k] = v;
            }
        }

        /** The tag of the first number that a page can not have; 0 if all are right. */
        private int wrongTag(int page) {
            if (!isWithin(get(page, OF_WIDTH), 1, MOST_SIDE)) {
                return WIDTH;
            }
            if (!isWithin(get(page, OF_HEIGHT), 1, MOST_SIDE)) {
                return HEIGHT;
            }
            long code = get(page, OF_CODE);
            if (code != 1 && code != 4) {
                return CODE;
            }
            if (!isWithin(get(page, OF_INK), 0, 1)) {
                return INK;
            }
            if (!isWithin(get(page, OF_FILL), 1, 2)) {
                return FILL;
            }
            if (get(page, OF_ROWS) == 0) {
                return ROWS;
            }
            if (!isWithin(get(page, OF_UNIT), 1, 3)) {
                return UNIT;
            }
            if (get(page, OF_ACROSS_PER) == 0) {
                return ACROSS;
            }
            return get(page, OF_DOWN_PER) == 0 ? DOWN : 0;
        }
    }

    /** The entries of the directory at hand whose tags have a meaning, by their tags. */
    private static final class Entries {
        private static final int SLOTS = UNIT - WIDTH + 1;

        private final Row file;
        private final int[] types = new int[SLOTS];
        private final int[] counts = new int[SLOTS];
        private final int[] places = new int[SLOTS];

        private Entries(Row file) {
            this.file = file;
        }

        private void forgetAll() {
            Arrays.fill(counts, 0);
        }

        /** The widest type that a tag can have; 0 if the tag has no meaning. */
        private static int widestType(int tag) {
            switch (tag) {
                case ACROSS:
                case DOWN:
                    return TWO_LONGS;
                case WIDTH:
                case HEIGHT:
                case PLACES:
                case ROWS:
                case LENGTHS:
                    return LONG;
                case CODE:
                case INK:
                case FILL:
                case UNIT:
                    return SHORT;
                default:
                    return 0;
            }
        }

        private static boolean canHaveType(int tag, int type) {
            int widest = widestType(tag);
            return type == widest || widest == LONG && type == SHORT;
        }

        private static boolean canHaveCount(int tag, long count) {
            return isWithin(count, 1, tag == PLACES || tag == LENGTHS ? MOST_COUNT : 1);
        }

        private static int bytesOf(int type) {
            return type == SHORT ? 2 : type == LONG ? 4 : 8;
        }

        /** Keeps the entry at a place, if its tag has a meaning; the fault that it has, or 0. */
        private int take(int at, int tag, int order) {
            if (widestType(tag) == 0) {
                return 0;
            }
            int type = (int) file.number(at + 2, 2, order);
            long count = file.number(at + 4, 4, order);
            if (!canHaveType(tag, type) || !canHaveCount(tag, count)) {
                return WRONG_FORM;
            }
            long size = count * bytesOf(type);
            long place = size <= INSIDE_BYTES ? at + 8 : file.number(at + 8, 4, order);
            if (place + size > file.size) {
                return OUTSIDE;
            }
            keepEntry(tag - WIDTH, type, (int) count, (int) place);
            return 0;
        }

        private void keepEntry(int slot, int type, int count, int place) {
            if (slot >= 0 && slot < SLOTS) {
                types[slot] = type;
                counts[slot] = count;
                places[slot] = place;
            }
        }

        /** 0 if the tag is not there. */
        private int countOf(int tag) {
            int slot = tag - WIDTH;
            return slot >= 0 && slot < SLOTS ? counts[slot] : 0;
        }

        /** The least tag that is not there and has to be; 0 if all are. */
        private int firstMissing() {
            if (countOf(WIDTH) == 0) {
                return WIDTH;
            }
            if (countOf(HEIGHT) == 0) {
                return HEIGHT;
            }
            if (countOf(PLACES) == 0) {
                return PLACES;
            }
            return countOf(LENGTHS) == 0 ? LENGTHS : 0;
        }

        /** Number i of those of a tag, or the one that holds where there is none. */
        private long number(int tag, int i, int order, long otherwise) {
            int slot = tag - WIDTH;
            if (slot < 0 || slot >= SLOTS || counts[slot] == 0) {
                return otherwise;
            }
            int width = types[slot] == SHORT ? 2 : 4;
            return file.number(places[slot] + (long) width * i, width, order);
        }
    }

    /** Goes through the file; keeps what was read, or where the fault was. */
    private static final class Reader {
        private final Row file;
        private final Entries entries;
        private final PageNumbers numbers = new PageNumbers();
        private final Strips strips = new Strips(MOST_STRIPS_READ);
        private final int[] firstStrips = new int[MOST_PAGES];
        private int pages;
        private int order;
        private int current;
        private int faultKind;
        private int faultPage;
        private int faultTag;
        private int faultStrip;

        private Reader(Row file) {
            this.file = file;
            entries = new Entries(file);
        }

        private boolean hasPage(int page) {
            return page >= 0 && page < pages;
        }

        private boolean hasStrip(int page, int i) {
            return hasPage(page) && i >= 0 && i < numbers.get(page, PageNumbers.OF_STRIPS);
        }

        private int ofStrip(int page, int i, int w) {
            return page >= 0 && page < firstStrips.length
                    ? strips.get(firstStrips[page] + i, w) : 0;
        }

        private int faultNumber(int w) {
            if (faultKind == 0) {
                return NONE;
            }
            switch (w) {
                case 0: return faultPage;
                case 1: return faultTag;
                case 2: return faultStrip;
                default: return NONE;
            }
        }

        private void goThrough() {
            forgetAll();
            if (!takeHead()) {
                return;
            }
            long place = file.number(FIRST_LINK, 4, order);
            // One round more than there can be pages: takePage refuses the page too many.
            for (int page = 0; page <= MOST_PAGES && (page == 0 || place != 0); page++) {
                current = page;
                if (!takePage(place)) {
                    return;
                }
                place = file.number(linkOf(place), 4, order);
            }
            pages = current + 1;
        }

        private void forgetAll() {
            pages = 0;
            order = 0;
            current = 0;
            faultKind = 0;
            strips.count = 0;
        }

        /** Always false, so that what finds a fault can answer with it. */
        private boolean refuse(int kind, int tag, int strip) {
            order = 0;
            faultKind = kind;
            faultPage = current;
            faultTag = tag;
            faultStrip = strip;
            return false;
        }

        private boolean takeHead() {
            int first = file.at(0);
            if (file.size < HEAD_BYTES || !isOrder(first) || file.at(1) != first
                    || file.number(2, 2, first) != MARK) {
                return refuse(WRONG_HEAD, 0, 0);
            }
            order = first;
            return true;
        }

        private boolean takePage(long place) {
            if (current >= MOST_PAGES || !isDirectory(place)) {
                return refuse(WRONG_DIRECTORY, 0, 0);
            }
            return takeEntries((int) place) && hasNeededTags() && takeNumbers(place)
                    && takeStrips();
        }

        private int entriesAt(long place) {
            return (int) file.number(place, COUNT_BYTES, order);
        }

        private long linkOf(long place) {
            return place + COUNT_BYTES + ENTRY_BYTES * entriesAt(place);
        }

        private boolean isDirectory(long place) {
            return place >= HEAD_BYTES && place % 2 == 0 && entriesAt(place) > 0
                    && linkOf(place) + LINK_BYTES <= file.size;
        }

        private boolean takeEntries(int place) {
            entries.forgetAll();
            int count = entriesAt(place);
            int before = NONE;
            for (int i = 0; i < count; i++) {
                int at = place + COUNT_BYTES + ENTRY_BYTES * i;
                int tag = (int) file.number(at, 2, order);
                int kind = tag <= before ? WRONG_TAG : entries.take(at, tag, order);
                if (kind != 0) {
                    return refuse(kind, tag, 0);
                }
                before = tag;
            }
            return true;
        }

        private boolean hasNeededTags() {
            int missing = entries.firstMissing();
            return missing == 0 || refuse(TAG_MISSING, missing, 0);
        }

        private boolean takeNumbers(long place) {
            keep(PageNumbers.OF_WIDTH, entries.number(WIDTH, 0, order, 0));
            keep(PageNumbers.OF_HEIGHT, entries.number(HEIGHT, 0, order, 0));
            keep(PageNumbers.OF_CODE, entries.number(CODE, 0, order, 1));
            keep(PageNumbers.OF_INK, entries.number(INK, 0, order, 0));
            keep(PageNumbers.OF_FILL, entries.number(FILL, 0, order, 1));
            keep(PageNumbers.OF_UNIT, entries.number(UNIT, 0, order, 2));
            keep(PageNumbers.OF_ACROSS, entries.number(ACROSS, 0, order, 300));
            keep(PageNumbers.OF_ACROSS_PER, entries.number(ACROSS, 1, order, 1));
            keep(PageNumbers.OF_DOWN, entries.number(DOWN, 0, order, 300));
            keep(PageNumbers.OF_DOWN_PER, entries.number(DOWN, 1, order, 1));
            long height = numbers.get(current, PageNumbers.OF_HEIGHT);
            long rows = Math.min(entries.number(ROWS, 0, order, height), height);
            keep(PageNumbers.OF_ROWS, rows);
            keep(PageNumbers.OF_STRIPS, stripsOf(height, rows));
            keep(PageNumbers.OF_DIRECTORY, place);
            int wrong = numbers.wrongTag(current);
            return wrong == 0 || refuse(WRONG_VALUE, wrong, 0);
        }

        private void keep(int w, long v) {
            numbers.set(current, w, v);
        }

        private boolean takeStrips() {
            int due = (int) numbers.get(current, PageNumbers.OF_STRIPS);
            int wrong = wrongCount(due);
            if (wrong != 0) {
                return refuse(WRONG_COUNT, wrong, 0);
            }
            if (current >= 0 && current < firstStrips.length) {
                firstStrips[current] = strips.count;
            }
            for (int i = 0; i < due; i++) {
                long place = entries.number(PLACES, i, order, 0);
                long length = entries.number(LENGTHS, i, order, 0);
                if (place < HEAD_BYTES || place + length > file.size) {
                    return refuse(WRONG_STRIP, PLACES, i);
                }
                strips.add((int) place, (int) length);
            }
            return true;
        }

        /** The tag that the number of strips speaks against; 0 if there is none. */
        private int wrongCount(int due) {
            if (entries.countOf(PLACES) != due) {
                return PLACES;
            }
            if (entries.countOf(LENGTHS) != due) {
                return LENGTHS;
            }
            return strips.count + due > MOST_STRIPS_READ ? ROWS : 0;
        }
    }
}
