/**
 * A container for parts: named entries, written as one row of bytes with a head before each entry,
 * a directory behind them and an end, and read back strictly. ../shared/DOC.md has its promises.
 */
public final class PartBox {
    public static final int NONE = -1;

    private static final int MOST_BYTES = 65536;
    private static final int MOST_LETTERS = 64;
    private static final int MOST_ENTRIES = 64;
    private static final int FED_AT_ONCE = 20;

    private static final int LOWEST_LETTER = 33;
    private static final int HIGHEST_LETTER = 126;

    private static final int STORED = 0;
    private static final int PACKED = 8;

    private static final int WITH_TAIL = 8;
    private static final int FLAGS_ALLOWED = WITH_TAIL | 2048;

    // The four bytes that begin each piece of a container, as a number with the lowest byte first.
    private static final int HEAD_MARK = 0x04034B50;
    private static final int TAIL_MARK = 0x08074B50;
    private static final int DIRECTORY_MARK = 0x02014B50;
    private static final int END_MARK = 0x06054B50;

    private static final int HEAD_LENGTH = 30;
    private static final int TAIL_LENGTH = 12;
    private static final int MARK_LENGTH = 4;
    private static final int DIRECTORY_LENGTH = 46;
    private static final int END_LENGTH = 22;

    private static final int WRITTEN_VERSION = 20;

    private final Bytes row;
    private final Bytes typed;
    private final Checker checker;
    private final Box box;
    private final Reader reader;

    public PartBox() {
        row = new Bytes(MOST_BYTES);
        typed = new Bytes(MOST_LETTERS);
        checker = new Checker();
        box = new Box();
        reader = new Reader(row, checker);
    }

    public void feed(int a, int b, int c, int d, int e) throws IllegalStateException {
        if (row.free() < FED_AT_ONCE) {
            throw new IllegalStateException("the row would be too long");
        }
        row.pushWord(a);
        row.pushWord(b);
        row.pushWord(c);
        row.pushWord(d);
        row.pushWord(e);
    }

    public void end(int n) throws IllegalArgumentException {
        if (n < 0 || n > row.size()) {
            throw new IllegalArgumentException("the row has not so many bytes");
        }
        row.keep(n);
    }

    public void alter(int i, int b) throws IndexOutOfBoundsException, IllegalArgumentException {
        if (i < 0 || i >= row.size()) {
            throw new IndexOutOfBoundsException("the row has no such byte");
        }
        if (b < 0 || b > 255) {
            throw new IllegalArgumentException("not a byte");
        }
        row.set(i, b);
    }

    public int length() {
        return row.size();
    }

    public int byteAt(int i) throws IndexOutOfBoundsException {
        int found = row.get(i);
        if (found == NONE) {
            throw new IndexOutOfBoundsException("the row has no such byte");
        }
        return found;
    }

    public int type(int word) throws IllegalArgumentException, IllegalStateException {
        int more = 0;
        for (int shift = 24; shift >= 0; shift -= 8) {
            int letter = word >>> shift & 255;
            if (letter != 0) {
                if (letter < LOWEST_LETTER || letter > HIGHEST_LETTER) {
                    throw new IllegalArgumentException("not a character of a name");
                }
                more++;
            }
        }
        if (more > typed.free()) {
            throw new IllegalStateException("the name would be too long");
        }
        for (int shift = 24; shift >= 0; shift -= 8) {
            int letter = word >>> shift & 255;
            if (letter != 0) {
                typed.push(letter);
            }
        }
        return typed.size();
    }

    public void erase() {
        typed.keep(0);
    }

    public int add() throws IllegalArgumentException, IllegalStateException {
        if (!isTypedNameNew()) {
            throw new IllegalArgumentException("no name, or that of an entry");
        }
        return enter(STORED, row.size(), checker.checkOf(row, 0, row.size()));
    }

    public int addPacked(int size, int check) throws IllegalArgumentException, IllegalStateException {
        if (!isTypedNameNew() || size < 0) {
            throw new IllegalArgumentException("no name, or that of an entry, or a size below 0");
        }
        return enter(PACKED, size, check);
    }

    public void remove(int entry) throws IndexOutOfBoundsException {
        if (!box.has(entry)) {
            throw new IndexOutOfBoundsException("no such entry");
        }
        box.drop(entry);
    }

    public void move(int entry, int to) throws IndexOutOfBoundsException {
        if (!box.has(entry) || !box.has(to)) {
            throw new IndexOutOfBoundsException("no such entry");
        }
        box.shift(entry, to);
    }

    public int find() {
        return box.numberOf(typed);
    }

    public int about(int entry, int what) throws IndexOutOfBoundsException, IllegalArgumentException {
        Entry found = box.pick(entry);
        if (found == null) {
            throw new IndexOutOfBoundsException("no such entry");
        }
        switch (what) {
            case 0:
                return found.method;
            case 1:
                return found.byteCount;
            case 2:
                return found.size;
            case 3:
                return found.check;
            case 4:
                return found.name.size();
            default:
                throw new IllegalArgumentException("nothing of an entry");
        }
    }

    public int name(int entry, int k) throws IndexOutOfBoundsException {
        Entry found = box.pick(entry);
        if (found == null) {
            throw new IndexOutOfBoundsException("no such entry");
        }
        return found.name.get(k);
    }

    public int part(int entry, int i) throws IndexOutOfBoundsException {
        Entry found = box.pick(entry);
        if (found == null || i < 0 || i >= found.byteCount) {
            throw new IndexOutOfBoundsException("no such entry, or no such byte of it");
        }
        return box.store.get(found.start + i);
    }

    public int write() throws IllegalStateException {
        if (box.writtenLength() > MOST_BYTES) {
            throw new IllegalStateException("the row would be too long");
        }
        box.writeOver(row);
        return row.size();
    }

    public int read(int limit) throws IllegalArgumentException {
        if (limit < 0 || limit > MOST_BYTES) {
            throw new IllegalArgumentException("not a limit");
        }
        if (reader.findsNoFault(limit)) {
            reader.unpackInto(box);
        }
        return reader.fault;
    }

    public int blame(int what) throws IllegalArgumentException {
        switch (what) {
            case 0:
                return reader.fault;
            case 1:
                return reader.place;
            case 2:
                return reader.entry;
            default:
                throw new IllegalArgumentException("nothing of a fault");
        }
    }

    public int count() {
        return box.size();
    }

    private boolean isTypedNameNew() {
        return Names.isName(typed, 0, typed.size()) && box.numberOf(typed) == NONE;
    }

    private int enter(int method, int size, int check) {
        Entry fresh = box.append(row, 0, row.size());
        if (fresh == null) {
            throw new IllegalStateException("the box is full");
        }
        fresh.name.pushAll(typed, 0, typed.size());
        fresh.describe(method, size, check);
        return box.size() - 1;
    }

    /** Bytes one behind another, in a room that is made once. */
    private static final class Bytes {
        private final byte[] cells;
        private int used;

        Bytes(int room) {
            cells = new byte[Math.max(0, room)];
            used = 0;
        }

        int size() {
            return used;
        }

        int free() {
            return cells.length - used;
        }

        /** A byte as 0 .. 255, or NONE: so a look behind the last byte is never like any byte. */
        int get(int i) {
            return i < 0 || i >= used ? NONE : cells[i] & 255;
        }

        void set(int i, int b) {
            if (i >= 0 && i < used) {
                cells[i] = (byte) b;
            }
        }

        void keep(int n) {
            if (n >= 0 && n <= used) {
                used = n;
            }
        }

        void push(int b) {
            if (used < cells.length) {
                cells[used] = (byte) b;
                used++;
            }
        }

        void pushWord(int word) {
            for (int shift = 24; shift >= 0; shift -= 8) {
                push(word >>> shift);
            }
        }

        void pushNumber(int number, int width) {
            for (int k = 0; k < width && k < 4; k++) {
                push(number >>> 8 * k);
            }
        }

        void pushAll(Bytes from, int start, int n) {
            if (from.holds(start, n) && n <= free()) {
                System.arraycopy(from.cells, start, cells, used, n);
                used += n;
            }
        }

        void cut(int start, int n) {
            if (holds(start, n)) {
                System.arraycopy(cells, start + n, cells, start, used - start - n);
                used -= n;
            }
        }

        /** The number without a sign that stands there, lowest byte first; NONE beyond the bytes. */
        long number(int at, int width) {
            if (!holds(at, width)) {
                return NONE;
            }
            long number = 0;
            for (int k = width - 1; k >= 0; k--) {
                number = number << 8 | get(at + k);
            }
            return number;
        }

        boolean hasMark(int at, int mark) {
            for (int k = 0; k < MARK_LENGTH; k++) {
                if (get(at + k) != (mark >>> 8 * k & 255)) {
                    return false;
                }
            }
            return true;
        }

        private boolean holds(int start, int n) {
            return start >= 0 && n >= 0 && n <= used && start <= used - n;
        }
    }

    /** The rules of names, which stand in rows as well as alone. */
    private static final class Names {
        static boolean isName(Bytes in, int start, int n) {
            if (n < 1 || n > MOST_LETTERS) {
                return false;
            }
            int pieceStart = start;
            for (int i = start; i < start + n; i++) {
                int letter = in.get(i);
                if (letter < LOWEST_LETTER || letter > HIGHEST_LETTER || letter == '\\') {
                    return false;
                }
                if (letter == '/') {
                    if (!isPiece(in, pieceStart, i - pieceStart)) {
                        return false;
                    }
                    pieceStart = i + 1;
                }
            }
            return isPiece(in, pieceStart, start + n - pieceStart);
        }

        /** Whether it is other than the three that are refused: nothing, one dot, two dots. */
        private static boolean isPiece(Bytes in, int start, int n) {
            for (int i = 0; i < n && i < 2; i++) {
                if (in.get(start + i) != '.') {
                    return true;
                }
            }
            return n > 2;
        }

        static boolean areAlike(Bytes a, int startA, Bytes b, int startB, int n) {
            for (int i = 0; i < n; i++) {
                if (small(a.get(startA + i)) != small(b.get(startB + i))) {
                    return false;
                }
            }
            return true;
        }

        private static int small(int letter) {
            return letter >= 'A' && letter <= 'Z' ? letter - 'A' + 'a' : letter;
        }
    }

    /** Reckons the check of bytes. */
    private static final class Checker {
        private static final int JOINED = 0xEDB88320;

        // What eight steps make of each low byte, so that a byte of a row costs one step.
        private final int[] eightSteps;

        Checker() {
            eightSteps = new int[256];
            for (int low = 0; low < 256; low++) {
                int bits = low;
                for (int step = 0; step < 8; step++) {
                    bits = (bits & 1) == 1 ? bits >>> 1 ^ JOINED : bits >>> 1;
                }
                eightSteps[low] = bits;
            }
        }

        int checkOf(Bytes in, int start, int n) {
            int bits = -1;
            for (int i = 0; i < n; i++) {
                bits = bits >>> 8 ^ eightSteps[(bits ^ in.get(start + i)) & 255];
            }
            return ~bits;
        }
    }

    /** One entry of the box; its bytes lie in the box's store. */
    private static final class Entry {
        private final Bytes name;
        private int method;
        private int start;
        private int byteCount;
        private int size;
        private int check;

        Entry() {
            name = new Bytes(MOST_LETTERS);
        }

        void describe(int newMethod, int newSize, int newCheck) {
            method = newMethod;
            size = newSize;
            check = newCheck;
        }
    }

    /** The entries in their order. All 64 are made at once, and those out of use wait behind. */
    private static final class Box {
        private final Entry[] entries;
        private final Bytes store;
        private int used;

        Box() {
            entries = new Entry[MOST_ENTRIES];
            for (int i = 0; i < MOST_ENTRIES; i++) {
                entries[i] = new Entry();
            }
            store = new Bytes(MOST_BYTES);
            used = 0;
        }

        int size() {
            return used;
        }

        boolean has(int entry) {
            return entry >= 0 && entry < used;
        }

        Entry pick(int entry) {
            return has(entry) ? entries[entry] : null;
        }

        int numberOf(Bytes name) {
            for (int i = 0; i < used; i++) {
                Bytes other = entries[i].name;
                if (other.size() == name.size() && Names.areAlike(other, 0, name, 0, name.size())) {
                    return i;
                }
            }
            return NONE;
        }

        /** A last entry with these bytes and no name yet; null, and nothing done, without room. */
        Entry append(Bytes from, int start, int n) {
            if (used >= MOST_ENTRIES || n > store.free()) {
                return null;
            }
            Entry fresh = entries[used];
            used++;
            fresh.name.keep(0);
            fresh.start = store.size();
            fresh.byteCount = n;
            store.pushAll(from, start, n);
            return fresh;
        }

        void clear() {
            used = 0;
            store.keep(0);
        }

        void drop(int entry) {
            if (!has(entry)) {
                return;
            }
            int start = entries[entry].start;
            int n = entries[entry].byteCount;
            store.cut(start, n);
            for (int i = 0; i < used; i++) {
                if (entries[i].start > start) {
                    entries[i].start -= n;
                }
            }
            // The entry's object is kept for later use, behind those that are in use.
            shift(entry, used - 1);
            used--;
        }

        void shift(int entry, int to) {
            if (!has(entry) || !has(to)) {
                return;
            }
            Entry moved = entries[entry];
            for (int i = entry; i < to; i++) {
                entries[i] = entries[i + 1];
            }
            for (int i = entry; i > to; i--) {
                entries[i] = entries[i - 1];
            }
            entries[to] = moved;
        }

        int writtenLength() {
            int length = END_LENGTH;
            for (int i = 0; i < used; i++) {
                length += lengthWithHead(entries[i]) + DIRECTORY_LENGTH + entries[i].name.size();
            }
            return length;
        }

        void writeOver(Bytes out) {
            out.keep(0);
            for (int i = 0; i < used; i++) {
                writeEntry(out, entries[i]);
            }
            int directory = out.size();
            int place = 0;
            for (int i = 0; i < used; i++) {
                writeDirectoryHead(out, entries[i], place);
                place += lengthWithHead(entries[i]);
            }
            writeEnd(out, directory);
        }

        private static int lengthWithHead(Entry entry) {
            return HEAD_LENGTH + entry.name.size() + entry.byteCount;
        }

        private void writeEntry(Bytes out, Entry entry) {
            out.pushNumber(HEAD_MARK, 4);
            writeFacts(out, entry);
            out.pushAll(entry.name, 0, entry.name.size());
            out.pushAll(store, entry.start, entry.byteCount);
        }

        private void writeDirectoryHead(Bytes out, Entry entry, int place) {
            out.pushNumber(DIRECTORY_MARK, 4);
            out.pushNumber(WRITTEN_VERSION, 2);
            writeFacts(out, entry);
            out.pushNumber(0, 2); // length of the comment
            out.pushNumber(0, 2); // disk
            out.pushNumber(0, 2); // attributes
            out.pushNumber(0, 4); // attributes
            out.pushNumber(place, 4);
            out.pushAll(entry.name, 0, entry.name.size());
        }

        /** What both kinds of head say alike: from the version to the length of what is extra. */
        private void writeFacts(Bytes out, Entry entry) {
            out.pushNumber(WRITTEN_VERSION, 2);
            out.pushNumber(0, 2); // flags
            out.pushNumber(entry.method, 2);
            out.pushNumber(0, 4); // time
            out.pushNumber(entry.check, 4);
            out.pushNumber(entry.byteCount, 4);
            out.pushNumber(entry.size, 4);
            out.pushNumber(entry.name.size(), 2);
            out.pushNumber(0, 2); // length of what is extra
        }

        private void writeEnd(Bytes out, int directory) {
            int directoryLength = out.size() - directory;
            out.pushNumber(END_MARK, 4);
            out.pushNumber(0, 4); // both disks
            out.pushNumber(used, 2);
            out.pushNumber(used, 2);
            out.pushNumber(directoryLength, 4);
            out.pushNumber(directory, 4);
            out.pushNumber(0, 2); // length of the comment
        }
    }

    /** What a head, of either kind, says from its version on. */
    private static final class Facts {
        private int flags;
        private int method;
        private long check;
        private long byteCount;
        private long size;
        private int nameLength;
        private int extraLength;

        void takeFrom(Bytes row, int version) {
            flags = (int) row.number(version + 2, 2);
            method = (int) row.number(version + 4, 2);
            check = row.number(version + 10, 4);
            byteCount = row.number(version + 14, 4);
            size = row.number(version + 18, 4);
            nameLength = (int) row.number(version + 22, 2);
            extraLength = (int) row.number(version + 24, 2);
        }

        boolean hasTail() {
            return (flags & WITH_TAIL) != 0;
        }
    }

    /** What reading has found of one entry of the directory, as places in the row. */
    private static final class Finding {
        private final Facts facts;
        private int nameStart;
        private int directoryHeadEnd;
        private long head;
        private int firstByte;
        private int end;

        Finding() {
            facts = new Facts();
        }

        void takeFrom(Bytes row, int at) {
            facts.takeFrom(row, at + 6);
            int commentLength = (int) row.number(at + 32, 2);
            head = row.number(at + 42, 4);
            nameStart = at + DIRECTORY_LENGTH;
            directoryHeadEnd = nameStart + facts.nameLength + facts.extraLength + commentLength;
        }
    }

    /** Reads the row strictly and keeps the first fault; the box is not looked at. */
    private static final class Reader {
        private static final int NO_FAULT = 0;
        private static final int NO_END = 1;
        private static final int WRONG_END = 2;
        private static final int NO_DIRECTORY_HEAD = 3;
        private static final int NOT_READ_HERE = 4;
        private static final int WRONG_NAME = 5;
        private static final int WRONG_SIZE = 6;
        private static final int WRONG_HEAD = 7;
        private static final int WRONG_BYTES = 8;
        private static final int ABOVE_LIMIT = 9;
        private static final int WRONG_PLACE = 10;
        private static final int WRONG_CHECK = 11;

        private final Bytes row;
        private final Checker checker;
        private final Finding[] findings;
        private final Facts headFacts;
        private final int[] order;

        private int fault;
        private int place;
        private int entry;

        private int endPlace;
        private int directoryPlace;
        private int found;
        private long allBytes;
        private long allSizes;

        Reader(Bytes row, Checker checker) {
            this.row = row;
            this.checker = checker;
            findings = new Finding[MOST_ENTRIES];
            for (int i = 0; i < MOST_ENTRIES; i++) {
                findings[i] = new Finding();
            }
            headFacts = new Facts();
            order = new int[MOST_ENTRIES];
            fault = NO_FAULT;
            place = NONE;
            entry = NONE;
        }

        boolean findsNoFault(int limit) {
            note(NO_FAULT, NONE, NONE);
            return examineEnd()
                    && examineDirectory(limit)
                    && examineEntries()
                    && examinePlaces()
                    && examineChecks();
        }

        void unpackInto(Box box) {
            box.clear();
            for (int i = 0; i < found; i++) {
                Finding finding = findings[i];
                Facts facts = finding.facts;
                Entry fresh = box.append(row, finding.firstByte, (int) facts.byteCount);
                if (fresh != null) {
                    fresh.name.pushAll(row, finding.nameStart, facts.nameLength);
                    fresh.describe(facts.method, (int) facts.size, (int) facts.check);
                }
            }
        }

        /** Answers false, so that a look that fails can end with it. */
        private boolean note(int newFault, int newPlace, int newEntry) {
            fault = newFault;
            place = newPlace;
            entry = newEntry;
            return false;
        }

        private boolean examineEnd() {
            endPlace = lastEnd();
            if (endPlace == NONE) {
                return note(NO_END, row.size(), NONE);
            }
            long disks = row.number(endPlace + 4, 4);
            long entriesHere = row.number(endPlace + 8, 2);
            long entriesInAll = row.number(endPlace + 10, 2);
            long directoryLength = row.number(endPlace + 12, 4);
            long directory = row.number(endPlace + 16, 4);
            if (disks != 0 || entriesHere != entriesInAll || entriesInAll > MOST_ENTRIES
                    || directory + directoryLength != endPlace) {
                return note(WRONG_END, endPlace, NONE);
            }
            found = (int) entriesInAll;
            directoryPlace = (int) directory;
            return true;
        }

        private int lastEnd() {
            for (int at = row.size() - END_LENGTH; at >= 0; at--) {
                if (row.hasMark(at, END_MARK)
                        && at + END_LENGTH + row.number(at + 20, 2) == row.size()) {
                    return at;
                }
            }
            return NONE;
        }

        private boolean examineDirectory(int limit) {
            allBytes = 0;
            allSizes = 0;
            int at = directoryPlace;
            for (int i = 0; i < found; i++) {
                int wrong = directoryFault(i, at, limit);
                if (wrong != NO_FAULT) {
                    return note(wrong, at, i);
                }
                at = findings[i].directoryHeadEnd;
            }
            return at == endPlace || note(NO_DIRECTORY_HEAD, at, NONE);
        }

        private int directoryFault(int number, int at, int limit) {
            // Its lengths may be read only when all of its fixed part is there.
            if (at > endPlace - DIRECTORY_LENGTH || !row.hasMark(at, DIRECTORY_MARK)) {
                return NO_DIRECTORY_HEAD;
            }
            Finding finding = findings[number];
            finding.takeFrom(row, at);
            if (finding.directoryHeadEnd > endPlace) {
                return NO_DIRECTORY_HEAD;
            }
            Facts facts = finding.facts;
            boolean methodKnown = facts.method == STORED || facts.method == PACKED;
            if ((facts.flags & ~FLAGS_ALLOWED) != 0 || !methodKnown || row.number(at + 34, 2) != 0) {
                return NOT_READ_HERE;
            }
            if (!Names.isName(row, finding.nameStart, facts.nameLength) || isNamedBefore(number)) {
                return WRONG_NAME;
            }
            if (facts.method == STORED && facts.byteCount != facts.size) {
                return WRONG_SIZE;
            }
            allBytes += facts.byteCount;
            allSizes += facts.size;
            return allBytes > limit || allSizes > limit ? ABOVE_LIMIT : NO_FAULT;
        }

        private boolean isNamedBefore(int number) {
            int start = findings[number].nameStart;
            int n = findings[number].facts.nameLength;
            for (int i = 0; i < number; i++) {
                if (findings[i].facts.nameLength == n
                        && Names.areAlike(row, findings[i].nameStart, row, start, n)) {
                    return true;
                }
            }
            return false;
        }

        private boolean examineEntries() {
            for (int i = 0; i < found; i++) {
                Finding finding = findings[i];
                int head = (int) Math.min(finding.head, MOST_BYTES);
                if (!isHeadSound(finding)) {
                    return note(WRONG_HEAD, head, i);
                }
                if (!areBytesSound(finding)) {
                    return note(WRONG_BYTES, head, i);
                }
            }
            return true;
        }

        private boolean isHeadSound(Finding finding) {
            if (finding.head > directoryPlace - HEAD_LENGTH) {
                return false;
            }
            int head = (int) finding.head;
            Facts facts = finding.facts;
            headFacts.takeFrom(row, head + 4);
            int nameStart = head + HEAD_LENGTH;
            finding.firstByte = nameStart + headFacts.nameLength + headFacts.extraLength;
            boolean mayBeZero = facts.hasTail();
            return finding.firstByte <= directoryPlace
                    && row.hasMark(head, HEAD_MARK)
                    && headFacts.method == facts.method
                    && headFacts.flags == facts.flags
                    && headFacts.nameLength == facts.nameLength
                    && areSame(nameStart, finding.nameStart, facts.nameLength)
                    && agrees(headFacts.check, facts.check, mayBeZero)
                    && agrees(headFacts.byteCount, facts.byteCount, mayBeZero)
                    && agrees(headFacts.size, facts.size, mayBeZero);
        }

        private static boolean agrees(long inHead, long inDirectory, boolean mayBeZero) {
            return inHead == inDirectory || mayBeZero && inHead == 0;
        }

        /** To the letter: a head's name in other letters, small for great, is another one. */
        private boolean areSame(int startA, int startB, int n) {
            for (int i = 0; i < n; i++) {
                if (row.get(startA + i) != row.get(startB + i)) {
                    return false;
                }
            }
            return true;
        }

        private boolean areBytesSound(Finding finding) {
            Facts facts = finding.facts;
            // The limit has been looked at, so the number of bytes is small enough to be an int.
            int behind = finding.firstByte + (int) facts.byteCount;
            finding.end = behind;
            if (!facts.hasTail()) {
                return behind <= directoryPlace;
            }
            int tail = row.hasMark(behind, TAIL_MARK) ? behind + MARK_LENGTH : behind;
            finding.end = tail + TAIL_LENGTH;
            return finding.end <= directoryPlace
                    && row.number(tail, 4) == facts.check
                    && row.number(tail + 4, 4) == facts.byteCount
                    && row.number(tail + 8, 4) == facts.size;
        }

        private boolean examinePlaces() {
            orderByHeads();
            int due = 0;
            for (int i = 0; i < found; i++) {
                Finding finding = findings[order[i]];
                if (finding.head != due) {
                    return note(WRONG_PLACE, due, order[i]);
                }
                due = finding.end;
            }
            return due == directoryPlace || note(WRONG_PLACE, due, NONE);
        }

        /** An entry passes only those with a greater place, so equal ones stay as they were. */
        private void orderByHeads() {
            for (int i = 0; i < found; i++) {
                int slot = i;
                while (slot > 0 && findings[order[slot - 1]].head > findings[i].head) {
                    order[slot] = order[slot - 1];
                    slot--;
                }
                order[slot] = i;
            }
        }

        private boolean examineChecks() {
            for (int i = 0; i < found; i++) {
                Finding finding = findings[i];
                Facts facts = finding.facts;
                if (facts.method == STORED) {
                    int check = checker.checkOf(row, finding.firstByte, (int) facts.byteCount);
                    if (check != (int) facts.check) {
                        return note(WRONG_CHECK, finding.firstByte, i);
                    }
                }
            }
            return true;
        }
    }
}
