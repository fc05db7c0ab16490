import java.io.ByteArrayOutputStream;
import java.math.BigInteger;
import java.nio.ByteBuffer;
import java.util.ArrayList;
import java.util.Arrays;
import java.util.Comparator;
import java.util.List;
import java.util.Locale;

/**
 * A second reading of the document, as plain as the Java library makes it. An exception is answered as its name, and a
 * call that answers nothing answers 0.
 */
final class Model {
    private static final String BAD_INDEX = "IndexOutOfBoundsException";
    private static final String BAD_ARGUMENT = "IllegalArgumentException";
    private static final String BAD_STATE = "IllegalStateException";

    record Part(String name, int method, byte[] bytes, int size, int check) {
    }

    private record Listed(String name, int flags, int method, long check, long number, long size, long head, int at) {
    }

    private record Span(Listed listed, int firstByte, int end) {
    }

    /** Thrown by a look that finds a fault, and caught by read(). */
    private static final class Fault extends RuntimeException {
        private static final long serialVersionUID = 1L;
        final int[] told;

        Fault(long fault, long place, long entry) {
            told = new int[] {(int) fault, (int) place, (int) entry};
        }
    }

    byte[] row = {};
    String name = "";
    List<Part> parts = new ArrayList<>();
    int[] blamed = {0, -1, -1};

    static boolean isName(String name) {
        if (name.length() < 1 || name.length() > 64 || !name.chars().allMatch(c -> c >= 33 && c <= 126 && c != '\\')) {
            return false;
        }
        return Arrays.stream(name.split("/", -1)).noneMatch(List.of("", ".", "..")::contains);
    }

    private static String folded(String name) {
        return name.toLowerCase(Locale.ROOT);
    }

    Object feed(int... words) {
        if (row.length + 20 > 65536) {
            return BAD_STATE;
        }
        ByteBuffer longer = ByteBuffer.allocate(row.length + 20).put(row);
        Arrays.stream(words).forEach(longer::putInt);
        row = longer.array();
        return 0;
    }

    Object end(int n) {
        if (n < 0 || n > row.length) {
            return BAD_ARGUMENT;
        }
        row = Arrays.copyOf(row, n);
        return 0;
    }

    Object alter(int i, int b) {
        if (i < 0 || i >= row.length) {
            return BAD_INDEX;
        }
        if (b < 0 || b > 255) {
            return BAD_ARGUMENT;
        }
        row[i] = (byte) b;
        return 0;
    }

    Object byteAt(int i) {
        return i < 0 || i >= row.length ? BAD_INDEX : (Object) Byte.toUnsignedInt(row[i]);
    }

    Object type(int word) {
        String more = Due.text(ByteBuffer.allocate(4).putInt(word).array()).replace("\0", "");
        if (!more.chars().allMatch(c -> c >= 33 && c <= 126)) {
            return BAD_ARGUMENT;
        }
        if (name.length() + more.length() > 64) {
            return BAD_STATE;
        }
        name += more;
        return name.length();
    }

    private boolean has(int entry) {
        return entry >= 0 && entry < parts.size();
    }

    Object remove(int entry) {
        if (!has(entry)) {
            return BAD_INDEX;
        }
        parts.remove(entry);
        return 0;
    }

    Object move(int entry, int to) {
        if (!has(entry) || !has(to)) {
            return BAD_INDEX;
        }
        parts.add(to, parts.remove(entry));
        return 0;
    }

    Object about(int entry, int what) {
        if (!has(entry)) {
            return BAD_INDEX;
        }
        Part p = parts.get(entry);
        int[] told = {p.method, p.bytes.length, p.size, p.check, p.name.length()};
        return what < 0 || what >= told.length ? BAD_ARGUMENT : (Object) told[what];
    }

    Object name(int entry, int k) {
        if (!has(entry)) {
            return BAD_INDEX;
        }
        String letters = parts.get(entry).name;
        return k < 0 || k >= letters.length() ? -1 : (int) letters.charAt(k);
    }

    Object part(int entry, int i) {
        if (!has(entry) || i < 0 || i >= parts.get(entry).bytes.length) {
            return BAD_INDEX;
        }
        return Byte.toUnsignedInt(parts.get(entry).bytes[i]);
    }

    Object blame(int what) {
        return what < 0 || what >= blamed.length ? BAD_ARGUMENT : (Object) blamed[what];
    }

    int bytesInAll() {
        return parts.stream().mapToInt(p -> p.bytes.length).sum();
    }

    int find() {
        for (int i = 0; i < parts.size(); i++) {
            if (folded(parts.get(i).name).equals(folded(name))) {
                return i;
            }
        }
        return -1;
    }

    Object add(int method, int size, int check) {
        if (!isName(name) || find() >= 0 || size < 0) {
            return BAD_ARGUMENT;
        }
        if (parts.size() == 64 || row.length + bytesInAll() > 65536) {
            return BAD_STATE;
        }
        parts.add(new Part(name, method, row.clone(), size, check));
        return parts.size() - 1;
    }

    Object write() {
        ByteArrayOutputStream entries = new ByteArrayOutputStream();
        ByteArrayOutputStream directory = new ByteArrayOutputStream();
        for (Part p : parts) {
            byte[] head = facts(p);
            String place = little(entries.size(), 4);
            entries.writeBytes(hex("504B0304"));
            entries.writeBytes(head);
            entries.writeBytes(Due.latin(p.name));
            entries.writeBytes(p.bytes);
            directory.writeBytes(hex("504B01021400"));
            directory.writeBytes(head);
            directory.writeBytes(hex("0000" + "0000" + "0000" + "00000000" + place));
            directory.writeBytes(Due.latin(p.name));
        }
        int at = entries.size();
        entries.writeBytes(directory.toByteArray());
        String count = little(parts.size(), 2);
        entries.writeBytes(hex("504B050600000000" + count + count + little(directory.size(), 4) + little(at, 4) + "0000"));
        if (entries.size() > 65536) {
            return BAD_STATE;
        }
        row = entries.toByteArray();
        return row.length;
    }

    private static byte[] facts(Part p) {
        return hex("14000000" + little(p.method, 2) + "00000000" + little(p.check, 4) + little(p.bytes.length, 4)
                + little(p.size, 4) + little(p.name.length(), 2) + "0000");
    }

    private static String little(int number, int width) {
        StringBuilder text = new StringBuilder();
        for (int k = 0; k < width; k++) {
            text.append(String.format("%02X", number >> 8 * k & 255));
        }
        return text.toString();
    }

    private static byte[] hex(String text) {
        return java.util.HexFormat.of().parseHex(text);
    }

    Object read(int limit) {
        if (limit < 0 || limit > 65536) {
            return BAD_ARGUMENT;
        }
        try {
            parts = reading(limit);
            blamed = new int[] {0, -1, -1};
        } catch (Fault fault) {
            blamed = fault.told;
        }
        return blamed[0];
    }

    private long number(long at, int width) {
        byte[] bytes = Arrays.copyOfRange(row, (int) at, (int) at + width);
        for (int i = 0; i < width / 2; i++) {
            byte kept = bytes[i];
            bytes[i] = bytes[width - 1 - i];
            bytes[width - 1 - i] = kept;
        }
        return new BigInteger(1, bytes).longValueExact();
    }

    private boolean stands(long at, int... bytes) {
        for (int i = 0; i < bytes.length; i++) {
            if (at + i >= row.length || (row[(int) at + i] & 255) != bytes[i]) {
                return false;
            }
        }
        return true;
    }

    private String text(long at, long n) {
        StringBuilder text = new StringBuilder();
        for (long i = at; i < at + n; i++) {
            text.append((char) (row[(int) i] & 255));
        }
        return text.toString();
    }

    private List<Part> reading(int limit) {
        int end = -1;
        for (int at = 0; at + 22 <= row.length; at++) {
            if (stands(at, 80, 75, 5, 6) && at + 22 + number(at + 20, 2) == row.length) {
                end = at;
            }
        }
        if (end < 0) {
            throw new Fault(1, row.length, -1);
        }
        long count = number(end + 8, 2);
        long directory = number(end + 16, 4);
        if (number(end + 4, 2) != 0 || number(end + 6, 2) != 0 || count != number(end + 10, 2) || count > 64
                || directory + number(end + 12, 4) != end) {
            throw new Fault(2, end, -1);
        }
        List<Listed> listed = listing(directory, end, count, limit);
        List<Span> spans = new ArrayList<>();
        for (int i = 0; i < count; i++) {
            spans.add(span(listed.get(i), i, directory));
        }
        lookAtPlaces(spans, directory);
        List<Part> found = new ArrayList<>();
        for (int i = 0; i < count; i++) {
            Span s = spans.get(i);
            byte[] bytes = Arrays.copyOfRange(row, s.firstByte, s.firstByte + (int) s.listed.number);
            if (s.listed.method == 0 && Container.crc(bytes) != s.listed.check) {
                throw new Fault(11, s.firstByte, i);
            }
            found.add(new Part(s.listed.name, s.listed.method, bytes, (int) s.listed.size, (int) s.listed.check));
        }
        return found;
    }

    private List<Listed> listing(long directory, int end, long count, int limit) {
        List<Listed> listed = new ArrayList<>();
        long at = directory;
        for (int i = 0; i < count; i++) {
            if (at + 46 > end || !stands(at, 80, 75, 1, 2)
                    || at + 46 + number(at + 28, 2) + number(at + 30, 2) + number(at + 32, 2) > end) {
                throw new Fault(3, at, i);
            }
            Listed one = new Listed(text(at + 46, number(at + 28, 2)), (int) number(at + 8, 2), (int) number(at + 10, 2),
                    number(at + 16, 4), number(at + 20, 4), number(at + 24, 4), number(at + 42, 4), (int) at);
            if (!List.of(0, 8, 2048, 2056).contains(one.flags) || !List.of(0, 8).contains(one.method)
                    || number(at + 34, 2) != 0) {
                throw new Fault(4, at, i);
            }
            if (!isName(one.name) || listed.stream().anyMatch(l -> folded(l.name).equals(folded(one.name)))) {
                throw new Fault(5, at, i);
            }
            if (one.method == 0 && one.number != one.size) {
                throw new Fault(6, at, i);
            }
            listed.add(one);
            if (listed.stream().mapToLong(Listed::number).sum() > limit
                    || listed.stream().mapToLong(Listed::size).sum() > limit) {
                throw new Fault(9, at, i);
            }
            at += 46 + number(at + 28, 2) + number(at + 30, 2) + number(at + 32, 2);
        }
        if (at != end) {
            throw new Fault(3, at, -1);
        }
        return listed;
    }

    private Span span(Listed l, int entry, long directory) {
        long h = l.head;
        long place = Math.min(h, 65536);
        if (h + 30 > directory || h + 30 + number(h + 26, 2) + number(h + 28, 2) > directory) {
            throw new Fault(7, place, entry);
        }
        boolean tail = l.flags % 16 == 8;
        List<Long> due = List.of(l.check, l.number, l.size);
        boolean same = stands(h, 80, 75, 3, 4) && number(h + 6, 2) == l.flags && number(h + 8, 2) == l.method
                && text(h + 30, number(h + 26, 2)).equals(l.name);
        for (int k = 0; k < 3; k++) {
            long said = number(h + 14 + 4 * k, 4);
            same &= said == due.get(k) || tail && said == 0;
        }
        if (!same) {
            throw new Fault(7, place, entry);
        }
        long first = h + 30 + number(h + 26, 2) + number(h + 28, 2);
        long behind = first + l.number;
        if (tail) {
            long from = behind + (stands(behind, 80, 75, 7, 8) ? 4 : 0);
            behind = from + 12;
            for (int k = 0; k < 3 && behind <= directory; k++) {
                if (number(from + 4 * k, 4) != due.get(k)) {
                    throw new Fault(8, place, entry);
                }
            }
        }
        if (behind > directory) {
            throw new Fault(8, place, entry);
        }
        return new Span(l, (int) first, (int) behind);
    }

    private static void lookAtPlaces(List<Span> spans, long directory) {
        List<Span> sorted = new ArrayList<>(spans);
        sorted.sort(Comparator.comparingLong(s -> s.listed.head));
        int due = 0;
        for (Span s : sorted) {
            if (s.listed.head != due) {
                throw new Fault(10, due, spans.indexOf(s));
            }
            due = s.end;
        }
        if (due != directory) {
            throw new Fault(10, due, -1);
        }
    }
}
