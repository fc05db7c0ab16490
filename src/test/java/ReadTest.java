/** Promises 18 and 19: reading, and what is told of it. */
public final class ReadTest {
    private static final int NONE = PartBox.NONE;

    private ReadTest() {
    }

    public static void main(String[] args) {
        arguments();
        roundTrip();
        allThatIsAllowed();
        theEnd();
        theEndAmongOthers();
        theDirectory();
        theDirectoryNames();
        theDirectorysEnd();
        limits();
        heads();
        zeroInHeads();
        bytesAndTails();
        places();
        checks();
        orderOfLooks();
        Due.finish();
    }

    /** Entries a (abc) and b/c (hi): heads at 0 and 34, directory at 69, its second head at 116, end at 165. */
    private static PartBox plain() {
        PartBox x = new PartBox();
        Due.add(x, "a", "abc");
        Due.add(x, "b/c", "hi");
        x.write();
        x.remove(1);
        return x;
    }

    /** Places and new bytes by turns are put into the plain row; then reading must tell this fault. */
    private static void fault(String what, int fault, int place, int entry, int... altered) {
        PartBox x = plain();
        for (int i = 0; i < altered.length; i += 2) {
            x.alter(altered[i], altered[i + 1]);
        }
        byte[] before = Due.row(x);
        Due.readIs(x, what, 9, fault, place, entry);
        Due.is(what + ": the row stays", Due.row(x), before);
        Due.is(what + ": the box", x.count(), fault == 0 ? 2 : 1);
        Due.entryIs(x, 0, "a", 0, "abc");
    }

    private static void sound(String what, int... altered) {
        fault(what, 0, NONE, NONE, altered);
    }

    private static PartBox load(byte[] row) {
        PartBox x = new PartBox();
        Due.load(x, row);
        return x;
    }

    private static void put(byte[] row, int at, long number, int width) {
        for (int k = 0; k < width; k++) {
            row[at + k] = (byte) (number >> 8 * k);
        }
    }

    private static void arguments() {
        PartBox x = plain();
        x.alter(31, 'x');
        x.read(9);
        Due.badArgument("read(-1)", () -> x.read(-1));
        Due.badArgument("read(65537)", () -> x.read(65537));
        Due.badArgument("read(least)", () -> x.read(Integer.MIN_VALUE));
        Due.badArgument("read(greatest)", () -> x.read(Integer.MAX_VALUE));
        Due.blameIs(x, "a throw changes nothing", 11, 31, 0);
        Due.badArgument("blame(3)", () -> x.blame(3));
        Due.badArgument("blame(-1)", () -> x.blame(-1));
        x.alter(31, 'a');
        Due.readIs(x, "the last read counts", 65536, 0, NONE, NONE);
        x.alter(165, 0);
        x.read(0);
        x.write();
        x.remove(0);
        Due.blameIs(x, "other calls do not count", 1, 187, NONE);
    }

    private static void roundTrip() {
        PartBox x = new PartBox();
        Due.add(x, "one", "\u0000\u00FFabc");
        Due.addPacked(x, "TWO", "zz", 60000, -5);
        Due.add(x, "t/h/r/e/e", "");
        x.write();
        x.move(0, 2);
        x.remove(0);
        Due.call(x, "kept");
        Due.readIs(x, "round trip", 65536, 0, NONE, NONE);
        Due.is("count()", x.count(), 3);
        Due.entryIs(x, 0, "one", 0, "\u0000\u00FFabc");
        Due.is("check", x.about(0, 3), (int) Container.crc(Due.latin("\u0000\u00FFabc")));
        Due.entryIs(x, 1, "TWO", 8, "zz");
        Due.is("size", x.about(1, 2), 60000);
        Due.is("check", x.about(1, 3), -5);
        Due.entryIs(x, 2, "t/h/r/e/e", 0, "");
        Due.is("the name stays", x.type(0), 4);
        x.end(0);
        Due.readIs(x, "no row", 0, 1, 0, NONE);
        Due.is("the box stays", x.count(), 3);
    }

    private static void allThatIsAllowed() {
        Container c = new Container();
        c.stored("s", "abc").tail(true, true).flags |= 2048;
        c.stored("S2", "defg").tail(false, false).headExtra = new byte[] {1, 2, 3};
        c.packed("p", "PK\u0007\u0008", 9, 0xFFFFFFFFL).directoryExtra = new byte[] {80, 75, 1, 2};
        c.items.get(2).comment = Due.latin("PK\u0001\u0002 a comment");
        c.packed("empty", "", 0, 1).tail(true, false);
        c.directoryOrder = java.util.List.of(3, 1, 0, 2);
        c.comment = Due.latin("behind all of it");
        PartBox x = load(c.build());
        Due.readIs(x, "all that is allowed", 16, 0, NONE, NONE);
        Due.is("count()", x.count(), 4);
        Due.entryIs(x, 0, "empty", 8, "");
        Due.entryIs(x, 1, "S2", 0, "defg");
        Due.entryIs(x, 2, "s", 0, "abc");
        Due.entryIs(x, 3, "p", 8, "PK\u0007\u0008");
        Due.is("size", x.about(3, 2), 9);
        Due.is("check", x.about(3, 3), -1);
        Due.is("written plainly", x.write(), 4 * 76 + 2 * 9 + 11 + 22);
    }

    private static void theEnd() {
        sound("as written");
        fault("first byte", 1, 187, NONE, 165, 81);
        fault("second byte", 1, 187, NONE, 166, 74);
        fault("third byte", 1, 187, NONE, 167, 4);
        fault("fourth byte", 1, 187, NONE, 168, 5);
        fault("a comment that is not there", 1, 187, NONE, 185, 1);
        fault("a comment that is far too long", 1, 187, NONE, 186, 255);
        fault("disk", 2, 165, NONE, 169, 1);
        fault("disk's high byte", 2, 165, NONE, 170, 1);
        fault("other disk", 2, 165, NONE, 171, 1);
        fault("other disk's high byte", 2, 165, NONE, 172, 128);
        fault("entries here", 2, 165, NONE, 173, 1);
        fault("entries in all", 2, 165, NONE, 175, 3);
        fault("entries' high byte", 2, 165, NONE, 174, 1, 176, 1);
        fault("65 entries", 2, 165, NONE, 173, 65, 175, 65);
        fault("64 entries, but two heads", 3, 165, 2, 173, 64, 175, 64);
        fault("directory's length", 2, 165, NONE, 177, 95);
        fault("directory's place", 2, 165, NONE, 181, 70);
        fault("32 bits do not wrap", 2, 165, NONE, 177, 97, 181, 68, 184, 1);
        fault("nor these", 2, 165, NONE, 177, 166, 181, 255, 182, 255, 183, 255, 184, 255);
        Due.readIs(load(new byte[21]), "21 bytes", 0, 1, 21, NONE);
        byte[] mark = new byte[22];
        put(mark, 0, 0x06054B50, 4);
        Due.readIs(load(mark), "22 bytes", 0, 0, NONE, NONE);
        byte[] cutOff = new byte[21];
        put(cutOff, 0, 0x06054B50, 4);
        Due.readIs(load(cutOff), "a byte short", 0, 1, 21, NONE);
    }

    private static void theEndAmongOthers() {
        Container c = new Container();
        c.stored("a", "abc");
        c.comment = new byte[40];
        put(c.comment, 0, 0x06054B50, 4);
        put(c.comment, 20, 17, 2);
        Due.readIs(load(c.build()), "one in a comment that does not fit", 9, 0, NONE, NONE);
        put(c.comment, 20, 18, 2);
        byte[] row = c.build();
        Due.readIs(load(row), "the last one that fits", 9, 2, c.end + 22, NONE);
        put(row, c.end + 22 + 16, c.end + 22, 4);
        Due.readIs(load(row), "the last one, with no entries", 9, 10, 0, NONE);
    }

    private static void theDirectory() {
        fault("first byte", 3, 69, 0, 69, 81);
        fault("fourth byte", 3, 69, 0, 72, 3);
        fault("second head", 3, 116, 1, 116, 0);
        fault("name beyond the end", 3, 116, 1, 144, 4);
        fault("extra beyond the end", 3, 116, 1, 146, 1);
        fault("comment beyond the end", 3, 116, 1, 148, 1);
        fault("lengths far beyond", 3, 69, 0, 97, 255, 98, 255, 99, 255, 100, 255, 101, 255, 102, 255);
        fault("a third head is not there", 3, 165, 2, 173, 3, 175, 3);
        for (int bit = 0; bit < 16; bit++) {
            boolean tail = bit == 3;
            boolean allowed = bit == 11;
            int at = 77 + bit / 8;
            // With flag 8 in the directory alone, it is the head that has other flags.
            fault("flag " + bit, tail || allowed ? 7 : 4, tail || allowed ? 0 : 69, 0, at, 1 << bit % 8);
        }
        sound("flag 2048 in both", 78, 8, 7, 8);
        for (int method : new int[] {1, 7, 9, 12, 255}) {
            fault("method " + method, 4, 69, 0, 79, method);
        }
        fault("method's high byte", 4, 116, 1, 127, 1);
        fault("disk", 4, 69, 0, 103, 1);
        fault("disk's high byte", 4, 116, 1, 151, 1);
        fault("bytes of a stored one", 6, 69, 0, 89, 2);
        fault("size of a stored one", 6, 116, 1, 140, 3);
        fault("size's high byte", 6, 116, 1, 143, 128);
        sound("versions, times and attributes", 73, 9, 75, 9, 81, 9, 84, 9, 105, 9, 110, 9, 4, 9, 10, 9);
    }

    private static void theDirectoryNames() {
        for (int letter : new int[] {0, 10, 32, 127, 128, 255, '\\', '/', '.'}) {
            fault("name " + letter, 5, 69, 0, 115, letter, 30, letter);
        }
        for (int letter : new int[] {33, 126, '@', 'Z'}) {
            PartBox x = plain();
            x.alter(30, letter);
            x.alter(115, letter);
            Due.readIs(x, "name " + letter, 9, 0, NONE, NONE);
            Due.is("name", x.name(0, 0), letter);
        }
        fault("an empty piece", 5, 116, 1, 162, '/', 64, '/');
        fault("a dot", 5, 116, 1, 162, '.', 64, '.');
        sound("three dots", 162, '.', 163, '.', 164, '.', 64, '.', 65, '.', 66, '.');
        fault("no letters", 5, 69, 0, 97, 0);
        named("a name of 64", "n".repeat(64), "b", 0, NONE);
        named("a name of 65", "n".repeat(65), "b", 5, 0);
        named("the same name", "same", "same", 5, 1);
        named("in other letters", "sAme", "SaMe", 5, 1);
        named("not letters", "a@[", "a`{", 0, NONE);
        named("longer", "same", "samer", 0, NONE);
    }

    private static void named(String what, String first, String second, int fault, int entry) {
        Container c = new Container();
        c.stored(first, "1");
        c.stored(second, "2");
        PartBox x = load(c.build());
        int place = entry == NONE ? NONE : c.items.get(entry).directoryHead;
        Due.readIs(x, what, 9, fault, place, entry);
    }

    private static void theDirectorysEnd() {
        fault("one head of two", 3, 116, NONE, 173, 1, 175, 1);
        fault("none of two", 3, 69, NONE, 173, 0, 175, 0);
        fault("none, but for a directory", 10, 0, NONE, 173, 0, 175, 0, 177, 0, 181, 165);
    }

    private static void limits() {
        PartBox x = plain();
        Due.readIs(x, "bytes at the limit", 5, 0, NONE, NONE);
        Due.readIs(x, "bytes above it", 4, 9, 116, 1);
        Due.readIs(x, "the first above it", 2, 9, 69, 0);
        Due.readIs(x, "limit 0", 0, 9, 69, 0);
        Container c = new Container();
        c.packed("a", "abcd", 3, 0);
        c.packed("b", "xyz", 5, 0);
        PartBox y = load(c.build());
        Due.readIs(y, "sizes at the limit", 8, 0, NONE, NONE);
        Due.readIs(y, "sizes above it", 7, 9, c.items.get(1).directoryHead, 1);
        Due.readIs(y, "bytes alone above it", 3, 9, c.items.get(0).directoryHead, 0);
        c.items.get(0).size = 0x80000000L;
        Due.readIs(load(c.build()), "a size without a sign", 65536, 9, c.items.get(0).directoryHead, 0);
        c.items.get(0).size = 0xFFFFFFFFL;
        Due.readIs(load(c.build()), "the greatest size", 65536, 9, c.items.get(0).directoryHead, 0);
        c.items.get(0).size = 65535;
        c.items.get(1).size = 1;
        Due.readIs(load(c.build()), "65536 in all", 65536, 0, NONE, NONE);
        c.items.get(1).size = 2;
        Due.readIs(load(c.build()), "65537 in all", 65536, 9, c.items.get(1).directoryHead, 1);
        c.items.get(1).size = 0xFFFFFFFFL;
        Due.readIs(load(c.build()), "sums do not wrap", 65536, 9, c.items.get(1).directoryHead, 1);
        fault("bytes without a sign", 9, 69, 0, 92, 255, 96, 255);
    }

    private static void heads() {
        fault("first byte", 7, 0, 0, 0, 81);
        fault("fourth byte of the second", 7, 34, 1, 37, 5);
        fault("flags", 7, 0, 0, 7, 8);
        fault("method", 7, 34, 1, 42, 8);
        fault("check", 7, 0, 0, 17, 0);
        fault("bytes", 7, 34, 1, 52, 1);
        fault("size", 7, 34, 1, 56, 3);
        fault("zero without a tail", 7, 34, 1, 56, 0);
        fault("name", 7, 34, 1, 66, 'd');
        fault("name in great letters", 7, 34, 1, 66, 'C');
        fault("name's length", 7, 34, 1, 60, 2);
        fault("place of no head", 7, 1, 0, 111, 1);
        fault("place of another head", 7, 34, 0, 111, 34);
        fault("30 bytes before the directory", 7, 39, 0, 111, 39);
        fault("29 bytes before it", 7, 40, 0, 111, 40);
        fault("in the directory", 7, 69, 0, 111, 69);
        fault("at 65535", 7, 65535, 0, 111, 255, 112, 255);
        fault("at 65536", 7, 65536, 0, 113, 1);
        fault("at 65537", 7, 65536, 0, 111, 1, 113, 1);
        fault("at the greatest place", 7, 65536, 1, 158, 255, 159, 255, 160, 255, 161, 255);
        fault("extra up to the directory", 8, 34, 1, 62, 2);
        fault("extra beyond the directory", 7, 34, 1, 62, 3);
        fault("extra far beyond", 7, 34, 1, 62, 255, 63, 255, 61, 255);
        Container c = new Container();
        c.packed("a", "", 0, 0).headExtra = new byte[5];
        byte[] row = c.build();
        Due.readIs(load(row), "extra just before the directory", 0, 0, NONE, NONE);
        put(row, 28, 6, 2);
        Due.readIs(load(row), "extra one beyond", 0, 7, 0, 0);
    }

    private static void zeroInHeads() {
        for (int some = 0; some < 8; some++) {
            Container c = new Container();
            Container.Item item = c.packed("a", "abc", 7, 5).tail(false, true);
            byte[] row = c.build();
            for (int k = 0; k < 3; k++) {
                if ((some >> k & 1) != 0) {
                    put(row, item.head + 14 + 4 * k, 0, 4);
                }
            }
            Due.readIs(load(row), "zeros " + some, 9, 0, NONE, NONE);
            for (int k = 0; k < 3; k++) {
                byte[] other = row.clone();
                put(other, item.head + 14 + 4 * k, 9, 4);
                Due.readIs(load(other), "zeros " + some + ", but " + k, 9, 7, 0, 0);
                put(other, item.head + 14 + 4 * k, 0x05000000, 4);
                Due.readIs(load(other), "high byte of " + k, 9, 7, 0, 0);
            }
        }
    }

    private static void bytesAndTails() {
        fault("bytes beyond the directory", 8, 34, 1, 52, 3, 56, 3, 136, 3, 140, 3);
        for (boolean marked : new boolean[] {false, true}) {
            String what = marked ? "marked: " : "bare: ";
            Container c = new Container();
            c.packed("a", "abc", 7, 5).tail(true, marked);
            Container.Item item = c.packed("b", "xyz", 2, 0x01020304).tail(true, marked);
            byte[] row = c.build();
            Due.readIs(load(row), what, 9, 0, NONE, NONE);
            for (int k = 0; k < 12; k++) {
                byte[] other = row.clone();
                other[item.tail + k] ^= 64;
                Due.readIs(load(other), what + "tail's byte " + k, 9, 8, item.head, 1);
            }
            byte[] zero = row.clone();
            put(zero, item.tail + 8, 0, 4);
            Due.readIs(load(zero), what + "no zero in a tail", 9, 8, item.head, 1);
            byte[] longer = row.clone();
            put(longer, item.directoryHead + 20, 4, 4);
            Due.readIs(load(longer), what + "tail beyond the directory", 9, 8, item.head, 1);
        }
        Container noTail = new Container();
        Container.Item item = noTail.packed("a", "abc", 7, 5);
        byte[] row = noTail.build();
        row[item.head + 6] = 8;
        row[item.directoryHead + 8] = 8;
        Due.readIs(load(row), "no tail at all", 9, 8, 0, 0);
        tailsLikeMarks();
    }

    private static void tailsLikeMarks() {
        Container c = new Container();
        Container.Item item = c.packed("a", "abc", 7, 0x08074B50).tail(true, false);
        Due.readIs(load(c.build()), "a check like the mark, bare", 9, 8, 0, 0);
        item.markedTail = true;
        Due.readIs(load(c.build()), "a check like the mark, marked", 9, 0, NONE, NONE);
    }

    private static void places() {
        Container c = new Container();
        c.packed("a", "", 0, 0);
        c.packed("b", "", 0, 0).tail(true, true);
        c.packed("c", "", 0, 0);
        c.directoryOrder = java.util.List.of(2, 0, 1);
        Due.readIs(load(c.build()), "another order", 9, 0, NONE, NONE);
        c.directoryOrder = java.util.List.of(2, 0);
        Due.readIs(load(c.build()), "a gap between", 9, 10, 31, 0);
        c.directoryOrder = java.util.List.of(2, 1);
        Due.readIs(load(c.build()), "a gap before", 9, 10, 0, 1);
        c.directoryOrder = java.util.List.of(1, 0);
        Due.readIs(load(c.build()), "a gap behind", 9, 10, 31 + 31 + 16, NONE);
        c.directoryOrder = java.util.List.of();
        Due.readIs(load(c.build()), "nothing but a gap", 9, 10, 0, NONE);
        withinAnother();
        byte[] emptyWithGap = new byte[23];
        put(emptyWithGap, 1, 0x06054B50, 4);
        put(emptyWithGap, 17, 1, 4);
        Due.readIs(load(emptyWithGap), "one byte before an empty directory", 9, 10, 0, NONE);
    }

    private static void withinAnother() {
        Container inner = new Container();
        inner.packed("b", "", 0, 0);
        byte[] head = java.util.Arrays.copyOf(inner.build(), 31);
        Container outer = new Container();
        outer.packed("a", new String(head, java.nio.charset.StandardCharsets.ISO_8859_1), 0, 0);
        outer.packed("b", "", 0, 0);
        byte[] row = outer.build();
        put(row, outer.items.get(1).directoryHead + 42, 31, 4);
        Due.readIs(load(row), "a head in another one's bytes", 99, 10, 62, 1);
    }

    private static void checks() {
        fault("a byte of the first", 11, 31, 0, 33, 'x');
        fault("a byte of the second", 11, 67, 1, 67, 'x');
        fault("the first of both", 11, 31, 0, 31, 'x', 67, 'x');
        fault("checks that agree, but not with the bytes", 11, 67, 1, 48, 0, 132, 0);
        Container c = new Container();
        c.stored("none", "");
        c.stored("tail", "abc").tail(true, true);
        c.packed("packed", "abc", 3, 1);
        c.directoryOrder = java.util.List.of(2, 1, 0);
        byte[] row = c.build();
        Due.readIs(load(row), "packed ones are not checked", 9, 0, NONE, NONE);
        row[c.items.get(1).firstByte + 2] ^= 1;
        Due.readIs(load(row), "with a tail", 9, 11, c.items.get(1).firstByte, 1);
        c.items.get(0).check = 1;
        Due.readIs(load(c.build()), "a check of no bytes", 9, 11, c.items.get(0).firstByte, 2);
    }

    private static void orderOfLooks() {
        fault("2 before 3", 2, 165, NONE, 169, 1, 69, 0);
        fault("3 before 4", 3, 69, 0, 69, 0, 79, 9);
        fault("4 before 5", 4, 69, 0, 79, 9, 115, '/');
        fault("5 before 6", 5, 69, 0, 115, '/', 89, 9);
        fault("6 before 9", 6, 69, 0, 89, 99);
        fault("9 of the first before 3 of the second", 9, 69, 0, 89, 99, 93, 99, 116, 0);
        fault("6 of the first before 4 of the second", 6, 69, 0, 89, 2, 126, 9);
        fault("9 before 3 at the directory's end", 9, 116, 1, 136, 99, 140, 99, 144, 1);
        fault("3 at the directory's end before 7", 3, 163, NONE, 144, 1, 0, 0);
        fault("7 of the first before 7 of the second", 7, 0, 0, 0, 0, 34, 0);
        fault("7 before 8", 7, 34, 1, 34, 0, 52, 3, 56, 3, 136, 3, 140, 3);
        fault("8 of the second before 10", 8, 34, 1, 52, 3, 56, 3, 136, 3, 140, 3);
        Container c = new Container();
        c.stored("a", "abc").tail(true, true);
        c.stored("b", "abc");
        byte[] row = c.build();
        row[c.items.get(0).tail] ^= 1;
        row[c.items.get(1).head] ^= 1;
        Due.readIs(load(row), "8 of the first before 7 of the second", 9, 8, 0, 0);
        c.directoryOrder = java.util.List.of(1);
        row = c.build();
        row[c.items.get(1).firstByte] ^= 1;
        Due.readIs(load(row), "10 before 11", 9, 10, 0, 0);
    }
}
