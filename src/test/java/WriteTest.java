import java.util.Arrays;

/** Promise 17: the box, written, byte for byte. Each test quotes the words that it holds to. */
public final class WriteTest {
    private static final int FULL = 65536;

    private WriteTest() {
    }

    public static void main(String[] args) {
        emptyBox();
        storedAndPacked();
        anEntryWithoutBytes();
        greatestNumbers();
        theRowBecomesTheBox();
        nothingElseChanges();
        inTheOrderOfTheBox();
        justFull();
        oneByteTooMany();
        fullOfBytes();
        fullOfHeads();
        withoutTails();
        Due.finish();
    }

    private static byte[] bytes(int... numbers) {
        byte[] bytes = new byte[numbers.length];
        for (int i = 0; i < numbers.length; i++) {
            bytes[i] = (byte) numbers[i];
        }
        return bytes;
    }

    /** "Then the END": of an empty box it is all. */
    private static void emptyBox() {
        PartBox x = new PartBox();
        Due.is("write()", x.write(), 22);
        Due.is("empty", Due.row(x), bytes(80, 75, 5, 6, 0, 0, 0, 0, 0, 0, 0, 0, 0, 0, 0, 0, 0, 0, 0, 0, 0, 0));
    }

    private static PartBox two() {
        PartBox x = new PartBox();
        Due.add(x, "a", "123456789");
        Due.addPacked(x, "b/c", "PQ", 0x01020304, 0xF1F2F3F4);
        return x;
    }

    /** "version and that of the maker 20; flags 0; time, attributes, disks 0; nothing extra, no comments." */
    private static void storedAndPacked() {
        PartBox x = two();
        byte[] want = bytes(
            80, 75, 3, 4, 20, 0, 0, 0, 0, 0, 0, 0, 0, 0, 0x26, 0x39, 0xF4, 0xCB, 9, 0, 0, 0, 9, 0, 0, 0, 1, 0, 0, 0,
            'a', '1', '2', '3', '4', '5', '6', '7', '8', '9',
            80, 75, 3, 4, 20, 0, 0, 0, 8, 0, 0, 0, 0, 0, 0xF4, 0xF3, 0xF2, 0xF1, 2, 0, 0, 0, 4, 3, 2, 1, 3, 0, 0, 0,
            'b', '/', 'c', 'P', 'Q',
            80, 75, 1, 2, 20, 0, 20, 0, 0, 0, 0, 0, 0, 0, 0, 0, 0x26, 0x39, 0xF4, 0xCB, 9, 0, 0, 0, 9, 0, 0, 0,
            1, 0, 0, 0, 0, 0, 0, 0, 0, 0, 0, 0, 0, 0, 0, 0, 0, 0, 'a',
            80, 75, 1, 2, 20, 0, 20, 0, 0, 0, 8, 0, 0, 0, 0, 0, 0xF4, 0xF3, 0xF2, 0xF1, 2, 0, 0, 0, 4, 3, 2, 1,
            3, 0, 0, 0, 0, 0, 0, 0, 0, 0, 0, 0, 0, 0, 40, 0, 0, 0, 'b', '/', 'c',
            80, 75, 5, 6, 0, 0, 0, 0, 2, 0, 2, 0, 96, 0, 0, 0, 75, 0, 0, 0, 0, 0);
        Due.is("write()", x.write(), want.length);
        Due.is("two entries", Due.row(x), want);
        Due.is("write() again", x.write(), want.length);
        Due.is("two entries again", Due.row(x), want);
    }

    /** "its name, what is extra; its bytes": of which there may be none. */
    private static void anEntryWithoutBytes() {
        PartBox x = new PartBox();
        Due.add(x, "z", "");
        Due.is("write()", x.write(), 100);
        Due.is("without bytes", Due.row(x), bytes(
            80, 75, 3, 4, 20, 0, 0, 0, 0, 0, 0, 0, 0, 0, 0, 0, 0, 0, 0, 0, 0, 0, 0, 0, 0, 0, 1, 0, 0, 0, 'z',
            80, 75, 1, 2, 20, 0, 20, 0, 0, 0, 0, 0, 0, 0, 0, 0, 0, 0, 0, 0, 0, 0, 0, 0, 0, 0, 0, 0,
            1, 0, 0, 0, 0, 0, 0, 0, 0, 0, 0, 0, 0, 0, 0, 0, 0, 0, 'z',
            80, 75, 5, 6, 0, 0, 0, 0, 1, 0, 1, 0, 47, 0, 0, 0, 31, 0, 0, 0, 0, 0));
    }

    /** "4 check; 4 the number of its bytes; 4 size": all 32 bits of them, the lowest byte first. */
    private static void greatestNumbers() {
        PartBox x = new PartBox();
        Due.addPacked(x, "p", "", Integer.MAX_VALUE, Integer.MIN_VALUE);
        Due.addPacked(x, "q", "", 0, -1);
        x.write();
        byte[] row = Due.row(x);
        Due.is("check and size in the head", Arrays.copyOfRange(row, 14, 26), bytes(0, 0, 0, 128, 0, 0, 0, 0, 255, 255, 255, 127));
        Due.is("and in the directory", Arrays.copyOfRange(row, 78, 90), bytes(0, 0, 0, 128, 0, 0, 0, 0, 255, 255, 255, 127));
        Due.is("the second's", Arrays.copyOfRange(row, 45, 57), bytes(255, 255, 255, 255, 0, 0, 0, 0, 0, 0, 0, 0));
    }

    /** "The row becomes the box, written": of the row before, shorter or longer, nothing is left. */
    private static void theRowBecomesTheBox() {
        PartBox x = two();
        int length = x.write();
        byte[] want = Due.row(x);
        for (int n : new int[] {0, 1, length - 1, length, length + 1, FULL}) {
            byte[] before = new byte[n];
            Arrays.fill(before, (byte) -1);
            Due.load(x, before);
            Due.is("write() over " + n + " bytes", x.write(), length);
            Due.is("nothing is left of them", Due.row(x), want);
        }
    }

    /** "The row becomes the box, written": the box, the name and what is told of the last read() stay. */
    private static void nothingElseChanges() {
        PartBox x = two();
        x.read(0);
        Due.call(x, "A");
        int[] box = Due.box(x);
        x.write();
        Due.isTrue("the box stays", Arrays.equals(box, Due.box(x)));
        Due.is("the name stays", x.find(), 0);
        Due.is("its length", x.type(0), 1);
        Due.blameIs(x, "as before", 1, 2, PartBox.NONE);
    }

    /** "entries in order". */
    private static void inTheOrderOfTheBox() {
        PartBox x = two();
        x.move(1, 0);
        x.write();
        Due.is("the moved one is first", x.byteAt(30), 'b');
        Due.is("its directory head too", x.byteAt(75 + 46), 'b');
        Due.is("its place", x.byteAt(75 + 42), 0);
        Due.is("the other one's directory head", x.byteAt(75 + 49 + 46), 'a');
        Due.is("the other one's place", x.byteAt(75 + 49 + 42), 35);
    }

    /** "when there would be more than 65536": 65536 are not more. 100 bytes are written beside those of one entry, a. */
    private static void justFull() {
        PartBox x = new PartBox();
        Due.grow(x, FULL - 100);
        byte[] row = Due.row(x);
        Due.call(x, "a");
        x.add();
        x.end(5);
        Due.is("just full", x.write(), FULL);
        Due.is("length()", x.length(), FULL);
        Due.is("its bytes", Arrays.copyOfRange(Due.row(x), 31, 31 + row.length), row);
        Due.readIs(x, "just full", FULL, 0, PartBox.NONE, PartBox.NONE);
        Due.storedIs(x, 0, "a", row);
    }

    /** "IllegalStateException when there would be more than 65536." */
    private static void oneByteTooMany() {
        PartBox x = new PartBox();
        Due.grow(x, FULL - 99);
        Due.call(x, "a");
        x.add();
        Due.badState(x, "one byte too many", () -> x.write());
        x.end(5);
        Due.badState(x, "however short the row is", () -> x.write());
        x.remove(0);
        Due.is("but for that entry", x.write(), 22);
    }

    /** "when there would be more than 65536": as a box with all the bytes that it may have always would. */
    private static void fullOfBytes() {
        PartBox x = new PartBox();
        Due.grow(x, FULL / 2);
        Due.call(x, "a");
        x.add();
        Due.call(x, "b");
        x.add();
        Due.badState(x, "65536 bytes and their heads", () -> x.write());
    }

    /** "at most 64" entries, "at most 64 characters": the most heads that there may be, up to the last byte and above it. */
    private static void fullOfHeads() {
        PartBox x = new PartBox();
        int heads = 22 + 64 * (76 + 2 * 64);
        Due.grow(x, FULL - heads);
        byte[] row = Due.row(x);
        for (int i = 0; i < 64; i++) {
            Due.call(x, "n".repeat(62) + (10 + i));
            x.add();
            x.end(0);
        }
        Due.is("just full", x.write(), FULL);
        Due.readIs(x, "just full", row.length, 0, PartBox.NONE, PartBox.NONE);
        Due.storedIs(x, 0, "n".repeat(62) + 10, row);
        Due.storedIs(x, 63, "n".repeat(62) + 73, "");
        x.remove(63);
        x.end(1);
        Due.call(x, "n".repeat(64));
        x.add();
        Due.badState(x, "one byte too many", () -> x.write());
    }

    /** "without tails": what was read with tails, extras and comments is written without them. */
    private static void withoutTails() {
        Container c = new Container();
        c.stored("a", "abc").tail(true, true).headExtra = new byte[7];
        c.packed("b", "de", 9, 8).tail(true, false).comment = new byte[5];
        c.comment = new byte[9];
        PartBox x = new PartBox();
        Due.load(x, c.build());
        x.read(FULL);
        Due.is("write()", x.write(), 2 * 78 + 5 + 22);
        PartBox same = new PartBox();
        Due.add(same, "a", "abc");
        Due.addPacked(same, "b", "de", 9, 8);
        same.write();
        Due.is("as if they had been added", Due.row(x), Due.row(same));
    }
}
