/** Promise 17: the box, written, byte for byte. */
public final class WriteTest {
    private WriteTest() {
    }

    public static void main(String[] args) {
        emptyBox();
        twoEntries();
        atTheLimit();
        sixtyFourEntries();
        Due.finish();
    }

    private static byte[] bytes(int... numbers) {
        byte[] bytes = new byte[numbers.length];
        for (int i = 0; i < numbers.length; i++) {
            bytes[i] = (byte) numbers[i];
        }
        return bytes;
    }

    private static void emptyBox() {
        PartBox x = new PartBox();
        x.feed(1, 2, 3, 4, 5);
        x.feed(1, 2, 3, 4, 5);
        Due.is("write()", x.write(), 22);
        Due.is("empty", Due.row(x), bytes(80, 75, 5, 6, 0, 0, 0, 0, 0, 0, 0, 0, 0, 0, 0, 0, 0, 0, 0, 0, 0, 0));
    }

    private static void twoEntries() {
        PartBox x = new PartBox();
        Due.add(x, "a", "123456789");
        Due.addPacked(x, "b/c", "PQ", 0x01020304, 0xF1F2F3F4);
        byte[] want = bytes(
            80, 75, 3, 4, 20, 0, 0, 0, 0, 0, 0, 0, 0, 0, 0x26, 0x39, 0xF4, 0xCB, 9, 0, 0, 0, 9, 0, 0, 0, 1, 0, 0, 0,
            'a', '1', '2', '3', '4', '5', '6', '7', '8', '9',
            80, 75, 3, 4, 20, 0, 0, 0, 8, 0, 0, 0, 0, 0, 0xF4, 0xF3, 0xF2, 0xF1, 2, 0, 0, 0, 4, 3, 2, 1, 3, 0, 0, 0,
            'b', '/', 'c', 'P', 'Q',
            80, 75, 1, 2, 20, 0, 20, 0, 0, 0, 0, 0, 0, 0, 0, 0, 0x26, 0x39, 0xF4, 0xCB, 9, 0, 0, 0, 9, 0, 0, 0,
            1, 0, 0, 0, 0, 0, 0, 0, 0, 0, 0, 0, 0, 0, 0, 0, 0, 0, 'a',
            80, 75, 1, 2, 20, 0, 20, 0, 0, 0, 8, 0, 0, 0, 0, 0, 0xF4, 0xF3, 0xF2, 0xF1, 2, 0, 0, 0, 4, 3, 2, 1,
            3, 0, 0, 0, 0, 0, 0, 0, 0, 0, 0, 0, 0, 0, 40, 0, 0, 0, 'b', '/', 'c',
            80, 75, 5, 6, 0, 0, 0, 0, 2, 0, 2, 0, 96, 0, 0, 0, 75, 0, 0, 0, 0, 0);
        Due.is("write()", x.write(), want.length);
        Due.is("two entries", Due.row(x), want);
        Due.is("the box stays", x.count(), 2);
        Due.is("write() again", x.write(), want.length);
        Due.is("two entries again", Due.row(x), want);
        x.move(1, 0);
        x.write();
        Due.is("the moved one is first", x.byteAt(30), 'b');
        Due.is("its directory head too", x.byteAt(75 + 46), 'b');
        Due.is("the other one's place", x.byteAt(75 + 49 + 42), 35);
    }

    private static void atTheLimit() {
        PartBox x = new PartBox();
        // 100 bytes are written beside those of one entry with a name of one character.
        Due.grow(x, 65436);
        Due.call(x, "a");
        x.add();
        x.end(5);
        Due.is("just full", x.write(), 65536);
        Due.is("length()", x.length(), 65536);
        Due.readIs(x, "just full", 65436, 0, PartBox.NONE, PartBox.NONE);
        x.remove(0);
        x.end(65437);
        x.add();
        x.end(5);
        Due.badState("one byte too many", () -> x.write());
        Due.is("the row is as it was", x.length(), 5);
        Due.is("its first byte too", x.byteAt(0), 80);
    }

    private static void sixtyFourEntries() {
        PartBox x = new PartBox();
        int length = 22;
        for (int i = 0; i < 64; i++) {
            String name = "entry/number/" + i;
            Due.call(x, name);
            x.add();
            length += 76 + 2 * name.length();
        }
        Due.is("write()", x.write(), length);
        Due.readIs(x, "64 entries", 0, 0, PartBox.NONE, PartBox.NONE);
        Due.entryIs(x, 63, "entry/number/63", 0, "");
    }
}
