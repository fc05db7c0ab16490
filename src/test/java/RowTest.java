/** Promises 1 to 6: a new object, and the row. */
public final class RowTest {
    private RowTest() {
    }

    public static void main(String[] args) {
        newObject();
        feed();
        end();
        alterAndByteAt();
        fullRow();
        Due.finish();
    }

    private static void newObject() {
        PartBox x = new PartBox();
        Due.is("new: length()", x.length(), 0);
        Due.is("new: count()", x.count(), 0);
        Due.is("new: find()", x.find(), PartBox.NONE);
        Due.is("new: type(0)", x.type(0), 0);
        Due.blameIs(x, "new", 0, PartBox.NONE, PartBox.NONE);
        Due.badIndex("new: byteAt(0)", () -> x.byteAt(0));
        Due.badIndex("new: about(0, 0)", () -> x.about(0, 0));
        Due.badArgument("new: add() without a name", () -> x.add());
        Due.is("objects share nothing", lengthBesideAnother(), 0);
    }

    private static int lengthBesideAnother() {
        PartBox x = new PartBox();
        new PartBox().feed(1, 2, 3, 4, 5);
        return x.length();
    }

    private static void feed() {
        PartBox x = new PartBox();
        x.feed(0x01020304, 0x80FF7F00, -1, Integer.MIN_VALUE, 5);
        Due.is("fed", Due.row(x), new byte[] {
            1, 2, 3, 4, (byte) 128, (byte) 255, 127, 0, -1, -1, -1, -1, (byte) 128, 0, 0, 0, 0, 0, 0, 5});
        x.feed(9, 0, 0, 0, 0);
        Due.is("fed twice", x.length(), 40);
        Due.is("behind the first twenty", x.byteAt(23), 9);
        Due.is("the first stay", x.byteAt(19), 5);
    }

    private static void end() {
        PartBox x = new PartBox();
        x.feed(0x01020304, 0x05060708, 0, 0, 0);
        x.end(20);
        Due.is("all are left", x.length(), 20);
        x.end(3);
        Due.is("three are left", Due.row(x), new byte[] {1, 2, 3});
        Due.badArgument("end(4) of 3", () -> x.end(4));
        Due.badArgument("end(-1)", () -> x.end(-1));
        Due.badArgument("end(least)", () -> x.end(Integer.MIN_VALUE));
        Due.badArgument("end(greatest)", () -> x.end(Integer.MAX_VALUE));
        Due.is("still three", x.length(), 3);
        x.feed(0x0A000000, 0, 0, 0, 0);
        Due.is("fed behind the end", x.byteAt(3), 10);
        x.end(0);
        Due.is("none is left", x.length(), 0);
        x.end(0);
    }

    private static void alterAndByteAt() {
        PartBox x = new PartBox();
        x.feed(0, 0, 0, 0, 0);
        x.end(3);
        x.alter(0, 255);
        x.alter(2, 7);
        Due.is("altered", Due.row(x), new byte[] {-1, 0, 7});
        Due.badIndex("alter(3, 1) of 3", () -> x.alter(3, 1));
        Due.badIndex("alter(-1, 1)", () -> x.alter(-1, 1));
        Due.badIndex("alter(-1, 256): the index first", () -> x.alter(-1, 256));
        Due.badArgument("alter(0, 256)", () -> x.alter(0, 256));
        Due.badArgument("alter(0, -1)", () -> x.alter(0, -1));
        Due.is("as it was", x.byteAt(0), 255);
        Due.badIndex("byteAt(3) of 3", () -> x.byteAt(3));
        Due.badIndex("byteAt(-1)", () -> x.byteAt(-1));
        Due.badIndex("byteAt(least)", () -> x.byteAt(Integer.MIN_VALUE));
        Due.badIndex("byteAt(greatest)", () -> x.byteAt(Integer.MAX_VALUE));
    }

    private static void fullRow() {
        PartBox x = new PartBox();
        Due.grow(x, 65517 - 20);
        x.feed(0, 0, 0, 0, 1);
        Due.is("19 bytes short of full", x.length(), 65517);
        Due.badState("feed above 65536", () -> x.feed(1, 2, 3, 4, 5));
        Due.is("nothing was fed", x.length(), 65517);
        x.end(65516);
        x.feed(1, 2, 3, 4, 5);
        Due.is("full", x.length(), 65536);
        Due.is("last byte", x.byteAt(65535), 5);
        Due.badIndex("byteAt(65536)", () -> x.byteAt(65536));
        Due.badState("feed a full row", () -> x.feed(1, 2, 3, 4, 5));
        x.end(65536);
        Due.is("still full", x.length(), 65536);
    }
}
