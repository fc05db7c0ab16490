/** Promises 1 to 6: a new object, and the row. Each test quotes the words that it holds to. */
public final class RowTest {
    private static final int FULL = 65536;

    private RowTest() {
    }

    public static void main(String[] args) {
        newObject();
        objectsAreApart();
        lastOf512Calls();
        feedPutsTwentyBytes();
        feedUpToTheLastByte();
        feedAboveTheLastByte();
        endLeavesTheFirst();
        endOfNoRow();
        endOfAFullRow();
        endRefusesNumbers();
        fedBehindAnEnd();
        alterChangesOneByte();
        alterRefusesAnIndex();
        alterRefusesAByte();
        alterTellsTheIndexFirst();
        lengthCounts();
        byteAtHasNoSign();
        byteAtRefusesAnIndex();
        indexesOfAFullRow();
        Due.finish();
    }

    private static PartBox three() {
        PartBox x = new PartBox();
        x.feed(0x01800300, 0x55555555, 0, 0, 0);
        x.end(3);
        return x;
    }

    /** "No row, no name, an empty box." */
    private static void newObject() {
        PartBox x = new PartBox();
        Due.is("length()", x.length(), 0);
        Due.is("type(0)", x.type(0), 0);
        Due.is("count()", x.count(), 0);
        Due.is("find()", x.find(), PartBox.NONE);
        Due.blameIs(x, "new", 0, PartBox.NONE, PartBox.NONE);
        Due.badIndex(x, "byteAt(0)", () -> x.byteAt(0));
        Due.badIndex(x, "about(0, 0)", () -> x.about(0, 0));
        Due.badArgument(x, "add() without a name", () -> x.add());
    }

    /** "No row, no name, an empty box": whatever other objects have. */
    private static void objectsAreApart() {
        PartBox x = new PartBox();
        PartBox other = new PartBox();
        Due.add(other, "other", "bytes");
        other.read(0);
        Due.is("length()", x.length(), 0);
        Due.is("type(0)", x.type(0), 0);
        Due.is("count()", x.count(), 0);
        Due.blameIs(x, "beside another", 0, PartBox.NONE, PartBox.NONE);
    }

    /** "An object is used for at most 512 calls after it has been made." */
    private static void lastOf512Calls() {
        PartBox x = new PartBox();
        for (int call = 0; call < 510; call++) {
            x.feed(call, 0, 0, 0, call);
        }
        Due.is("511th call", x.length(), 510 * 20);
        Due.is("512th call", x.byteAt(510 * 20 - 1), 509 & 255);
    }

    /** "Twenty bytes come to the end of the row, the highest byte of a first." */
    private static void feedPutsTwentyBytes() {
        PartBox x = new PartBox();
        x.feed(0x01020304, 0x80FF7F00, -1, Integer.MIN_VALUE, 5);
        byte[] first = {1, 2, 3, 4, (byte) 128, -1, 127, 0, -1, -1, -1, -1, (byte) 128, 0, 0, 0, 0, 0, 0, 5};
        Due.is("fed", Due.row(x), first);
        x.feed(0x09080706, 0, 0, 0, Integer.MAX_VALUE);
        Due.is("fed twice", x.length(), 40);
        Due.is("the first of the next", x.byteAt(20), 9);
        Due.is("the last of the next", x.byteAt(39), 255);
        x.end(20);
        Due.is("the first twenty are as they were", Due.row(x), first);
    }

    /** "when there would be more than 65536": 65536 are not more. */
    private static void feedUpToTheLastByte() {
        PartBox x = new PartBox();
        Due.grow(x, FULL - 40);
        x.feed(1, 2, 3, 4, 5);
        x.feed(6, 7, 8, 9, 0x0A0B0C0D);
        Due.is("full", x.length(), FULL);
        Due.is("last byte", x.byteAt(FULL - 1), 13);
        Due.is("the byte before the last twenty", x.byteAt(FULL - 21), 5);
    }

    /** "IllegalStateException when there would be more than 65536." */
    private static void feedAboveTheLastByte() {
        PartBox x = new PartBox();
        Due.grow(x, FULL - 20);
        x.feed(1, 2, 3, 4, 5);
        for (int n = FULL; n > FULL - 20; n--) {
            x.end(n);
            Due.badState(x, "feed behind " + n, () -> x.feed(-1, -1, -1, -1, -1));
        }
        x.end(FULL - 20);
        x.feed(-1, -1, -1, -1, -1);
        Due.is("full again", x.length(), FULL);
    }

    /** "Of the row the first n bytes are left." */
    private static void endLeavesTheFirst() {
        PartBox x = new PartBox();
        x.feed(0x01020304, 0x05060708, 0, 0, 9);
        x.end(20);
        Due.is("all are left", x.length(), 20);
        Due.is("the last one", x.byteAt(19), 9);
        x.end(19);
        Due.is("all but one", x.length(), 19);
        x.end(3);
        Due.is("three", Due.row(x), new byte[] {1, 2, 3});
        x.end(1);
        Due.is("one", Due.row(x), new byte[] {1});
        x.end(0);
        Due.is("none", x.length(), 0);
    }

    /** "when there are not so many": of no row, 0 bytes can be left and no other number. */
    private static void endOfNoRow() {
        PartBox x = new PartBox();
        x.end(0);
        Due.is("still none", x.length(), 0);
        Due.badArgument(x, "end(1) of none", () -> x.end(1));
    }

    /** "when there are not so many": of a full row, 65536 can be left and 65537 can't. */
    private static void endOfAFullRow() {
        PartBox x = new PartBox();
        Due.grow(x, FULL - 20);
        x.feed(0, 0, 0, 0, 7);
        x.end(FULL);
        Due.is("still full", x.length(), FULL);
        Due.badArgument(x, "end(65537)", () -> x.end(FULL + 1));
        x.end(FULL - 1);
        Due.is("all but one", x.length(), FULL - 1);
        Due.badArgument(x, "end(65536) of 65535", () -> x.end(FULL));
    }

    /** "IllegalArgumentException when there are not so many, or n is below 0." */
    private static void endRefusesNumbers() {
        PartBox x = three();
        for (int n : Due.outside(0, 3)) {
            Due.badArgument(x, "end(" + n + ") of 3", () -> x.end(n));
        }
    }

    /** "Of the row the first n bytes are left": of the others nothing comes back. */
    private static void fedBehindAnEnd() {
        PartBox x = three();
        x.feed(0x0A000000, 0, 0, 0, 0);
        Due.is("behind the end", x.byteAt(3), 10);
        for (int i = 4; i < 23; i++) {
            Due.is("byte " + i, x.byteAt(i), 0);
        }
        Due.badIndex(x, "no more than that", () -> x.byteAt(23));
    }

    /** "Byte i of the row becomes b." */
    private static void alterChangesOneByte() {
        PartBox x = three();
        x.alter(0, 255);
        Due.is("the first, the greatest", Due.row(x), new byte[] {-1, (byte) 128, 3});
        x.alter(2, 128);
        Due.is("the last", Due.row(x), new byte[] {-1, (byte) 128, (byte) 128});
        x.alter(1, 0);
        Due.is("one between, the least", Due.row(x), new byte[] {-1, 0, (byte) 128});
        Due.is("as long as before", x.length(), 3);
    }

    /** "IndexOutOfBoundsException when there is none." */
    private static void alterRefusesAnIndex() {
        PartBox x = three();
        for (int i : Due.outside(0, 2)) {
            Due.badIndex(x, "alter(" + i + ", 9) of 3", () -> x.alter(i, 9));
        }
        x.end(2);
        Due.badIndex(x, "a byte behind the end", () -> x.alter(2, 9));
        PartBox none = new PartBox();
        Due.badIndex(none, "alter(0, 9) of none", () -> none.alter(0, 9));
    }

    /** "IllegalArgumentException when b is not 0 .. 255." */
    private static void alterRefusesAByte() {
        PartBox x = three();
        for (int b : Due.outside(0, 255)) {
            Due.badArgument(x, "alter(0, " + b + ")", () -> x.alter(0, b));
            Due.badArgument(x, "alter(2, " + b + ")", () -> x.alter(2, b));
        }
    }

    /** "where several exceptions that a call names fit, the one named first is thrown": alter's index. */
    private static void alterTellsTheIndexFirst() {
        PartBox x = three();
        Due.badIndex(x, "alter(3, 256)", () -> x.alter(3, 256));
        Due.badIndex(x, "alter(-1, -1)", () -> x.alter(-1, -1));
    }

    /** "How many bytes the row has." */
    private static void lengthCounts() {
        PartBox x = new PartBox();
        Due.is("none", x.length(), 0);
        x.feed(0, 0, 0, 0, 0);
        Due.is("twenty zeros", x.length(), 20);
        x.alter(19, 1);
        Due.is("altered", x.length(), 20);
        x.end(7);
        Due.is("cut", x.length(), 7);
        x.write();
        Due.is("written", x.length(), 22);
        x.read(0);
        Due.is("read", x.length(), 22);
    }

    /** "Byte i of the row": 0 .. 255, as alter takes it. */
    private static void byteAtHasNoSign() {
        PartBox x = new PartBox();
        x.feed(0, 0, 0, 0, 0);
        for (int b = 0; b < 256; b++) {
            x.alter(b % 20, b);
            Due.is("byte " + b, x.byteAt(b % 20), b);
        }
    }

    /** "IndexOutOfBoundsException when there is none." */
    private static void byteAtRefusesAnIndex() {
        PartBox x = three();
        Due.is("the first", x.byteAt(0), 1);
        Due.is("the last", x.byteAt(2), 3);
        for (int i : Due.outside(0, 2)) {
            Due.badIndex(x, "byteAt(" + i + ") of 3", () -> x.byteAt(i));
        }
        x.end(0);
        Due.badIndex(x, "byteAt(0) of none", () -> x.byteAt(0));
    }

    /** "Byte i of the row" and "when there is none", where the row has all that it may have. */
    private static void indexesOfAFullRow() {
        PartBox x = new PartBox();
        Due.grow(x, FULL - 20);
        x.feed(0, 0, 0, 0, 7);
        Due.is("byteAt(65535)", x.byteAt(FULL - 1), 7);
        x.alter(FULL - 1, 255);
        Due.is("altered", x.byteAt(FULL - 1), 255);
        Due.badIndex(x, "byteAt(65536)", () -> x.byteAt(FULL));
        Due.badIndex(x, "alter(65536, 0)", () -> x.alter(FULL, 0));
        Due.badArgument(x, "alter(65535, 256)", () -> x.alter(FULL - 1, 256));
    }
}
