import java.util.Arrays;
import java.util.List;

/** Promises 18 and 19: what reading does to the box, and what is told of it. FaultTest has each fault. */
public final class ReadTest {
    private static final int NONE = PartBox.NONE;
    private static final int FULL = 65536;

    private ReadTest() {
    }

    public static void main(String[] args) {
        readLimits();
        readRefusesALimit();
        theBoxHasItsEntries();
        inTheDirectorysOrder();
        noEntries();
        sixtyFourEntries();
        aFullBoxIsReplaced();
        rowAndNameStay();
        theBoxIsAsItWas();
        readTwice();
        readOneAfterAnother();
        allThatIsAllowed();
        blameBefore();
        blameAfterAFault();
        blameAfterNone();
        blameIsOfTheLastRead();
        blameRefusesOtherThings();
        Due.finish();
    }

    private static PartBox load(byte[] row) {
        PartBox x = new PartBox();
        Due.load(x, row);
        return x;
    }

    private static Container three() {
        Container c = new Container();
        c.stored("one", "\u0000\u00FFabc");
        c.packed("TWO", "zz", 60000, -5);
        c.stored("t/h/r/e/e", "");
        return c;
    }

    /** "when limit is not 0 .. 65536": these two are taken. */
    private static void readLimits() {
        Container c = new Container();
        c.packed("none", "", 0, 0);
        Due.readIs(load(c.build()), "limit 0", 0, 0, NONE, NONE);
        c.items.get(0).size = FULL;
        Due.readIs(load(c.build()), "limit 65536", FULL, 0, NONE, NONE);
    }

    /** "IllegalArgumentException when limit is not 0 .. 65536": what was told before is still told. */
    private static void readRefusesALimit() {
        PartBox sound = load(three().build());
        byte[] row = three().build();
        row[0] = 0;
        PartBox wrong = load(row);
        wrong.read(FULL);
        for (int limit : Due.outside(0, FULL)) {
            Due.badArgument(sound, "read(" + limit + ")", () -> sound.read(limit));
            Due.badArgument(wrong, "read(" + limit + ") again", () -> wrong.read(limit));
        }
        Due.blameIs(wrong, "the fault from before", 7, 0, 0);
        Due.is("nothing was read", sound.count(), 0);
    }

    /** "0, and the box has its entries". */
    private static void theBoxHasItsEntries() {
        PartBox x = load(three().build());
        Due.readIs(x, "three", FULL, 0, NONE, NONE);
        Due.is("count()", x.count(), 3);
        Due.storedIs(x, 0, "one", "\u0000\u00FFabc");
        Due.packedIs(x, 1, "TWO", "zz", 60000, -5);
        Due.storedIs(x, 2, "t/h/r/e/e", "");
        Due.call(x, "two");
        Due.is("found", x.find(), 1);
    }

    /** "in the directory's order". */
    private static void inTheDirectorysOrder() {
        Container c = three();
        c.directoryOrder = List.of(2, 0, 1);
        PartBox x = load(c.build());
        Due.readIs(x, "another order", FULL, 0, NONE, NONE);
        Due.storedIs(x, 0, "t/h/r/e/e", "");
        Due.storedIs(x, 1, "one", "\u0000\u00FFabc");
        Due.packedIs(x, 2, "TWO", "zz", 60000, -5);
        x.remove(1);
        Due.packedIs(x, 1, "TWO", "zz", 60000, -5);
        x.move(1, 0);
        x.write();
        Due.is("written in that order", x.byteAt(30), 'T');
    }

    /** "the box has its entries": none, if the row has none. */
    private static void noEntries() {
        PartBox x = new PartBox();
        x.write();
        Due.call(x, "old");
        x.add();
        Due.readIs(x, "an empty container", 0, 0, NONE, NONE);
        Due.is("the old one is gone", x.count(), 0);
        Due.is("not found", x.find(), NONE);
        Due.badIndex(x, "about(0, 0)", () -> x.about(0, 0));
        Due.is("its name is free", x.add(), 0);
    }

    private static Container of(int entries) {
        Container c = new Container();
        for (int i = 0; i < entries; i++) {
            c.stored("n" + i, "x".repeat(i % 5));
            c.directoryOrder.set(i, entries - 1 - i);
        }
        return c;
    }

    /** "ENTRIES 0, 1, .. (at most 64)": as many can be read, and no more. */
    private static void sixtyFourEntries() {
        PartBox x = load(of(64).build());
        Due.readIs(x, "64 entries", FULL, 0, NONE, NONE);
        Due.is("count()", x.count(), 64);
        for (int i = 0; i < 64; i++) {
            Due.storedIs(x, i, "n" + (63 - i), "x".repeat((63 - i) % 5));
        }
        Due.call(x, "more");
        Due.badState(x, "the box is full", () -> x.add());
        Container more = of(65);
        Due.load(x, more.build());
        Due.readIs(x, "65 entries", FULL, 2, more.end, NONE);
        Due.is("as it was", x.count(), 64);
    }

    /** "the box has its entries": bytes of those from before are in no one's way. */
    private static void aFullBoxIsReplaced() {
        PartBox x = new PartBox();
        Due.grow(x, FULL - 100);
        byte[] row = Due.row(x);
        Due.call(x, "a");
        x.add();
        x.write();
        for (int times = 0; times < 3; times++) {
            Due.readIs(x, "a full row, time " + times, FULL - 100, 0, NONE, NONE);
            Due.is("count()", x.count(), 1);
            Due.storedIs(x, 0, "a", row);
        }
        x.end(100);
        Due.call(x, "b");
        Due.is("100 bytes more", x.add(), 1);
        x.end(1);
        Due.call(x, "c");
        Due.badState(x, "one more", () -> x.add());
    }

    /** "The row is read": it stays, and so does the name. */
    private static void rowAndNameStay() {
        byte[] row = three().build();
        PartBox x = load(row);
        Due.call(x, "ONE");
        x.read(FULL);
        Due.is("the row", Due.row(x), row);
        Due.is("the name's length", x.type(0), 3);
        Due.is("the name", x.find(), 0);
        x.alter(40, 77);
        Due.storedIs(x, 0, "one", "\u0000\u00FFabc");
        x.end(0);
        Due.storedIs(x, 0, "one", "\u0000\u00FFabc");
        Due.packedIs(x, 1, "TWO", "zz", 60000, -5);
    }

    /** "otherwise the fault, and the box is as it was." */
    private static void theBoxIsAsItWas() {
        Container c = three();
        byte[] sound = c.build();
        PartBox x = new PartBox();
        Due.add(x, "kept", "kept bytes");
        Due.addPacked(x, "kept/too", "more of them", 3, 4);
        Due.call(x, "one");
        int[] box = Due.box(x);
        // The last fault of all is found when all the entries are known.
        int[][] faults = {{c.end, 1}, {c.end + 4, 2}, {c.directory, 3}, {c.directory + 9, 4}, {c.directory + 46, 5},
            {c.directory + 20, 6}, {0, 7}, {33, 11}};
        for (int[] fault : faults) {
            byte[] row = sound.clone();
            row[fault[0]] = (byte) (fault[1] == 5 ? '/' : 33);
            row[30] = (byte) (fault[1] == 5 ? '/' : row[30]);
            Due.load(x, row);
            Due.is("fault", x.read(FULL), fault[1]);
            Due.isTrue("after fault " + fault[1] + " the box is as it was", Arrays.equals(box, Due.box(x)));
            Due.is("the row too", Due.row(x), row);
            Due.is("the name too", x.type(0), 3);
        }
        Due.load(x, sound);
        Due.is("above the limit", x.read(60004), 9);
        Due.isTrue("after fault 9 the box is as it was", Arrays.equals(box, Due.box(x)));
        Due.is("at the limit", x.read(60005), 0);
        Due.is("not found before, now found", x.find(), 0);
    }

    /** "The row is read": as often as it is asked for, with the same answer. */
    private static void readTwice() {
        PartBox x = load(three().build());
        x.read(FULL);
        int[] state = Due.state(x);
        x.read(FULL);
        Due.isTrue("as after the first time", Arrays.equals(state, Due.state(x)));
        int[] box = Due.box(x);
        x.write();
        x.read(FULL);
        Due.isTrue("written and read again", Arrays.equals(box, Due.box(x)));
    }

    /** "The row is read": whatever was read before it. */
    private static void readOneAfterAnother() {
        Container c = three();
        c.directoryOrder = List.of(2, 1, 0);
        byte[] backwards = c.build();
        c.directoryOrder = List.of(1, 2, 0);
        byte[] mixed = c.build();
        c.directoryOrder = List.of(0);
        byte[] gap = c.build();
        byte[] wrong = three().build();
        wrong[35] ^= 1;
        byte[][] rows = {three().build(), backwards, mixed, gap, wrong, of(64).build(), new Container().build(), new byte[9]};
        for (byte[] before : rows) {
            for (byte[] row : rows) {
                PartBox x = load(before);
                x.read(FULL);
                int[] box = Due.box(x);
                Due.load(x, row);
                PartBox fresh = load(row);
                int fault = fresh.read(FULL);
                Due.readIs(x, "after another", FULL, fault, fresh.blame(1), fresh.blame(2));
                Due.isTrue("the box", Arrays.equals(Due.box(x), fault == 0 ? Due.box(fresh) : box));
            }
        }
    }

    /** What a container may have and writing does not make: tails, flags, extras, comments, another order. */
    private static void allThatIsAllowed() {
        Container c = new Container();
        c.stored("s", "abc").tail(true, true).flags |= 2048;
        c.stored("S2", "defg").tail(false, false).headExtra = new byte[] {1, 2, 3};
        c.packed("p", "PK\u0007\u0008", 9, 0xFFFFFFFFL).directoryExtra = new byte[] {80, 75, 1, 2};
        c.items.get(2).comment = Due.latin("PK\u0001\u0002 a comment");
        c.packed("empty", "", 0, 1).tail(true, false);
        c.directoryOrder = List.of(3, 1, 0, 2);
        c.comment = Due.latin("behind all of it");
        PartBox x = load(c.build());
        Due.readIs(x, "all that is allowed", 16, 0, NONE, NONE);
        Due.is("count()", x.count(), 4);
        Due.packedIs(x, 0, "empty", "", 0, 1);
        Due.storedIs(x, 1, "S2", "defg");
        Due.storedIs(x, 2, "s", "abc");
        Due.packedIs(x, 3, "p", "PK\u0007\u0008", 9, -1);
    }

    /** "0, NONE and NONE before." */
    private static void blameBefore() {
        PartBox x = new PartBox();
        Due.blameIs(x, "new", 0, NONE, NONE);
        Due.add(x, "a", "abc");
        x.write();
        Due.blameIs(x, "not yet read", 0, NONE, NONE);
        Due.badArgument(x, "read(-1)", () -> x.read(-1));
        Due.blameIs(x, "refused", 0, NONE, NONE);
    }

    /** "what = 0 the fault", "1 the place, 2 the entry". */
    private static void blameAfterAFault() {
        Container c = three();
        byte[] row = c.build();
        row[c.items.get(1).head] = 0;
        Due.readIs(load(row), "with an entry", FULL, 7, c.items.get(1).head, 1);
        Due.readIs(load(new byte[5]), "without one", FULL, 1, 5, NONE);
        Due.readIs(new PartBox(), "at the first byte", FULL, 1, 0, NONE);
    }

    /** "(0 when there was none)", "(both NONE then)": after a fault too. */
    private static void blameAfterNone() {
        byte[] row = three().build();
        PartBox x = load(row);
        x.alter(0, 0);
        Due.readIs(x, "a fault", FULL, 7, 0, 0);
        x.alter(0, row[0]);
        Due.readIs(x, "and none", FULL, 0, NONE, NONE);
    }

    /** "Of the last read()": no other call changes it, and a later read() does. */
    private static void blameIsOfTheLastRead() {
        byte[] row = three().build();
        PartBox x = load(row);
        x.alter(0, 0);
        x.read(FULL);
        x.feed(0, 0, 0, 0, 0);
        x.end(0);
        Due.call(x, "new");
        x.add();
        x.move(0, 0);
        x.find();
        x.remove(0);
        x.write();
        Due.blameIs(x, "other calls", 7, 0, 0);
        x.end(21);
        Due.readIs(x, "another fault", FULL, 1, 21, NONE);
    }

    /** "IllegalArgumentException when what is none of these." */
    private static void blameRefusesOtherThings() {
        PartBox fresh = new PartBox();
        PartBox read = load(three().build());
        read.read(9);
        for (int what : Due.outside(0, 2)) {
            Due.badArgument(fresh, "blame(" + what + ") before", () -> fresh.blame(what));
            Due.badArgument(read, "blame(" + what + ") after", () -> read.blame(what));
        }
    }
}
