import java.util.Arrays;

/** Promises 9 to 12, 14 to 16 and 20: entries put in, taken out and put in another order. Each test quotes its words. */
public final class EntriesTest {
    private static final int FULL = 65536;

    private EntriesTest() {
    }

    public static void main(String[] args) {
        addTakesTheRow();
        addLeavesRowAndName();
        addOfNoBytes();
        addOfAFullRow();
        checkOfBytes();
        addRefusesANameThatIsNone();
        addRefusesANameOfAnEntry();
        sixtyFourEntries();
        bytesUpToTheLast();
        bytesAboveTheLast();
        theNameIsToldFirst();
        addPackedTakesTheRow();
        addPackedLeavesRowAndName();
        addPackedTakesItsEdges();
        addPackedRefusesASize();
        addPackedRefusesAsAddDoes();
        removeMovesThoseBehindUp();
        removeTheOnlyOne();
        removeRefusesAnEntry();
        removeMakesRoom();
        moveShiftsThoseBetween();
        moveAmongSixtyFour();
        moveTheOnlyOne();
        moveRefusesAnEntry();
        movedEntriesAreTakenOut();
        aboutTellsFive();
        aboutRefusesAnEntry();
        aboutRefusesOtherThings();
        nameTellsCharacters();
        nameRefusesAnEntry();
        partTellsBytes();
        partRefusesAByte();
        partRefusesAnEntry();
        countCounts();
        Due.finish();
    }

    /** Entries named by these letters, of differing lengths, some of them 0, so that bytes lost or moved amiss show. */
    private static PartBox letters(String letters) {
        PartBox x = new PartBox();
        for (int i = 0; i < letters.length(); i++) {
            addLetter(x, letters.substring(i, i + 1));
        }
        return x;
    }

    private static void addLetter(PartBox x, String letter) {
        Due.add(x, letter, bytesOf(letter));
    }

    private static String bytesOf(String letter) {
        return letter.repeat((letter.charAt(0) - 'a') % 4);
    }

    private static void orderIs(PartBox x, String letters) {
        Due.is("count()", x.count(), letters.length());
        for (int i = 0; i < letters.length(); i++) {
            String letter = letters.substring(i, i + 1);
            Due.storedIs(x, i, letter, bytesOf(letter));
        }
    }

    /** "An entry more, with the row as its stored bytes, and the name"; "answers its number." */
    private static void addTakesTheRow() {
        PartBox x = new PartBox();
        Due.is("first", Due.add(x, "a", "123456789"), 0);
        Due.storedIs(x, 0, "a", "123456789");
        Due.is("second", Due.add(x, "Dir/Name.txt", "\u0000\u007F\u0080\u00FF"), 1);
        Due.storedIs(x, 1, "Dir/Name.txt", "\u0000\u007F\u0080\u00FF");
        Due.storedIs(x, 0, "a", "123456789");
    }

    /** "(both stay)": and what becomes of them later is not the entry's. */
    private static void addLeavesRowAndName() {
        PartBox x = new PartBox();
        Due.add(x, "a", "123456789");
        Due.is("the row stays", Due.row(x), Due.latin("123456789"));
        Due.is("the name stays", x.find(), 0);
        Due.is("all of it", x.type(0), 1);
        x.alter(0, 'x');
        x.end(2);
        x.type('b');
        Due.storedIs(x, 0, "a", "123456789");
        Due.is("second", x.add(), 1);
        Due.storedIs(x, 1, "ab", "x2");
        x.end(0);
        x.erase();
        Due.storedIs(x, 0, "a", "123456789");
        Due.storedIs(x, 1, "ab", "x2");
    }

    /** "with the row as its stored bytes": an empty row is one too. */
    private static void addOfNoBytes() {
        PartBox x = new PartBox();
        Due.is("first", Due.add(x, "none", ""), 0);
        Due.storedIs(x, 0, "none", "");
        Due.is("its check", x.about(0, 3), 0);
        Due.add(x, "some", "abc");
        Due.add(x, "none/again", "");
        Due.storedIs(x, 2, "none/again", "");
        Due.storedIs(x, 1, "some", "abc");
    }

    /** "All bytes of all entries are at most 65536 together": one entry may have all of them. */
    private static void addOfAFullRow() {
        PartBox x = new PartBox();
        Due.grow(x, FULL - 20);
        x.feed(1, 2, 3, 4, 5);
        Due.call(x, "full");
        Due.is("full", x.add(), 0);
        Due.storedIs(x, 0, "full", Due.row(x));
        Due.call(x, "more");
        Due.badState(x, "no byte more", () -> x.add());
        x.end(1);
        Due.badState(x, "not even one", () -> x.add());
        x.end(0);
        Due.is("but none", x.add(), 1);
    }

    /** "THE CHECK of some bytes": as java.util.zip reckons it, and as others have written it down. */
    private static void checkOfBytes() {
        PartBox x = new PartBox();
        Due.is("of 1 .. 9", x.about(Due.add(x, "digits", "123456789"), 3), 0xCBF43926);
        Due.is("of none", x.about(Due.add(x, "none", ""), 3), 0);
        Due.is("of one 0", x.about(Due.add(x, "zero", "\0"), 3), 0xD202EF8D);
        Due.is("of one 255", x.about(Due.add(x, "ff", "\u00FF"), 3), 0xFF000000);
        Due.is("of four 255", x.about(Due.add(x, "ffs", "\u00FF".repeat(4)), 3), -1);
        PartBox y = new PartBox();
        for (int b = 0; b < 256; b++) {
            Due.storedIs(y, Due.add(y, "b", "" + (char) b), "b", "" + (char) b);
            y.remove(0);
        }
    }

    /** "IllegalArgumentException when the name is none". NameTest has more of these names. */
    private static void addRefusesANameThatIsNone() {
        PartBox x = new PartBox();
        x.feed(1, 2, 3, 4, 5);
        for (String name : new String[] {"", "/", "a/", "a//b", ".", "a/..", "a\\b"}) {
            Due.call(x, name);
            Due.badArgument(x, "add as " + name, () -> x.add());
        }
    }

    /** "or that of an entry". */
    private static void addRefusesANameOfAnEntry() {
        PartBox x = letters("abc");
        for (String name : new String[] {"a", "b", "c", "A", "C"}) {
            Due.call(x, name);
            Due.badArgument(x, "add as " + name, () -> x.add());
        }
    }

    private static PartBox withEntries(int n) {
        PartBox x = new PartBox();
        for (int i = 0; i < n; i++) {
            Due.call(x, "n" + i);
            Due.is("entry " + i, x.add(), i);
        }
        return x;
    }

    /** "IllegalStateException when there are 64 entries". */
    private static void sixtyFourEntries() {
        PartBox x = withEntries(63);
        Due.call(x, "last");
        Due.is("a 64th", x.add(), 63);
        Due.call(x, "more");
        Due.badState(x, "a 65th", () -> x.add());
        Due.badState(x, "a packed 65th", () -> x.addPacked(0, 0));
        Due.is("count()", x.count(), 64);
        Due.storedIs(x, 63, "last", "");
        x.remove(0);
        Due.is("a packed 64th", x.addPacked(3, 4), 63);
        Due.packedIs(x, 63, "more", "", 3, 4);
        Due.storedIs(x, 62, "last", "");
        Due.call(x, "again");
        Due.badState(x, "a 65th again", () -> x.add());
    }

    /** "or there would be more than 65536 bytes": 65536 are not more. */
    private static void bytesUpToTheLast() {
        PartBox x = new PartBox();
        Due.grow(x, 32769);
        byte[] row = Due.row(x);
        Due.call(x, "a");
        x.add();
        x.end(32767);
        Due.call(x, "b");
        Due.is("65536 bytes", x.addPacked(1, 2), 1);
        Due.storedIs(x, 0, "a", row);
        Due.is("the second's", Due.part(x, 1), Arrays.copyOf(row, 32767));
        x.end(0);
        Due.call(x, "c");
        Due.is("an entry without bytes", x.add(), 2);
        Due.call(x, "d");
        Due.is("a packed one", x.addPacked(7, 8), 3);
    }

    /** "or there would be more than 65536 bytes." */
    private static void bytesAboveTheLast() {
        PartBox x = new PartBox();
        Due.grow(x, 32769);
        Due.call(x, "a");
        x.add();
        Due.call(x, "b");
        Due.badState(x, "65538 bytes", () -> x.add());
        x.end(32768);
        Due.badState(x, "65537 bytes", () -> x.add());
        Due.badState(x, "65537 bytes, packed", () -> x.addPacked(1, 1));
        x.end(32767);
        Due.is("65536 bytes", x.add(), 1);
        Due.call(x, "c");
        x.end(1);
        Due.badState(x, "one byte more", () -> x.add());
        Due.badState(x, "one byte more, packed", () -> x.addPacked(0, 0));
    }

    /** "where several exceptions that a call names fit, the one named first is thrown": the name, and the size. */
    private static void theNameIsToldFirst() {
        PartBox x = withEntries(64);
        for (String name : new String[] {"n63", "N0", "", "a/"}) {
            Due.call(x, name);
            Due.badArgument(x, "64 entries, add as " + name, () -> x.add());
            Due.badArgument(x, "64 entries, addPacked as " + name, () -> x.addPacked(0, 0));
        }
        Due.call(x, "more");
        Due.badArgument(x, "64 entries, size -1", () -> x.addPacked(-1, 0));
        PartBox y = new PartBox();
        Due.grow(y, 32769);
        Due.call(y, "a");
        y.add();
        Due.badArgument(y, "65538 bytes, that of an entry", () -> y.add());
        Due.call(y, "..");
        Due.badArgument(y, "65538 bytes, no name", () -> y.add());
        Due.call(y, "b");
        Due.badArgument(y, "65538 bytes, size -1", () -> y.addPacked(-1, 0));
    }

    /** "Likewise, with the row as packed bytes, a size and a check." */
    private static void addPackedTakesTheRow() {
        PartBox x = new PartBox();
        Due.is("first", Due.addPacked(x, "p", "xyz", 1000, 0xDEADBEEF), 0);
        Due.is("second", Due.addPacked(x, "Q/q", "", 0, 1), 1);
        Due.is("third", Due.add(x, "s", "123"), 2);
        Due.packedIs(x, 0, "p", "xyz", 1000, 0xDEADBEEF);
        Due.packedIs(x, 1, "Q/q", "", 0, 1);
        Due.storedIs(x, 2, "s", "123");
    }

    /** "Likewise": both stay. */
    private static void addPackedLeavesRowAndName() {
        PartBox x = new PartBox();
        Due.addPacked(x, "p", "xyz", 1, 2);
        Due.is("the row stays", Due.row(x), Due.latin("xyz"));
        Due.is("the name stays", x.find(), 0);
        x.alter(0, 0);
        x.type('q');
        Due.is("second", x.addPacked(3, 4), 1);
        Due.packedIs(x, 0, "p", "xyz", 1, 2);
        Due.packedIs(x, 1, "pq", "\0yz", 3, 4);
    }

    /** "when size is less than 0": 0 is not; and a check may be any number. */
    private static void addPackedTakesItsEdges() {
        int[] checks = {0, 1, -1, Integer.MIN_VALUE, Integer.MAX_VALUE};
        int[] sizes = {0, 1, 65536, 65537, Integer.MAX_VALUE};
        for (int check : checks) {
            PartBox x = new PartBox();
            for (int i = 0; i < sizes.length; i++) {
                Due.is("size " + sizes[i], Due.addPacked(x, "p" + i, "ab", sizes[i], check), i);
                Due.packedIs(x, i, "p" + i, "ab", sizes[i], check);
            }
        }
    }

    /** "or when size is less than 0". */
    private static void addPackedRefusesASize() {
        PartBox x = letters("abc");
        Due.call(x, "p");
        for (int size : new int[] {-1, -2, -65536, Integer.MIN_VALUE, Integer.MIN_VALUE + 1}) {
            Due.badArgument(x, "size " + size, () -> x.addPacked(size, 0));
        }
    }

    /** "IllegalArgumentException as for add". */
    private static void addPackedRefusesAsAddDoes() {
        PartBox x = letters("abc");
        for (String name : new String[] {"", "a", "C", ".", "a/", "/a", "a\\b"}) {
            Due.call(x, name);
            Due.badArgument(x, "addPacked as " + name, () -> x.addPacked(1, 1));
        }
    }

    /** "An entry is there no more; those behind it move up." */
    private static void removeMovesThoseBehindUp() {
        PartBox x = letters("abcdefgh");
        x.remove(3);
        orderIs(x, "abcefgh");
        x.remove(0);
        orderIs(x, "bcefgh");
        x.remove(5);
        orderIs(x, "bcefg");
        addLetter(x, "d");
        orderIs(x, "bcefgd");
        x.remove(4);
        addLetter(x, "h");
        orderIs(x, "bcefdh");
        PartBox full = withEntries(64);
        full.remove(0);
        Due.is("63 are left", full.count(), 63);
        Due.storedIs(full, 0, "n1", "");
        Due.storedIs(full, 62, "n63", "");
        full.remove(62);
        Due.storedIs(full, 61, "n62", "");
    }

    /** "An entry is there no more": nor is any, then. */
    private static void removeTheOnlyOne() {
        PartBox x = letters("d");
        x.remove(0);
        Due.is("none is left", x.count(), 0);
        Due.badIndex(x, "remove(0) of none", () -> x.remove(0));
        Due.badIndex(x, "about(0, 0) of none", () -> x.about(0, 0));
        Due.is("not found", x.find(), PartBox.NONE);
        Due.is("the row stays", Due.row(x), Due.latin("ddd"));
        Due.is("added again", x.add(), 0);
        orderIs(x, "d");
    }

    /** "IndexOutOfBoundsException when it is not there." */
    private static void removeRefusesAnEntry() {
        PartBox x = letters("abcd");
        for (int entry : Due.outside(0, 3)) {
            Due.badIndex(x, "remove(" + entry + ") of 4", () -> x.remove(entry));
        }
        PartBox full = withEntries(64);
        Due.badIndex(full, "remove(64) of 64", () -> full.remove(64));
        PartBox none = new PartBox();
        Due.badIndex(none, "remove(0) of none", () -> none.remove(0));
        Due.badIndex(none, "remove(-1) of none", () -> none.remove(-1));
    }

    /** "An entry is there no more": its bytes do not count any more. */
    private static void removeMakesRoom() {
        PartBox x = new PartBox();
        Due.grow(x, 32768);
        byte[] row = Due.row(x);
        Due.call(x, "a");
        x.add();
        x.alter(0, 77);
        Due.call(x, "b");
        x.add();
        Due.call(x, "c");
        Due.badState(x, "full", () -> x.add());
        x.remove(0);
        x.alter(0, 99);
        Due.is("room again", x.add(), 1);
        Due.badArgument(x, "its name again", () -> x.add());
        for (int entry = 0; entry < 2; entry++) {
            row[0] = (byte) (entry == 0 ? 77 : 99);
            Due.storedIs(x, entry, entry == 0 ? "b" : "c", row);
        }
    }

    /** "An entry goes to another number, those between move by one." */
    private static void moveShiftsThoseBetween() {
        PartBox x = letters("abcdefgh");
        x.move(1, 5);
        orderIs(x, "acdefbgh");
        x.move(5, 1);
        orderIs(x, "abcdefgh");
        x.move(7, 0);
        orderIs(x, "habcdefg");
        x.move(0, 7);
        orderIs(x, "abcdefgh");
        x.move(4, 3);
        orderIs(x, "abcedfgh");
        x.move(3, 4);
        orderIs(x, "abcdefgh");
        x.move(3, 3);
        orderIs(x, "abcdefgh");
    }

    /** "An entry goes to another number": in a full box too. */
    private static void moveAmongSixtyFour() {
        PartBox x = withEntries(64);
        x.move(63, 0);
        Due.storedIs(x, 0, "n63", "");
        Due.storedIs(x, 1, "n0", "");
        Due.storedIs(x, 63, "n62", "");
        x.move(0, 63);
        for (int i = 0; i < 64; i++) {
            Due.storedIs(x, i, "n" + i, "");
        }
        Due.badIndex(x, "move(0, 64)", () -> x.move(0, 64));
        Due.badIndex(x, "move(64, 0)", () -> x.move(64, 0));
    }

    /** "An entry goes to another number": the only one has but its own. */
    private static void moveTheOnlyOne() {
        PartBox x = letters("d");
        x.move(0, 0);
        orderIs(x, "d");
        Due.badIndex(x, "move(0, 1) of one", () -> x.move(0, 1));
        Due.badIndex(x, "move(1, 0) of one", () -> x.move(1, 0));
    }

    /** "IndexOutOfBoundsException when one is not there." */
    private static void moveRefusesAnEntry() {
        PartBox x = letters("abcd");
        for (int no : Due.outside(0, 3)) {
            Due.badIndex(x, "move(" + no + ", 1)", () -> x.move(no, 1));
            Due.badIndex(x, "move(1, " + no + ")", () -> x.move(1, no));
            Due.badIndex(x, "move(" + no + ", " + no + ")", () -> x.move(no, no));
        }
        PartBox none = new PartBox();
        Due.badIndex(none, "move(0, 0) of none", () -> none.move(0, 0));
    }

    /** "An entry is there no more", where the order is not that in which they came. */
    private static void movedEntriesAreTakenOut() {
        PartBox x = letters("abcdefgh");
        x.move(7, 0);
        x.move(1, 6);
        orderIs(x, "hbcdefag");
        x.remove(0);
        orderIs(x, "bcdefag");
        x.remove(2);
        orderIs(x, "bcefag");
        addLetter(x, "h");
        x.move(6, 1);
        x.remove(0);
        orderIs(x, "hcefag");
        PartBox lastFirst = letters("abcd");
        lastFirst.move(3, 0);
        lastFirst.remove(2);
        orderIs(lastFirst, "dac");
        lastFirst.remove(2);
        orderIs(lastFirst, "da");
    }

    /** "what = 0 its method, 1 how many bytes, 2 its size, 3 its check, 4 how long its name is." */
    private static void aboutTellsFive() {
        PartBox x = new PartBox();
        Due.addPacked(x, "se/cond", "pq", 9, 7);
        Due.add(x, "first", "123456789");
        int[][] due = {{8, 2, 9, 7, 7}, {0, 9, 9, 0xCBF43926, 5}};
        for (int entry = 0; entry < 2; entry++) {
            for (int what = 0; what < 5; what++) {
                Due.is("about(" + entry + ", " + what + ")", x.about(entry, what), due[entry][what]);
            }
        }
    }

    /** "IndexOutOfBoundsException when it is not there", and before the other exception. */
    private static void aboutRefusesAnEntry() {
        PartBox x = letters("abcd");
        for (int entry : Due.outside(0, 3)) {
            Due.badIndex(x, "about(" + entry + ", 4)", () -> x.about(entry, 4));
            Due.badIndex(x, "about(" + entry + ", 5)", () -> x.about(entry, 5));
            Due.badIndex(x, "about(" + entry + ", -1)", () -> x.about(entry, -1));
        }
        PartBox full = withEntries(64);
        Due.is("about(63, 4)", full.about(63, 4), 3);
        Due.badIndex(full, "about(64, 4)", () -> full.about(64, 4));
    }

    /** "IllegalArgumentException when what is none of these." */
    private static void aboutRefusesOtherThings() {
        PartBox x = letters("abcd");
        for (int what : Due.outside(0, 4)) {
            Due.badArgument(x, "about(0, " + what + ")", () -> x.about(0, what));
            Due.badArgument(x, "about(3, " + what + ")", () -> x.about(3, what));
        }
    }

    /** "Character k of an entry's name; NONE when there is none." */
    private static void nameTellsCharacters() {
        PartBox x = new PartBox();
        Due.add(x, "a/~!Z", "12345678");
        Due.add(x, "b".repeat(64), "");
        for (int k = 0; k < 5; k++) {
            Due.is("name(0, " + k + ")", x.name(0, k), "a/~!Z".charAt(k));
        }
        for (int k : Due.outside(0, 4)) {
            Due.is("name(0, " + k + ")", x.name(0, k), PartBox.NONE);
        }
        for (int k : Due.outside(0, 63)) {
            Due.is("name(1, " + k + ")", x.name(1, k), PartBox.NONE);
        }
        Due.is("name(1, 63)", x.name(1, 63), 'b');
        x.remove(1);
        Due.add(x, "c", "");
        Due.is("nothing is left of a longer name", x.name(1, 1), PartBox.NONE);
    }

    /** "IndexOutOfBoundsException when the entry is not there." */
    private static void nameRefusesAnEntry() {
        PartBox x = letters("abcd");
        for (int entry : Due.outside(0, 3)) {
            Due.badIndex(x, "name(" + entry + ", 0)", () -> x.name(entry, 0));
            Due.badIndex(x, "name(" + entry + ", -1)", () -> x.name(entry, -1));
            Due.badIndex(x, "name(" + entry + ", 9)", () -> x.name(entry, 9));
        }
        PartBox none = new PartBox();
        Due.call(none, "name");
        Due.badIndex(none, "name(0, 0) of none", () -> none.name(0, 0));
    }

    /** "Byte i of an entry." */
    private static void partTellsBytes() {
        PartBox x = new PartBox();
        Due.add(x, "first", "\u00FF\u0080\u007F\u0000");
        Due.addPacked(x, "second", "pq", 9, 7);
        int[] due = {255, 128, 127, 0};
        for (int i = 0; i < 4; i++) {
            Due.is("part(0, " + i + ")", x.part(0, i), due[i]);
        }
        Due.is("part(1, 0)", x.part(1, 0), 'p');
        Due.is("part(1, 1)", x.part(1, 1), 'q');
    }

    /** "IndexOutOfBoundsException when the entry or byte is not there": the byte, though others have more. */
    private static void partRefusesAByte() {
        PartBox x = new PartBox();
        Due.add(x, "some", "abc");
        Due.add(x, "none", "");
        Due.addPacked(x, "packed", "defg", 99, 0);
        for (int i : Due.outside(0, 2)) {
            Due.badIndex(x, "part(0, " + i + ") of 3", () -> x.part(0, i));
        }
        for (int i : Due.outside(0, -1)) {
            Due.badIndex(x, "part(1, " + i + ") of none", () -> x.part(1, i));
        }
        for (int i : Due.outside(0, 3)) {
            Due.badIndex(x, "part(2, " + i + ") of 4", () -> x.part(2, i));
        }
        PartBox full = new PartBox();
        Due.grow(full, FULL - 20);
        full.feed(0, 0, 0, 0, 7);
        Due.call(full, "full");
        full.add();
        Due.is("part(0, 65535)", full.part(0, FULL - 1), 7);
        Due.badIndex(full, "part(0, 65536)", () -> full.part(0, FULL));
    }

    /** "IndexOutOfBoundsException when the entry or byte is not there": the entry. */
    private static void partRefusesAnEntry() {
        PartBox x = letters("abcd");
        for (int entry : Due.outside(0, 3)) {
            Due.badIndex(x, "part(" + entry + ", 0)", () -> x.part(entry, 0));
            Due.badIndex(x, "part(" + entry + ", -1)", () -> x.part(entry, -1));
        }
        x.remove(3);
        Due.badIndex(x, "one that was there", () -> x.part(3, 0));
    }

    /** "How many entries." */
    private static void countCounts() {
        PartBox x = new PartBox();
        Due.is("none", x.count(), 0);
        for (int i = 0; i < 64; i++) {
            Due.call(x, "n" + i);
            x.add();
            Due.is("one more", x.count(), i + 1);
        }
        x.move(0, 63);
        Due.is("one moved", x.count(), 64);
        x.remove(63);
        Due.is("one removed", x.count(), 63);
        x.end(0);
        x.erase();
        Due.is("no row, no name", x.count(), 63);
        x.read(0);
        Due.is("after a fault", x.count(), 63);
    }
}
