import java.util.Arrays;
import java.util.List;

/** Each fault of reading, with its place and its entry, and what is just no fault. Each test quotes its words. */
public final class FaultTest {
    private static final int NONE = PartBox.NONE;
    private static final int FULL = 65536;
    private static final long GREATEST = 0xFFFFFFFFL;

    private FaultTest() {
    }

    public static void main(String[] args) {
        noEnd();
        endNeeds18MoreBytes();
        endsCommentGoesToTheRowsEnd();
        lastEndCounts();
        longestComment();
        noEndInAFullRow();
        endsDisks();
        endsNumbersAreAlike();
        endsNumbersUpTo64();
        directoryJustBeforeTheEnd();
        directorysSumDoesNotWrap();
        directoryHeadsFourBytes();
        directoryHeadsFixedPart();
        directoryHeadsEnd();
        behindTheLastDirectoryHead();
        flags();
        methods();
        disksOfEntries();
        lengthsOfNames();
        charactersOfNames();
        piecesOfNames();
        namesOfEntriesBefore();
        sizesOfStoredOnes();
        bytesAtTheLimit();
        sizesAtTheLimit();
        numbersWithoutASign();
        headsBeforeTheDirectory();
        headsPlaces();
        headsFourBytes();
        headsMethodsAndFlags();
        headsNames();
        headsNumbers();
        headsZeros();
        bytesBeforeTheDirectory();
        tailsBeforeTheDirectory();
        tailsSayTheSame();
        tailsLikeMarks();
        firstPlaceIsZero();
        placesFollow();
        lastEndIsTheDirectorys();
        noEntriesAtZero();
        checksOfStoredOnes();
        checksOfPackedOnes();
        notLookedAt();
        orderOfTheLooks();
        orderOfTheDirectory();
        Due.finish();
    }

    /** Entries a (abc) and b/c (hi): heads at 0 and 34, directory at 69, its second head at 116, end at 165. */
    private static PartBox plain() {
        PartBox x = new PartBox();
        Due.add(x, "a", "abc");
        Due.add(x, "b/c", "hi");
        x.write();
        x.remove(1);
        return x;
    }

    /** Places and new bytes by turns are put into the plain row; then reading must tell this fault. */
    private static void fault(String what, int fault, int place, int entry, int... altered) {
        PartBox x = plain();
        for (int i = 0; i < altered.length; i += 2) {
            x.alter(altered[i], altered[i + 1]);
        }
        byte[] row = Due.row(x);
        Due.readIs(x, what, 9, fault, place, entry);
        Due.is(what + ": the row stays", Due.row(x), row);
        Due.is(what + ": the box", x.count(), fault == 0 ? 2 : 1);
        Due.storedIs(x, 0, "a", "abc");
    }

    private static void sound(String what, int... altered) {
        fault(what, 0, NONE, NONE, altered);
    }

    private static void fault(String what, int fault, int place, int entry, byte[] row) {
        PartBox x = new PartBox();
        Due.load(x, row);
        Due.readIs(x, what, FULL, fault, place, entry);
    }

    private static void sound(String what, byte[] row) {
        fault(what, 0, NONE, NONE, row);
    }

    private static void put(byte[] row, int at, long number, int width) {
        for (int k = 0; k < width; k++) {
            row[at + k] = (byte) (number >> 8 * k);
        }
    }

    private static byte[] with(byte[] row, int at, long number, int width) {
        byte[] other = row.clone();
        put(other, at, number, width);
        return other;
    }

    private static byte[] mark(int length) {
        return with(new byte[length], 0, 0x06054B50, 4);
    }

    /** "1: there is none (place: the row's length)." */
    private static void noEnd() {
        sound("as written");
        fault("no row", 1, 0, NONE, new byte[0]);
        fault("one byte", 1, 1, NONE, new byte[1]);
        for (int k = 0; k < 4; k++) {
            fault("byte " + k + " of four, one more", 1, 187, NONE, 165 + k, new int[] {81, 76, 6, 7}[k]);
            fault("byte " + k + " of four, one less", 1, 187, NONE, 165 + k, new int[] {79, 74, 4, 5}[k]);
        }
    }

    /** "at which 80 75 5 6 and 18 more bytes stand". */
    private static void endNeeds18MoreBytes() {
        sound("22 bytes", mark(22));
        fault("21 bytes", 1, 21, NONE, mark(21));
        fault("the four alone", 1, 4, NONE, mark(4));
        fault("three of the four", 1, 3, NONE, Arrays.copyOf(mark(22), 3));
        Container c = new Container();
        c.stored("a", "abc");
        c.comment = mark(21);
        sound("the four and 17 bytes in a comment", c.build());
        c.comment = mark(4);
        sound("the four at the end of a comment", c.build());
    }

    /** "of which the comment goes just to the end of the row". */
    private static void endsCommentGoesToTheRowsEnd() {
        fault("a comment of 1 that is not there", 1, 187, NONE, 185, 1);
        fault("a comment of 256 that is not there", 1, 187, NONE, 186, 1);
        fault("the longest that is not there", 1, 187, NONE, 185, 255, 186, 255);
        Container c = new Container();
        c.stored("a", "abc");
        c.comment = new byte[300];
        byte[] row = c.build();
        sound("a comment of 300", row);
        fault("a byte behind it", 1, row.length + 1, NONE, Arrays.copyOf(row, row.length + 1));
        fault("a byte too few", 1, row.length - 1, NONE, Arrays.copyOf(row, row.length - 1));
        fault("299 of 300", 1, row.length, NONE, with(row, c.end + 20, 299, 2));
        fault("301 of 300", 1, row.length, NONE, with(row, c.end + 20, 301, 2));
        fault("300 without its high byte", 1, row.length, NONE, with(row, c.end + 20, 300 - 256, 2));
    }

    /** "THE END stands at the last place". */
    private static void lastEndCounts() {
        Container c = new Container();
        c.stored("a", "abc");
        c.comment = with(mark(40), 20, 17, 2);
        sound("one in a comment that does not fit", c.build());
        c.comment = with(mark(40), 20, 18, 2);
        byte[] row = c.build();
        fault("the last one that fits", 2, c.end + 22, NONE, row);
        put(row, c.end + 22 + 16, c.end + 22, 4);
        fault("the last one, with no entries", 10, 0, NONE, row);
        c.comment = new byte[60];
        put(c.comment, 0, 0x06054B50, 4);
        put(c.comment, 20, 38, 2);
        put(c.comment, 30, 0x06054B50, 4);
        put(c.comment, 50, 8, 2);
        fault("the last one of three", 2, c.end + 22 + 30, NONE, c.build());
        c.comment[50]++;
        fault("the last one of three that fits", 2, c.end + 22, NONE, c.build());
    }

    /** "the comment goes just to the end of the row": the longest one in a full row. */
    private static void longestComment() {
        Container c = new Container();
        c.comment = new byte[FULL - 22];
        byte[] row = c.build();
        sound("an end at 0", row);
        fault("one byte longer", 1, FULL, NONE, with(row, 20, FULL - 21, 2));
        fault("one byte shorter", 1, FULL, NONE, with(row, 20, FULL - 23, 2));
        Container one = new Container();
        one.stored("a", "abc");
        one.comment = new byte[FULL - 103];
        sound("with an entry", one.build());
    }

    /** "(place: the row's length)": of a full row, 65536. */
    private static void noEndInAFullRow() {
        fault("nothing but zeros", 1, FULL, NONE, new byte[FULL]);
        byte[] row = new byte[FULL];
        put(row, FULL - 21, 0x06054B50, 4);
        fault("the four too late by one", 1, FULL, NONE, row);
        byte[] late = new byte[FULL];
        put(late, FULL - 22, 0x06054B50, 4);
        fault("the last place of all", 2, FULL - 22, NONE, late);
        put(late, FULL - 22 + 16, FULL - 22, 4);
        fault("with an empty directory before it", 10, 0, NONE, late);
    }

    /** "2: a disk is not 0" "(place: the end's)". */
    private static void endsDisks() {
        for (int k = 0; k < 4; k++) {
            fault("a disk's byte " + k, 2, 165, NONE, 169 + k, 1);
            fault("a disk's highest bit " + k, 2, 165, NONE, 169 + k, 128);
        }
        fault("both disks", 2, 165, NONE, 169, 1, 171, 1);
    }

    /** "the numbers of entries are not alike". */
    private static void endsNumbersAreAlike() {
        fault("1 and 2", 2, 165, NONE, 173, 1);
        fault("2 and 1", 2, 165, NONE, 175, 1);
        fault("2 and 3", 2, 165, NONE, 175, 3);
        fault("258 and 2", 2, 165, NONE, 174, 1);
        fault("2 and 258", 2, 165, NONE, 176, 1);
        fault("0 and 2", 2, 165, NONE, 173, 0);
    }

    /** "or above 64". */
    private static void endsNumbersUpTo64() {
        fault("64, of which two are there", 3, 165, 2, 173, 64, 175, 64);
        fault("65", 2, 165, NONE, 173, 65, 175, 65);
        fault("256 and 2", 2, 165, NONE, 174, 1, 176, 1);
        fault("65535", 2, 165, NONE, 173, 255, 174, 255, 175, 255, 176, 255);
    }

    /** "or the directory does not lie just before the end". */
    private static void directoryJustBeforeTheEnd() {
        fault("one byte shorter", 2, 165, NONE, 177, 95);
        fault("one byte longer", 2, 165, NONE, 177, 97);
        fault("one byte earlier", 2, 165, NONE, 181, 68);
        fault("one byte later", 2, 165, NONE, 181, 70);
        fault("no length", 2, 165, NONE, 177, 0);
        fault("place 0", 2, 165, NONE, 181, 0);
        fault("earlier and longer: just before it", 3, 68, 0, 177, 97, 181, 68);
        fault("later and shorter: just before it", 3, 70, 0, 177, 95, 181, 70);
        fault("all of the row: just before it", 3, 0, 0, 177, 165, 181, 0);
        fault("nothing of it: just before it", 3, 165, 0, 177, 0, 181, 165);
        byte[] gap = mark(23);
        System.arraycopy(mark(22), 0, gap, 1, 22);
        fault("a byte between the two", 2, 1, NONE, gap);
    }

    /** "or the directory does not lie just before the end": sums of 32 bits without a sign are greater than any place. */
    private static void directorysSumDoesNotWrap() {
        fault("a place of 16777216 more", 2, 165, NONE, 184, 1);
        fault("a length of 16777216 more", 2, 165, NONE, 180, 1);
        fault("place -1, length 166", 2, 165, NONE, 177, 166, 181, 255, 182, 255, 183, 255, 184, 255);
        fault("length -1, place 166", 2, 165, NONE, 181, 166, 177, 255, 178, 255, 179, 255, 180, 255);
        fault("two halves", 2, 165, NONE, 180, 128, 184, 128);
    }

    /** "3: it does not begin with its four bytes": with its entry, and its place. */
    private static void directoryHeadsFourBytes() {
        for (int k = 0; k < 4; k++) {
            fault("byte " + k + " of the first", 3, 69, 0, 69 + k, 0);
            fault("byte " + k + " of the second", 3, 116, 1, 116 + k, 255);
        }
        fault("the four of another head", 3, 69, 0, 71, 3, 72, 4);
    }

    private static byte[] directoryOf(int length, int nameLength) {
        byte[] row = new byte[length + 22];
        put(row, 0, 0x02014B50, 4);
        if (length >= 30) {
            put(row, 28, nameLength, 2);
        }
        put(row, length, 0x06054B50, 4);
        put(row, length + 8, 0x00010001, 4);
        put(row, length + 12, length, 4);
        return row;
    }

    /** "or it goes beyond the end's place": by its 46 bytes alone. */
    private static void directoryHeadsFixedPart() {
        fault("no byte", 3, 0, 0, with(directoryOf(0, 0), 0, 0x06054B50, 4));
        for (int length : new int[] {4, 29, 30, 44, 45}) {
            fault(length + " bytes", 3, 0, 0, directoryOf(length, 0));
        }
        fault("46 bytes, whose name is none", 5, 0, 0, directoryOf(46, 0));
        fault("46 bytes, a name beyond", 3, 0, 0, directoryOf(46, 1));
        fault("a third one of which nothing is there", 3, 165, 2, 173, 3, 175, 3);
    }

    /** "or it goes beyond the end's place": by its name, what is extra, or the comment. */
    private static void directoryHeadsEnd() {
        for (int at : new int[] {144, 146, 148}) {
            fault("one beyond, by " + at, 3, 116, 1, at, at == 144 ? 4 : 1);
            fault("256 beyond, by " + at, 3, 116, 1, at + 1, 1);
        }
        fault("all lengths the greatest", 3, 69, 0, 97, 255, 98, 255, 99, 255, 100, 255, 101, 255, 102, 255);
        fault("the first goes just to the end", 3, 165, 1, 99, 49);
        fault("the first goes one beyond", 3, 69, 0, 99, 50);
        Container c = new Container();
        c.stored("a", "abc").directoryExtra = new byte[300];
        c.items.get(0).comment = new byte[400];
        byte[] row = c.build();
        sound("700 behind the name", row);
        fault("701", 3, c.directory, 0, with(row, c.directory + 32, 401, 2));
        fault("699", 3, c.end - 1, NONE, with(row, c.directory + 30, 299, 2));
    }

    /** "Behind the last one, at its end, 3, with entry NONE: this is not the end's place." */
    private static void behindTheLastDirectoryHead() {
        fault("one head of two", 3, 116, NONE, 173, 1, 175, 1);
        fault("none of two", 3, 69, NONE, 173, 0, 175, 0);
        fault("two bytes behind the second", 3, 163, NONE, 144, 1);
        fault("one of two, and no head behind it", 3, 116, NONE, 173, 1, 175, 1, 116, 0);
        fault("one goes to the end of two", 10, 34, NONE, 173, 1, 175, 1, 99, 49);
        fault("no head, one byte", 3, 0, NONE, with(with(directoryOf(1, 0), 9, 0, 4), 1, 0x06054B50, 4));
    }

    /** "4: flags but for 8 and 2048". */
    private static void flags() {
        for (int bit = 0; bit < 16; bit++) {
            int at = 8 + bit / 8;
            int flag = 1 << bit % 8;
            boolean taken = bit == 3 || bit == 11;
            // With a flag in the directory alone, it is the head that has other flags.
            fault("flag " + bit + " of the first", taken ? 7 : 4, taken ? 0 : 69, 0, 69 + at, flag);
            fault("flag " + bit + " of the second", taken ? 7 : 4, taken ? 34 : 116, 1, 116 + at, flag);
            if (!taken) {
                fault("flag " + bit + " beside those", 4, 69, 0, 77, 8 | (bit < 8 ? flag : 0), 78, 8 | (bit < 8 ? 0 : flag));
                fault("flag " + bit + " in both heads", 4, 69, 0, 69 + at, flag, 6 + bit / 8, flag);
            }
        }
        sound("2048 in both heads", 78, 8, 7, 8);
        Container c = new Container();
        c.stored("a", "abc").tail(true, false);
        sound("8 in both heads", c.build());
        c.items.get(0).flags |= 2048;
        sound("2048 and 8 in both heads", c.build());
    }

    /** "a method other than 0 and 8". */
    private static void methods() {
        for (int method : new int[] {1, 7, 9, 12, 128, 255}) {
            fault("method " + method, 4, 69, 0, 79, method, 8, method);
            fault("method " + method + " of the second", 4, 116, 1, 126, method, 42, method);
        }
        fault("method 256", 4, 69, 0, 80, 1, 9, 1);
        fault("method 264", 4, 69, 0, 79, 8, 80, 1, 8, 8, 9, 1);
        fault("method 32768", 4, 116, 1, 127, 128);
        PartBox x = plain();
        x.alter(79, 8);
        x.alter(8, 8);
        Due.readIs(x, "method 8", 9, 0, NONE, NONE);
        Due.packedIs(x, 0, "a", "abc", 3, (int) Container.crc(Due.latin("abc")));
    }

    /** "or a disk that is not 0". */
    private static void disksOfEntries() {
        fault("disk 1", 4, 69, 0, 103, 1);
        fault("disk 256", 4, 69, 0, 104, 1);
        fault("disk 32768 of the second", 4, 116, 1, 151, 128);
        fault("disk 65535 of the second", 4, 116, 1, 150, 255, 151, 255);
    }

    private static void named(String what, int fault, int entry, String... names) {
        Container c = new Container();
        for (String name : names) {
            c.packed(name, "1", 1, 1);
        }
        byte[] row = c.build();
        fault(what, fault, entry == NONE ? NONE : c.items.get(entry).directoryHead, entry, row);
    }

    /** "5: a name that is none": one with other than 1 to 64 characters. */
    private static void lengthsOfNames() {
        named("0 characters", 5, 0, "");
        named("0 characters of the second", 5, 1, "a", "");
        named("1 character", 0, NONE, "a");
        named("64 characters", 0, NONE, "n".repeat(64), "m".repeat(64));
        named("65 characters", 5, 0, "n".repeat(65));
        named("65 characters of the second", 5, 1, "n".repeat(64), "n".repeat(65));
        named("256 and 1 characters", 5, 0, "n".repeat(257));
        named("30000 characters", 5, 0, "n".repeat(30000));
    }

    /** "5: a name that is none": one with characters other than 33 .. 126, or a backslash. */
    private static void charactersOfNames() {
        for (int character = 0; character < 256; character++) {
            boolean taken = character >= 33 && character <= 126 && character != '\\';
            named("character " + character, taken ? 0 : 5, taken ? NONE : 0, "x" + (char) character + "y");
            boolean takenAlone = taken && character != '/' && character != '.';
            named("alone " + character, takenAlone ? 0 : 5, takenAlone ? NONE : 0, "" + (char) character);
        }
    }

    /** "5: a name that is none": one of whose pieces is empty, . or .. */
    private static void piecesOfNames() {
        for (String piece : new String[] {"", ".", ".."}) {
            for (String name : new String[] {piece, piece + "/a", "a/" + piece, "a/" + piece + "/b"}) {
                named("name " + name, 5, 0, name);
                named("name " + name + " of the second", 5, 1, "first", name);
            }
        }
        // Pieces are looked at up to the name's own end: what stands behind it is not its own.
        named("a name that ends in a dot", 0, NONE, "a.", "b..", "c/...", ".d", "..e/f");
        Container c = new Container();
        c.packed("a/", "", 0, 0).directoryExtra = Due.latin("x");
        c.items.get(0).headExtra = Due.latin("x");
        byte[] row = c.build();
        fault("a letter behind the last /", 5, c.directory, 0, row);
    }

    /** "or that of an entry before it". */
    private static void namesOfEntriesBefore() {
        named("the same", 5, 1, "same", "same");
        named("in other letters", 5, 1, "sAme", "SaMe");
        named("a and A", 5, 1, "a", "A");
        named("Z and z", 5, 1, "Z", "z");
        named("the third is like the first", 5, 2, "one", "two", "ONE", "two");
        named("the third is like the second", 5, 2, "one", "two", "tWo");
        named("64 characters", 5, 1, "n".repeat(64), "n".repeat(63) + "N");
        named("64 characters, the last another", 0, NONE, "n".repeat(64), "n".repeat(63) + "m");
        named("no letters, 32 apart", 0, NONE, "a@", "a`", "a[", "a{", "a]", "a}", "a^", "a~");
        named("longer and shorter", 0, NONE, "same", "samer", "sam", "same/r");
        String[] names = new String[64];
        for (int i = 0; i < 64; i++) {
            names[i] = "n" + i;
        }
        named("64 of them", 0, NONE, names);
        names[63] = "N0";
        named("the last like the first", 5, 63, names);
        namesAmongOtherBytes();
    }

    /** Nothing but the names themselves makes them alike or not. */
    private static void namesAmongOtherBytes() {
        Container c = new Container();
        c.packed("same", "", 0, 0).directoryExtra = Due.latin("a");
        c.packed("SAME", "", 0, 0).comment = Due.latin("b");
        byte[] row = c.build();
        int second = c.items.get(1).directoryHead;
        fault("other bytes behind them", 5, second, 1, row);
        fault("other bytes before them", 5, second, 1, with(row, second + 45, 1, 1));
        Container other = new Container();
        other.packed("sam", "", 0, 0).directoryExtra = Due.latin("e");
        other.packed("same", "", 0, 0);
        sound("extra is no part of a name", other.build());
    }

    /** "6: stored, and the number of bytes is not the size." */
    private static void sizesOfStoredOnes() {
        fault("one byte less", 6, 69, 0, 89, 2);
        fault("one byte more", 6, 69, 0, 89, 4);
        fault("size one less", 6, 116, 1, 140, 1);
        fault("size one more", 6, 116, 1, 140, 3);
        fault("size 0", 6, 116, 1, 140, 0);
        for (int k = 1; k < 4; k++) {
            fault("size's byte " + k, 6, 116, 1, 140 + k, 128);
            fault("number's byte " + k, 6, 69, 0, 89 + k, 1);
        }
        Container c = new Container();
        c.packed("a", "abc", 0, 1);
        c.packed("b", "", 5, 1);
        sound("packed ones differ", c.build());
    }

    private static void limited(String what, Container c, int limit, int fault, int entry) {
        PartBox x = new PartBox();
        Due.load(x, c.build());
        Due.readIs(x, what, limit, fault, entry == NONE ? NONE : c.items.get(entry).directoryHead, entry);
    }

    /** "9: all bytes" "of it and those before it are above the limit together". */
    private static void bytesAtTheLimit() {
        PartBox x = plain();
        Due.readIs(x, "at the limit", 5, 0, NONE, NONE);
        Due.readIs(x, "one above it", 4, 9, 116, 1);
        Due.readIs(x, "the first at it", 3, 9, 116, 1);
        Due.readIs(x, "the first above it", 2, 9, 69, 0);
        Due.readIs(x, "limit 0", 0, 9, 69, 0);
        Container c = new Container();
        c.packed("a", "abcd", 1, 0);
        c.packed("b", "", 1, 0);
        c.packed("c", "xyz", 1, 0);
        limited("bytes alone at the limit", c, 7, 0, NONE);
        limited("bytes alone above it", c, 6, 9, 2);
        limited("the first alone", c, 3, 9, 0);
        Container none = new Container();
        none.stored("a", "");
        none.stored("b", "");
        limited("no bytes, limit 0", none, 0, 0, NONE);
    }

    /** "or all sizes, of it and those before it are above the limit together". */
    private static void sizesAtTheLimit() {
        Container c = new Container();
        c.packed("a", "a", 3, 0);
        c.packed("b", "b", 0, 0);
        c.packed("c", "c", 5, 0);
        limited("sizes at the limit", c, 8, 0, NONE);
        limited("sizes above it", c, 7, 9, 2);
        limited("the first at it", c, 3, 9, 2);
        limited("the first above it", c, 2, 9, 0);
        c.items.get(0).size = FULL;
        c.items.get(2).size = 0;
        limited("65536", c, FULL, 0, NONE);
        limited("65536 above 65535", c, FULL - 1, 9, 0);
        c.items.get(0).size = FULL + 1;
        limited("65537", c, FULL, 9, 0);
        c.items.get(0).size = FULL - 1;
        c.items.get(2).size = 1;
        limited("65536 together", c, FULL, 0, NONE);
        c.items.get(2).size = 2;
        limited("65537 together", c, FULL, 9, 2);
    }

    /** "(numbers of 32 bits without a sign)". */
    private static void numbersWithoutASign() {
        for (long size : new long[] {0x7FFFFFFFL, 0x80000000L, 0x80000001L, GREATEST, GREATEST - 5}) {
            Container c = new Container();
            c.packed("a", "a", 5, 0);
            c.packed("b", "b", size, 0);
            limited("size " + size, c, FULL, 9, 1);
            c.items.get(1).size = 1;
            byte[] row = c.build();
            fault("number " + size, 9, c.items.get(1).directoryHead, 1, with(row, c.items.get(1).directoryHead + 20, size, 4));
            fault("of the first", 9, c.directory, 0, with(row, c.directory + 20, size, 4));
        }
        fault("stored, both", 9, 69, 0, 92, 255, 96, 255);
        fault("stored, the greatest after 3", 9, 116, 1, 136, 255, 137, 255, 138, 255, 139, 255, 140, 255, 141, 255, 142, 255, 143, 255);
    }

    /** "7: the head (with its name and extra) does not lie before the directory". */
    private static void headsBeforeTheDirectory() {
        fault("30 bytes before it, but no head", 7, 39, 0, 111, 39);
        fault("29 bytes before it", 7, 40, 0, 111, 40);
        fault("at the directory", 7, 69, 0, 111, 69);
        fault("behind it", 7, 116, 0, 111, 116);
        fault("extra up to the directory, no room for bytes", 8, 34, 1, 62, 2);
        fault("extra one beyond the directory", 7, 34, 1, 62, 3);
        fault("extra 256 beyond", 7, 34, 1, 63, 1);
        fault("extra 65535", 7, 34, 1, 62, 255, 63, 255);
        Container c = new Container();
        c.packed("a", "", 0, 0).headExtra = new byte[300];
        byte[] row = c.build();
        sound("extra just before the directory", row);
        fault("extra one beyond, no bytes", 7, 0, 0, with(row, 28, 301, 2));
        c.items.get(0).headExtra = new byte[0];
        row = c.build();
        sound("a name just before the directory", row);
        fault("a name beyond", 7, 0, 0, with(row, 26, 2, 2));
        headCutByTheDirectory();
    }

    /** A head of which the directory's own bytes would be the last ones. */
    private static void headCutByTheDirectory() {
        Container c = new Container();
        c.packed("a", "", 0, 0);
        byte[] row = c.build();
        for (int cut = 1; cut < 31; cut++) {
            fault("without its last " + cut, 7, 0, 0, without(row, c, cut));
        }
    }

    /** "place: that of its head (65536 when it is greater)". */
    private static void headsPlaces() {
        fault("of another head", 7, 34, 0, 111, 34);
        fault("one too far", 7, 1, 0, 111, 1);
        fault("at 255", 7, 255, 0, 111, 255);
        fault("at 256", 7, 256, 0, 112, 1);
        fault("at 65535", 7, 65535, 0, 111, 255, 112, 255);
        fault("at 65536", 7, 65536, 0, 113, 1);
        fault("at 65537", 7, 65536, 0, 111, 1, 113, 1);
        fault("at 16777216", 7, 65536, 0, 114, 1);
        fault("at 2147483647", 7, 65536, 0, 111, 255, 112, 255, 113, 255, 114, 127);
        fault("at 2147483648", 7, 65536, 0, 114, 128);
        fault("at the greatest", 7, 65536, 1, 158, 255, 159, 255, 160, 255, 161, 255);
        fault("at the greatest but 29", 7, 65536, 1, 158, 226, 159, 255, 160, 255, 161, 255);
    }

    /** "does not begin with its four bytes". */
    private static void headsFourBytes() {
        for (int k = 0; k < 4; k++) {
            fault("byte " + k + " of the first", 7, 0, 0, k, 0);
            fault("byte " + k + " of the second", 7, 34, 1, 34 + k, 255);
        }
        fault("the four of the directory", 7, 0, 0, 2, 1, 3, 2);
    }

    /** "or has another method, other flags". */
    private static void headsMethodsAndFlags() {
        fault("method 8 for 0", 7, 34, 1, 42, 8);
        fault("method 256 for 0", 7, 34, 1, 43, 1);
        fault("method 0 for 8", 7, 0, 0, 79, 8);
        for (int bit = 0; bit < 16; bit++) {
            fault("flag " + bit + " in the head alone", 7, 0, 0, 6 + bit / 8, 1 << bit % 8);
        }
        Container c = new Container();
        c.packed("a", "abc", 3, 0).tail(false, true);
        byte[] row = c.build();
        fault("8 in the directory alone", 7, 0, 0, with(row, 6, 0, 2));
        fault("8 and 2048 in the head, 8 in the directory", 7, 0, 0, with(row, 6, 2056, 2));
    }

    /** "another name than in the directory". */
    private static void headsNames() {
        fault("another letter", 7, 34, 1, 66, 'd');
        fault("another first letter", 7, 34, 1, 64, 'c');
        fault("a great letter", 7, 34, 1, 66, 'C');
        fault("one letter less", 7, 34, 1, 60, 2);
        fault("one letter more", 7, 34, 1, 60, 4);
        fault("no letter", 7, 34, 1, 60, 0);
        fault("256 letters more", 7, 34, 1, 61, 1);
        // One letter less and one byte of extra more: all that follows is where it was.
        fault("its last letter is extra", 7, 34, 1, 60, 2, 62, 1);
        Container c = new Container();
        c.packed("n".repeat(64), "", 0, 0);
        byte[] row = c.build();
        fault("the last of 64 letters", 7, 0, 0, with(row, 93, 'm', 1));
    }

    /** "or check, number or size are others". */
    private static void headsNumbers() {
        for (int k = 0; k < 12; k++) {
            PartBox x = plain();
            int was = x.byteAt(14 + k);
            fault("byte " + k + ", its lowest bit", 7, 0, 0, 14 + k, was ^ 1);
            fault("byte " + k + ", its highest bit", 7, 0, 0, 14 + k, was ^ 128);
        }
        Container c = new Container();
        c.packed("a", "abc", 7, 5);
        byte[] row = c.build();
        for (int k = 0; k < 3; k++) {
            fault("0 without flag 8, number " + k, 7, 0, 0, with(row, 14 + 4 * k, 0, 4));
        }
    }

    /** "(where flag 8 is set, each of them may also be 0)". */
    private static void headsZeros() {
        for (int some = 0; some < 8; some++) {
            Container c = new Container();
            c.packed("a", "abc", 7, 5).tail(false, true);
            byte[] row = c.build();
            for (int k = 0; k < 3; k++) {
                if ((some >> k & 1) != 0) {
                    put(row, 14 + 4 * k, 0, 4);
                }
            }
            sound("zeros " + some, row);
            for (int k = 0; k < 3; k++) {
                fault("zeros " + some + ", 9 for number " + k, 7, 0, 0, with(row, 14 + 4 * k, 9, 4));
                fault("zeros " + some + ", a high byte of number " + k, 7, 0, 0, with(row, 14 + 4 * k, 0x05000000, 4));
            }
        }
        Container zero = new Container();
        zero.packed("a", "", 0, 0).tail(false, true);
        byte[] row = zero.build();
        sound("zeros in the directory too", row);
        for (int k = 0; k < 3; k++) {
            fault("1 for a 0, number " + k, 7, 0, 0, with(row, 14 + 4 * k, 1, 4));
        }
    }

    /** "8: the bytes" "do not lie before the directory". */
    private static void bytesBeforeTheDirectory() {
        fault("one byte beyond, of a stored one", 8, 34, 1, 52, 3, 56, 3, 136, 3, 140, 3);
        Container c = new Container();
        c.packed("a", "abc", 1, 1);
        byte[] row = c.build();
        sound("just before it", row);
        fault("one byte beyond", 8, 0, 0, with(with(row, 18, 4, 4), c.directory + 20, 4, 4));
        fault("65536 bytes", 8, 0, 0, with(with(row, 18, FULL, 4), c.directory + 20, FULL, 4));
        fault("extra moves them by one", 8, 0, 0, with(row, 28, 1, 2));
        fault("one byte less is a gap", 10, 33, NONE, with(with(row, 18, 2, 4), c.directory + 20, 2, 4));
    }

    /** "or the tail, do not lie before the directory". */
    private static void tailsBeforeTheDirectory() {
        for (boolean marked : new boolean[] {false, true}) {
            Container c = new Container();
            Container.Item item = c.packed("a", "", 7, 5).tail(true, marked);
            byte[] row = c.build();
            sound("just before it, marked " + marked, row);
            for (int cut = 1; cut <= c.directory - item.firstByte; cut++) {
                fault("without its last " + cut + ", marked " + marked, 8, 0, 0, without(row, c, cut));
            }
        }
        Container none = new Container();
        Container.Item item = none.packed("a", "abc", 7, 5);
        byte[] row = none.build();
        row[item.head + 6] = 8;
        row[item.directoryHead + 8] = 8;
        fault("no tail at all", 8, 0, 0, row);
    }

    /** The row without the last bytes before its directory, and with an end that says so. */
    private static byte[] without(byte[] row, Container c, int cut) {
        byte[] shorter = Arrays.copyOf(row, row.length - cut);
        System.arraycopy(row, c.directory, shorter, c.directory - cut, row.length - c.directory);
        put(shorter, c.end - cut + 16, c.directory - cut, 4);
        return shorter;
    }

    /** "or the tail" "says otherwise than the directory". */
    private static void tailsSayTheSame() {
        for (boolean marked : new boolean[] {false, true}) {
            String what = marked ? "marked: " : "bare: ";
            Container c = new Container();
            c.packed("a", "abc", 7, 5).tail(true, marked);
            Container.Item item = c.packed("b", "xyz", 2, 0x01020304).tail(true, marked);
            byte[] row = c.build();
            sound(what, row);
            for (int k = 0; k < 12; k++) {
                int was = row[item.tail + k];
                fault(what + "tail's byte " + k + ", lowest bit", 8, item.head, 1, with(row, item.tail + k, was ^ 1, 1));
                fault(what + "tail's byte " + k + ", highest bit", 8, item.head, 1, with(row, item.tail + k, was ^ 128, 1));
            }
            for (int k = 0; k < 3; k++) {
                fault(what + "no 0 in a tail, number " + k, 8, item.head, 1, with(row, item.tail + 4 * k, 0, 4));
            }
            fault(what + "the first's", 8, 0, 0, with(row, c.items.get(0).tail, 6, 4));
        }
    }

    /** "(that with the four bytes, if these stand there, otherwise that without)". */
    private static void tailsLikeMarks() {
        Container c = new Container();
        Container.Item item = c.packed("a", "abc", 7, 0x08074B50).tail(true, false);
        fault("a check like the mark, bare", 8, 0, 0, c.build());
        item.markedTail = true;
        byte[] row = c.build();
        sound("a check like the mark, marked", row);
        item.check = 5;
        row = c.build();
        for (int k = 0; k < 4; k++) {
            fault("byte " + k + " of the mark", 8, 0, 0, with(row, item.tail - 4 + k, 0, 1));
        }
        Container stored = new Container();
        stored.stored("a", "PK\u0007\u0008").tail(true, false);
        sound("the four bytes before the tail's place", stored.build());
        stored.items.get(0).markedTail = true;
        sound("and at it", stored.build());
        Container bare = new Container();
        bare.packed("a", "", 7, 5).tail(true, false);
        bare.packed("b", "", 7, 5);
        sound("no mark, though there is room for one", bare.build());
    }

    private static Container three() {
        Container c = new Container();
        c.packed("a", "", 0, 0);
        c.packed("b", "", 0, 0).tail(true, true);
        c.packed("c", "", 0, 0);
        return c;
    }

    private static void ordered(String what, int fault, int place, int entry, Integer... order) {
        Container c = three();
        c.directoryOrder = List.of(order);
        fault(what, fault, place, entry, c.build());
    }

    /** "10: the first one's place is not 0 (entry: it, place: 0)". */
    private static void firstPlaceIsZero() {
        ordered("b is the first", 10, 0, 0, 1, 2);
        ordered("b is the first, the second in the directory", 10, 0, 1, 2, 1);
        ordered("c alone", 10, 0, 0, 2);
        byte[] row = new byte[101];
        Container c = new Container();
        c.packed("a", "", 0, 0);
        System.arraycopy(c.build(), 0, row, 1, 100);
        put(row, 1 + c.directory + 42, 1, 4);
        put(row, 1 + c.end + 16, 1 + c.directory, 4);
        fault("a byte before the first", 10, 0, 0, row);
    }

    /** "or that of another one not the end of the one before it (entry: it, place: that end)". */
    private static void placesFollow() {
        ordered("in order", 0, NONE, NONE, 0, 1, 2);
        ordered("backwards", 0, NONE, NONE, 2, 1, 0);
        ordered("b is not in the directory", 10, 31, 1, 0, 2);
        ordered("b is not in it, c before a", 10, 31, 0, 2, 0);
        Container inner = new Container();
        inner.packed("b", "", 0, 0);
        byte[] head = Arrays.copyOf(inner.build(), 31);
        Container outer = new Container();
        outer.packed("a", Due.text(head), 0, 0);
        outer.packed("b", "", 0, 0);
        byte[] row = outer.build();
        put(row, outer.items.get(1).directoryHead + 42, 31, 4);
        fault("a head in another one's bytes", 10, 62, 1, row);
        outer.packed("c", "", 0, 0);
        row = outer.build();
        put(row, outer.items.get(1).directoryHead + 42, 31, 4);
        fault("and one behind it", 10, 62, 1, row);
        byteBetween();
    }

    private static void byteBetween() {
        Container c = new Container();
        c.packed("a", "x", 0, 0);
        c.packed("b", "", 0, 0);
        byte[] row = c.build();
        put(row, 18, 0, 4);
        put(row, c.directory + 20, 0, 4);
        fault("one byte between", 10, 31, 1, row);
    }

    /** "or the end of the last one is not the directory's place (entry NONE, place: that end". */
    private static void lastEndIsTheDirectorys() {
        ordered("c is not in the directory", 10, 31 + 31 + 16, NONE, 0, 1);
        ordered("nor is b", 10, 31, NONE, 0);
        ordered("a behind b in the directory", 10, 31 + 31 + 16, NONE, 1, 0);
    }

    /** "for no entries, 0)". */
    private static void noEntriesAtZero() {
        ordered("nothing but a gap", 10, 0, NONE);
        fault("no entries, but two heads", 10, 0, NONE, 173, 0, 175, 0, 177, 0, 181, 165);
        byte[] row = new byte[23];
        put(row, 1, 0x06054B50, 4);
        put(row, 17, 1, 4);
        fault("one byte before an empty directory", 10, 0, NONE, row);
        sound("no byte before it", mark(22));
    }

    /** "11: its check is not that of its bytes (place: that of its first byte)." */
    private static void checksOfStoredOnes() {
        for (int i = 0; i < 3; i++) {
            fault("byte " + i + " of the first", 11, 31, 0, 31 + i, 'x');
        }
        fault("a byte of the second", 11, 67, 1, 68, 'x');
        fault("both: the first", 11, 31, 0, 31, 'x', 67, 'x');
        for (int k = 0; k < 4; k++) {
            int was = plain().byteAt(48 + k);
            fault("byte " + k + " of a check", 11, 67, 1, 48 + k, was ^ 128, 132 + k, was ^ 128);
        }
        Container c = new Container();
        c.stored("none", "");
        c.stored("tail", "abc").tail(true, true).headExtra = new byte[5];
        byte[] row = c.build();
        sound("no bytes, and a tail", row);
        row[c.items.get(1).firstByte + 2] ^= 1;
        fault("behind extra, before a tail", 11, c.items.get(1).firstByte, 1, row);
        c.items.get(0).check = 1;
        fault("a check of no bytes", 11, 34, 0, c.build());
        longestBytes();
    }

    private static void longestBytes() {
        Container c = new Container();
        c.stored("a", "x".repeat(FULL - 100));
        byte[] row = c.build();
        sound("65436 bytes", row);
        row[31 + FULL - 101] ^= 1;
        fault("the last of 65436 bytes", 11, 31, 0, row);
    }

    /** "Each stored entry in turn": packed ones are not looked at. */
    private static void checksOfPackedOnes() {
        Container c = new Container();
        c.packed("a", "abc", 3, 1);
        c.stored("b", "abc");
        sound("a packed one with any check", c.build());
        c.items.get(1).check = 1;
        fault("a stored one with any check", 11, c.build().length - 22 - 2 * 47 - 3, 1, c.build());
    }

    /** What no fault names, any bytes may be: versions, times, attributes, and what is extra. */
    private static void notLookedAt() {
        for (int at : new int[] {4, 5, 10, 11, 12, 13, 73, 74, 75, 76, 81, 82, 83, 84, 105, 106, 107, 108, 109, 110}) {
            sound("255 at " + at, at, 255);
        }
    }

    /** "READING a row looks at what follows, in this order, and stops at the first FAULT". */
    private static void orderOfTheLooks() {
        fault("1 before 2", 1, 187, NONE, 165, 0, 169, 1);
        fault("2 before 3", 2, 165, NONE, 169, 1, 69, 0);
        fault("3 before 4", 3, 69, 0, 69, 0, 79, 9);
        fault("4 before 5", 4, 69, 0, 79, 9, 115, '/');
        fault("5 before 6", 5, 69, 0, 115, '/', 89, 9);
        fault("6 before 9", 6, 69, 0, 89, 99);
        fault("9 before 3 at the directory's end", 9, 116, 1, 136, 99, 140, 99, 144, 1);
        fault("3 at the directory's end before 7", 3, 163, NONE, 144, 1, 0, 0);
        fault("9 before 7", 9, 116, 1, 136, 99, 140, 99, 0, 0);
        fault("7 before 8", 7, 34, 1, 34, 0, 52, 3, 56, 3, 136, 3, 140, 3);
        fault("8 before 10", 8, 34, 1, 52, 3, 56, 3, 136, 3, 140, 3);
        fault("8 before 11", 8, 34, 1, 52, 3, 56, 3, 136, 3, 140, 3, 31, 'x');
        Container c = new Container();
        c.stored("a", "abc");
        c.stored("b", "abc");
        c.directoryOrder = List.of(1);
        byte[] row = c.build();
        row[c.items.get(1).firstByte] ^= 1;
        fault("10 before 11", 10, 0, 0, row);
    }

    /** "Each directory head in turn", "Each entry in turn", "Each stored entry in turn": by the directory. */
    private static void orderOfTheDirectory() {
        fault("9 of the first before 3 of the second", 9, 69, 0, 89, 99, 93, 99, 116, 0);
        fault("6 of the first before 4 of the second", 6, 69, 0, 89, 2, 126, 9);
        fault("4 of the first before 4 of the second", 4, 69, 0, 79, 9, 126, 9);
        fault("7 of the first before 7 of the second", 7, 0, 0, 0, 0, 34, 0);
        Container c = new Container();
        c.stored("a", "abc").tail(true, true);
        c.stored("b", "abc").tail(true, true);
        byte[] row = c.build();
        row[c.items.get(0).tail] ^= 1;
        fault("8 of the first before 7 of the second", 8, 0, 0, with(row, c.items.get(1).head, 0, 1));
        c.directoryOrder = List.of(1, 0);
        Container.Item b = c.items.get(1);
        row = c.build();
        fault("7: b is the first", 7, b.head, 0, with(with(row, 0, 0, 1), b.head, 0, 1));
        fault("7: a is the second", 7, 0, 1, with(row, 0, 0, 1));
        fault("8: b is the first", 8, b.head, 0, with(with(row, c.items.get(0).tail, 0, 4), b.tail, 0, 4));
        fault("11: b is the first", 11, b.firstByte, 0, with(with(row, 31, 0, 1), b.firstByte, 0, 1));
        fault("11: a is the second", 11, 31, 1, with(row, 31, 0, 1));
    }
}
